/-! Blocks of the reference, laid by gen.py. -/
theorem inX11_advanceSequence_RX11 : ∀ x ∈ u_ws RX11 TX11 20, x ∈ wsX11_advanceSequence := by decide +kernel
theorem inX11_append_RX11 : ∀ x ∈ u_ws RX11 TX11 20, x ∈ wsX11_append := by decide +kernel
theorem inX11_appendWord_RX11 : ∀ x ∈ u_ws RX11 TX11 20, x ∈ wsX11_appendWord := by decide +kernel
theorem inX11_begin_RX11 : ∀ x ∈ u_ws RX11 TX11 20, x ∈ wsX11_begin := by decide +kernel
theorem inX11_bestFirst_RX11 : ∀ x ∈ u_ws RX11 TX11 20, x ∈ wsX11_bestFirst := by decide +kernel
theorem inX11_cellCount_RX11 : ∀ x ∈ u_ws RX11 TX11 20, x ∈ wsX11_cellCount := by decide +kernel
theorem inX11_clear_RX11 : ∀ x ∈ u_ws RX11 TX11 20, x ∈ wsX11_clear := by decide +kernel
theorem inX11_contentCount_RX11 : ∀ x ∈ u_ws RX11 TX11 20, x ∈ wsX11_contentCount := by decide +kernel
theorem inX11_contiguousLeast_RX11 : ∀ x ∈ u_ws RX11 TX11 20, x ∈ wsX11_contiguousLeast := by decide +kernel
theorem inX11_contiguousWelfare_RX11 : ∀ x ∈ u_ws RX11 TX11 20, x ∈ wsX11_contiguousWelfare := by decide +kernel
theorem inX11_copyBlock_RX11 : ∀ x ∈ u_ws RX11 TX11 20, x ∈ wsX11_copyBlock := by decide +kernel
theorem inX11_cutCount_RX11 : ∀ x ∈ u_ws RX11 TX11 20, x ∈ wsX11_cutCount := by decide +kernel
theorem inX11_cutOf_RX11 : ∀ x ∈ u_ws RX11 TX11 20, x ∈ wsX11_cutOf := by decide +kernel
theorem inX11_divide_RX11 : ∀ x ∈ u_ws RX11 TX11 20, x ∈ wsX11_divide := by decide +kernel
theorem inX11_doIt_RX11 : ∀ x ∈ u_ws RX11 TX11 20, x ∈ wsX11_doIt := by decide +kernel
theorem inX11_enviersOf_RX11 : ∀ x ∈ u_ws RX11 TX11 20, x ∈ wsX11_enviersOf := by decide +kernel
theorem inX11_envyCycleMember_RX11 : ∀ x ∈ u_ws RX11 TX11 20, x ∈ wsX11_envyCycleMember := by decide +kernel
theorem inX11_envyTotal_RX11 : ∀ x ∈ u_ws RX11 TX11 20, x ∈ wsX11_envyTotal := by decide +kernel
theorem inX11_errorCode_RX11 : ∀ x ∈ u_ws RX11 TX11 20, x ∈ wsX11_errorCode := by decide +kernel
theorem inX11_errorPosition_RX11 : ∀ x ∈ u_ws RX11 TX11 20, x ∈ wsX11_errorPosition := by decide +kernel
theorem inX11_exchange_RX11 : ∀ x ∈ u_ws RX11 TX11 20, x ∈ wsX11_exchange := by decide +kernel
theorem inX11_extend_RX11 : ∀ x ∈ u_ws RX11 TX11 20, x ∈ wsX11_extend := by decide +kernel
theorem inX11_fails_RX11 : ∀ x ∈ u_ws RX11 TX11 20, x ∈ wsX11_fails := by decide +kernel
theorem inX11_favourite_RX11 : ∀ x ∈ u_ws RX11 TX11 20, x ∈ wsX11_favourite := by decide +kernel
theorem inX11_findCycle_RX11 : ∀ x ∈ u_ws RX11 TX11 20, x ∈ wsX11_findCycle := by decide +kernel
theorem inX11_findSibling_RX11 : ∀ x ∈ u_ws RX11 TX11 20, x ∈ wsX11_findSibling := by decide +kernel
theorem inX11_greatestTotalWelfare_RX11 : ∀ x ∈ u_ws RX11 TX11 20, x ∈ wsX11_greatestTotalWelfare := by decide +kernel
theorem inX11_hasMildEnvy_RX11 : ∀ x ∈ u_ws RX11 TX11 20, x ∈ wsX11_hasMildEnvy := by decide +kernel
theorem inX11_inconsistencies_RX11 : ∀ x ∈ u_ws RX11 TX11 20, x ∈ wsX11_inconsistencies := by decide +kernel
theorem inX11_isCell_RX11 : ∀ x ∈ u_ws RX11 TX11 20, x ∈ wsX11_isCell := by decide +kernel
theorem inX11_isContent_RX11 : ∀ x ∈ u_ws RX11 TX11 20, x ∈ wsX11_isContent := by decide +kernel
theorem inX11_isShortWord_RX11 : ∀ x ∈ u_ws RX11 TX11 20, x ∈ wsX11_isShortWord := by decide +kernel
theorem inX11_isSibling_RX11 : ∀ x ∈ u_ws RX11 TX11 20, x ∈ wsX11_isSibling := by decide +kernel
theorem inX11_knife_RX11 : ∀ x ∈ u_ws RX11 TX11 20, x ∈ wsX11_knife := by decide +kernel
theorem inX11_least_RX11 : ∀ x ∈ u_ws RX11 TX11 20, x ∈ wsX11_least := by decide +kernel
theorem inX11_load_RX11 : ∀ x ∈ u_ws RX11 TX11 20, x ∈ wsX11_load := by decide +kernel
theorem inX11_markOf_RX11 : ∀ x ∈ u_ws RX11 TX11 20, x ∈ wsX11_markOf := by decide +kernel
theorem inX11_meanPieces_RX11 : ∀ x ∈ u_ws RX11 TX11 20, x ∈ wsX11_meanPieces := by decide +kernel
theorem inX11_mostEnvied_RX11 : ∀ x ∈ u_ws RX11 TX11 20, x ∈ wsX11_mostEnvied := by decide +kernel
theorem inX11_movingKnife_RX11 : ∀ x ∈ u_ws RX11 TX11 20, x ∈ wsX11_movingKnife := by decide +kernel
theorem inX11_nameByte_RX11 : ∀ x ∈ u_ws RX11 TX11 20, x ∈ wsX11_nameByte := by decide +kernel
theorem inX11_outputByte_RX11 : ∀ x ∈ u_ws RX11 TX11 20, x ∈ wsX11_outputByte := by decide +kernel
theorem inX11_own_RX11 : ∀ x ∈ u_ws RX11 TX11 20, x ∈ wsX11_own := by decide +kernel
theorem inX11_ownerOf_RX11 : ∀ x ∈ u_ws RX11 TX11 20, x ∈ wsX11_ownerOf := by decide +kernel
theorem inX11_parseNewSibling_RX11 : ∀ x ∈ u_ws RX11 TX11 20, x ∈ wsX11_parseNewSibling := by decide +kernel
theorem inX11_parseNumber_RX11 : ∀ x ∈ u_ws RX11 TX11 20, x ∈ wsX11_parseNumber := by decide +kernel
theorem inX11_parseRanged_RX11 : ∀ x ∈ u_ws RX11 TX11 20, x ∈ wsX11_parseRanged := by decide +kernel
theorem inX11_parseScript_RX11 : ∀ x ∈ u_ws RX11 TX11 20, x ∈ wsX11_parseScript := by decide +kernel
theorem inX11_parseSetup_RX11 : ∀ x ∈ u_ws RX11 TX11 20, x ∈ wsX11_parseSetup := by decide +kernel
theorem inX11_parseSibling_RX11 : ∀ x ∈ u_ws RX11 TX11 20, x ∈ wsX11_parseSibling := by decide +kernel
theorem inX11_pieces_RX11 : ∀ x ∈ u_ws RX11 TX11 20, x ∈ wsX11_pieces := by decide +kernel
theorem inX11_plain_RX11 : ∀ x ∈ u_ws RX11 TX11 20, x ∈ wsX11_plain := by decide +kernel
theorem inX11_put_RX11 : ∀ x ∈ u_ws RX11 TX11 20, x ∈ wsX11_put := by decide +kernel
theorem inX11_putRun_RX11 : ∀ x ∈ u_ws RX11 TX11 20, x ∈ wsX11_putRun := by decide +kernel
theorem inX11_reaches_RX11 : ∀ x ∈ u_ws RX11 TX11 20, x ∈ wsX11_reaches := by decide +kernel
theorem inX11_remember_RX11 : ∀ x ∈ u_ws RX11 TX11 20, x ∈ wsX11_remember := by decide +kernel
theorem inX11_restore_RX11 : ∀ x ∈ u_ws RX11 TX11 20, x ∈ wsX11_restore := by decide +kernel
theorem inX11_robin_RX11 : ∀ x ∈ u_ws RX11 TX11 20, x ∈ wsX11_robin := by decide +kernel
theorem inX11_runScript_RX11 : ∀ x ∈ u_ws RX11 TX11 20, x ∈ wsX11_runScript := by decide +kernel
theorem inX11_save_RX11 : ∀ x ∈ u_ws RX11 TX11 20, x ∈ wsX11_save := by decide +kernel
theorem inX11_semicolon_RX11 : ∀ x ∈ u_ws RX11 TX11 20, x ∈ wsX11_semicolon := by decide +kernel
theorem inX11_setValue_RX11 : ∀ x ∈ u_ws RX11 TX11 20, x ∈ wsX11_setValue := by decide +kernel
theorem inX11_siblingCount_RX11 : ∀ x ∈ u_ws RX11 TX11 20, x ∈ wsX11_siblingCount := by decide +kernel
theorem inX11_siblingNamed_RX11 : ∀ x ∈ u_ws RX11 TX11 20, x ∈ wsX11_siblingNamed := by decide +kernel
theorem inX11_sizeOf_RX11 : ∀ x ∈ u_ws RX11 TX11 20, x ∈ wsX11_sizeOf := by decide +kernel
theorem inX11_strongEnvyCount_RX11 : ∀ x ∈ u_ws RX11 TX11 20, x ∈ wsX11_strongEnvyCount := by decide +kernel
theorem inX11_swapSequence_RX11 : ∀ x ∈ u_ws RX11 TX11 20, x ∈ wsX11_swapSequence := by decide +kernel
theorem inX11_thrown_RX11 : ∀ x ∈ u_ws RX11 TX11 20, x ∈ wsX11_thrown := by decide +kernel
theorem inX11_token_RX11 : ∀ x ∈ u_ws RX11 TX11 20, x ∈ wsX11_token := by decide +kernel
theorem inX11_totalOf_RX11 : ∀ x ∈ u_ws RX11 TX11 20, x ∈ wsX11_totalOf := by decide +kernel
theorem inX11_totalWelfare_RX11 : ∀ x ∈ u_ws RX11 TX11 20, x ∈ wsX11_totalWelfare := by decide +kernel
theorem inX11_truncate_RX11 : ∀ x ∈ u_ws RX11 TX11 20, x ∈ wsX11_truncate := by decide +kernel
theorem inX11_turnCycle_RX11 : ∀ x ∈ u_ws RX11 TX11 20, x ∈ wsX11_turnCycle := by decide +kernel
theorem inX11_undo_RX11 : ∀ x ∈ u_ws RX11 TX11 20, x ∈ wsX11_undo := by decide +kernel
theorem inX11_valueOf_RX11 : ∀ x ∈ u_ws RX11 TX11 20, x ∈ wsX11_valueOf := by decide +kernel
theorem inX11_walkTo_RX11 : ∀ x ∈ u_ws RX11 TX11 20, x ∈ wsX11_walkTo := by decide +kernel
theorem inX11_welfareProduct_RX11 : ∀ x ∈ u_ws RX11 TX11 20, x ∈ wsX11_welfareProduct := by decide +kernel
theorem inX11_worthShare_RX11 : ∀ x ∈ u_ws RX11 TX11 20, x ∈ wsX11_worthShare := by decide +kernel
theorem inX11_writeOwners_RX11 : ∀ x ∈ u_ws RX11 TX11 20, x ∈ wsX11_writeOwners := by decide +kernel
theorem inX11_wrong_RX11 : ∀ x ∈ u_ws RX11 TX11 20, x ∈ wsX11_wrong := by decide +kernel
theorem inX11_isWord_RX11 : ∀ x ∈ u_ws RX11 TX11 20, x ∈ wsX11_isWord := by decide +kernel
abbrev bX11_advanceSequence_0_9 (K : cw_K) (r : Option Value) (J0 : cw_M) (x1 : Int32) (I : cw_M) : Prop := cw_B (cr_w K) mX11_advanceSequence (cw_Z (cr_w K) r J0) 0 0 I 9 [(0, .ref (cw_a (cr_w K) 0)), (1, .int x1)] []
abbrev bX11_advanceSequence_0_51 (K : cw_K) (r : Option Value) (J0 : cw_M) (x1 : Int32) (x2 : Int32) (I : cw_M) : Prop := cw_B (cr_w K) mX11_advanceSequence (cw_Z (cr_w K) r J0) 0 0 I 51 [(0, .ref (cw_a (cr_w K) 0)), (1, .int x1), (2, .int x2)] []
abbrev bX11_advanceSequence_0_92 (K : cw_K) (r : Option Value) (J0 : cw_M) (x3 : Int32) (x4 : Int32) (I : cw_M) : Prop := cw_B (cr_w K) mX11_advanceSequence (cw_Z (cr_w K) r J0) 0 0 I 92 [(0, .ref (cw_a (cr_w K) 0)), (3, .int x3), (4, .int x4)] []
set_option maxRecDepth 20000 in
set_option maxHeartbeats 4000000 in
theorem eX11_advanceSequence_0 {K : cw_K} {r : Option Value} {J0 I : cw_M} (h : bX11_advanceSequence_0_9 K r J0 ((I 1 1) - 2) I) : cw_C (cr_w K) mX11_advanceSequence [.ref (cw_a (cr_w K) 0)] I r J0 := by
  refine cw_entry okX11_advanceSequence (Nat.le_of_ble_eq_true rfl) (show cw_B (cr_w K) mX11_advanceSequence (cw_Z (cr_w K) r J0) 0 0 I 0 [(0, .ref (cw_a (cr_w K) 0))] [] from ?_)
  refine cw_aload_n dX11_advanceSequence_0 0 rfl rfl ?_
  refine cw_getf (C := RX11) (T := TX11) (N := 20) (ci := 9) inX11_advanceSequence_RX11 0 (show 0 < 11 by decide) rfl rfl 0 (by decide) (by decide +kernel) rfl dX11_advanceSequence_1 ?_
  refine cw_iconst (v := 1) dX11_advanceSequence_4 (by decide) ?_
  refine cw_ialdL (j := 1) 1 (show 1 < 11 by decide) rfl 0 rfl dX11_advanceSequence_5 rfl (by decide) (by decide) ?_
  refine cw_iconst (v := 2) dX11_advanceSequence_6 (by decide) ?_
  refine cw_isub dX11_advanceSequence_7 ?_
  refine cw_istore_n dX11_advanceSequence_8 rfl (by decide) rfl ?_
  refine cw_sub [1, 0] rfl ?_
  exact h
set_option maxRecDepth 20000 in
set_option maxHeartbeats 4000000 in
theorem tbX11_advanceSequence_0_9 {K : cw_K} {r : Option Value} {J0 I : cw_M} {x1 : Int32} (h : ((x1 < 0 → ((0 ≤ x1 → bX11_advanceSequence_0_51 K r J0 x1 ((I 1 1) - 1) I) ∧ (¬ 0 ≤ x1 → (r = some (.int 0) ∧ J0 = I)))) ∧ (¬ x1 < 0 → (vp_in x1 6 ∧ (vp_in (x1 + 1) 6 ∧ (((I 9 x1.toNatClampNeg) ≤ (I 9 (x1 + 1).toNatClampNeg) → ((0 ≤ x1 → bX11_advanceSequence_0_51 K r J0 x1 ((I 1 1) - 1) I) ∧ (¬ 0 ≤ x1 → (r = some (.int 0) ∧ J0 = I)))) ∧ (¬ (I 9 x1.toNatClampNeg) ≤ (I 9 (x1 + 1).toNatClampNeg) → bX11_advanceSequence_0_9 K r J0 (x1 + (-1)) I))))))) : bX11_advanceSequence_0_9 K r J0 x1 I := by
  refine cw_iload_n dX11_advanceSequence_9 1 rfl rfl ?_
  refine cw_if_lt (tgt := 36) dX11_advanceSequence_10 (by decide) (fun q => ?_) (fun q => ?_)
  · have h := h.1 q
    refine cw_iload_n dX11_advanceSequence_36 1 rfl rfl ?_
    refine cw_if_ge (tgt := 42) dX11_advanceSequence_37 (by decide) (fun q => ?_) (fun q => ?_)
    · have h := h.1 q
      refine cw_aload_n dX11_advanceSequence_42 0 rfl rfl ?_
      refine cw_getf (C := RX11) (T := TX11) (N := 20) (ci := 9) inX11_advanceSequence_RX11 0 (show 0 < 11 by decide) rfl rfl 0 (by decide) (by decide +kernel) rfl dX11_advanceSequence_43 ?_
      refine cw_iconst (v := 1) dX11_advanceSequence_46 (by decide) ?_
      refine cw_ialdL (j := 1) 1 (show 1 < 11 by decide) rfl 0 rfl dX11_advanceSequence_47 rfl (by decide) (by decide) ?_
      refine cw_iconst (v := 1) dX11_advanceSequence_48 (by decide) ?_
      refine cw_isub dX11_advanceSequence_49 ?_
      refine cw_istore_n dX11_advanceSequence_50 rfl (by decide) rfl ?_
      refine cw_sub [1, 2, 0] rfl ?_
      exact h
    · have h := h.2 q
      refine cw_iconst (v := 0) dX11_advanceSequence_40 (by decide) ?_
      exact cw_bret rfl dX11_advanceSequence_41 (by decide) h
  · have h := h.2 q
    refine cw_aload_n dX11_advanceSequence_13 0 rfl rfl ?_
    refine cw_getf (C := RX11) (T := TX11) (N := 20) (ci := 9) inX11_advanceSequence_RX11 0 (show 0 < 11 by decide) rfl rfl 14 (by decide) (by decide +kernel) rfl dX11_advanceSequence_14 ?_
    refine cw_iload_n dX11_advanceSequence_17 1 rfl rfl ?_
    obtain ⟨g_18, h⟩ := h
    refine cw_iald 9 (show 9 < 11 by decide) rfl 0 rfl dX11_advanceSequence_18 g_18 ?_
    refine cw_aload_n dX11_advanceSequence_19 0 rfl rfl ?_
    refine cw_getf (C := RX11) (T := TX11) (N := 20) (ci := 9) inX11_advanceSequence_RX11 0 (show 0 < 11 by decide) rfl rfl 14 (by decide) (by decide +kernel) rfl dX11_advanceSequence_20 ?_
    refine cw_iload_n dX11_advanceSequence_23 1 rfl rfl ?_
    refine cw_iconst (v := 1) dX11_advanceSequence_24 (by decide) ?_
    refine cw_iadd dX11_advanceSequence_25 ?_
    obtain ⟨g_26, h⟩ := h
    refine cw_iald 9 (show 9 < 11 by decide) rfl 0 rfl dX11_advanceSequence_26 g_26 ?_
    refine cw_icmp_le (tgt := 36) dX11_advanceSequence_27 (by decide) (fun q => ?_) (fun q => ?_)
    · have h := h.1 q
      refine cw_iload_n dX11_advanceSequence_36 1 rfl rfl ?_
      refine cw_if_ge (tgt := 42) dX11_advanceSequence_37 (by decide) (fun q => ?_) (fun q => ?_)
      · have h := h.1 q
        refine cw_aload_n dX11_advanceSequence_42 0 rfl rfl ?_
        refine cw_getf (C := RX11) (T := TX11) (N := 20) (ci := 9) inX11_advanceSequence_RX11 0 (show 0 < 11 by decide) rfl rfl 0 (by decide) (by decide +kernel) rfl dX11_advanceSequence_43 ?_
        refine cw_iconst (v := 1) dX11_advanceSequence_46 (by decide) ?_
        refine cw_ialdL (j := 1) 1 (show 1 < 11 by decide) rfl 0 rfl dX11_advanceSequence_47 rfl (by decide) (by decide) ?_
        refine cw_iconst (v := 1) dX11_advanceSequence_48 (by decide) ?_
        refine cw_isub dX11_advanceSequence_49 ?_
        refine cw_istore_n dX11_advanceSequence_50 rfl (by decide) rfl ?_
        refine cw_sub [1, 2, 0] rfl ?_
        exact h
      · have h := h.2 q
        refine cw_iconst (v := 0) dX11_advanceSequence_40 (by decide) ?_
        exact cw_bret rfl dX11_advanceSequence_41 (by decide) h
    · have h := h.2 q
      refine cw_iinc (v := x1 + (-1)) dX11_advanceSequence_30 (j := 1) rfl rfl (by decide) rfl ?_
      refine cw_goto (tgt := 9) dX11_advanceSequence_33 (by decide) ?_
      refine cw_sub [1, 0] rfl ?_
      exact h
set_option maxRecDepth 20000 in
set_option maxHeartbeats 4000000 in
theorem tbX11_advanceSequence_0_51 {K : cw_K} {r : Option Value} {J0 I : cw_M} {x1 : Int32} {x2 : Int32} (h : (vp_in x2 6 ∧ (vp_in x1 6 ∧ (((I 9 x1.toNatClampNeg) ≤ (I 9 x2.toNatClampNeg) → (∃ J_75 : cw_M, cw_C (cr_w K) mX11_swapSequence [.ref (cw_a (cr_w K) 0), .int x1, .int x2] I none J_75 ∧ bX11_advanceSequence_0_92 K r J0 (x1 + 1) ((J_75 1 1) - 1) J_75)) ∧ (¬ (I 9 x1.toNatClampNeg) ≤ (I 9 x2.toNatClampNeg) → bX11_advanceSequence_0_51 K r J0 x1 (x2 + (-1)) I))))) : bX11_advanceSequence_0_51 K r J0 x1 x2 I := by
  refine cw_aload_n dX11_advanceSequence_51 0 rfl rfl ?_
  refine cw_getf (C := RX11) (T := TX11) (N := 20) (ci := 9) inX11_advanceSequence_RX11 0 (show 0 < 11 by decide) rfl rfl 14 (by decide) (by decide +kernel) rfl dX11_advanceSequence_52 ?_
  refine cw_iload_n dX11_advanceSequence_55 2 rfl rfl ?_
  obtain ⟨g_56, h⟩ := h
  refine cw_iald 9 (show 9 < 11 by decide) rfl 0 rfl dX11_advanceSequence_56 g_56 ?_
  refine cw_aload_n dX11_advanceSequence_57 0 rfl rfl ?_
  refine cw_getf (C := RX11) (T := TX11) (N := 20) (ci := 9) inX11_advanceSequence_RX11 0 (show 0 < 11 by decide) rfl rfl 14 (by decide) (by decide +kernel) rfl dX11_advanceSequence_58 ?_
  refine cw_iload_n dX11_advanceSequence_61 1 rfl rfl ?_
  obtain ⟨g_62, h⟩ := h
  refine cw_iald 9 (show 9 < 11 by decide) rfl 0 rfl dX11_advanceSequence_62 g_62 ?_
  refine cw_icmp_ge (tgt := 72) dX11_advanceSequence_63 (by decide) (fun q => ?_) (fun q => ?_)
  · have h := h.1 q
    refine cw_aload_n dX11_advanceSequence_72 0 rfl rfl ?_
    refine cw_iload_n dX11_advanceSequence_73 1 rfl rfl ?_
    refine cw_iload_n dX11_advanceSequence_74 2 rfl rfl ?_
    obtain ⟨J_75, hc_75, h⟩ := h
    refine cw_callV (o := 0) (As := [.int x1, .int x2]) hc_75 okX11_swapSequence rfl gX11_advanceSequence_X11_swapSequence (by decide) (show 0 < 11 by decide) rfl (ci := 9) rfl rfl (Nat.le_of_ble_eq_true rfl) dX11_advanceSequence_75 ?_
    refine cw_iload_n dX11_advanceSequence_78 1 rfl rfl ?_
    refine cw_iconst (v := 1) dX11_advanceSequence_79 (by decide) ?_
    refine cw_iadd dX11_advanceSequence_80 ?_
    refine cw_istore_n dX11_advanceSequence_81 rfl (by decide) rfl ?_
    refine cw_aload_n dX11_advanceSequence_82 1 rfl rfl ?_
    refine cw_getf (C := RX11) (T := TX11) (N := 20) (ci := 9) inX11_advanceSequence_RX11 0 (show 0 < 11 by decide) rfl rfl 0 (by decide) (by decide +kernel) rfl dX11_advanceSequence_83 ?_
    refine cw_iconst (v := 1) dX11_advanceSequence_86 (by decide) ?_
    refine cw_ialdL (j := 1) 1 (show 1 < 11 by decide) rfl 0 rfl dX11_advanceSequence_87 rfl (by decide) (by decide) ?_
    refine cw_iconst (v := 1) dX11_advanceSequence_88 (by decide) ?_
    refine cw_isub dX11_advanceSequence_89 ?_
    refine cw_istore dX11_advanceSequence_90 (by decide) rfl ?_
    refine cw_sub [2, 1, 0] rfl ?_
    exact h
  · have h := h.2 q
    refine cw_iinc (v := x2 + (-1)) dX11_advanceSequence_66 (j := 2) rfl rfl (by decide) rfl ?_
    refine cw_goto (tgt := 51) dX11_advanceSequence_69 (by decide) ?_
    refine cw_sub [1, 2, 0] rfl ?_
    exact h
set_option maxRecDepth 20000 in
set_option maxHeartbeats 4000000 in
theorem tbX11_advanceSequence_0_92 {K : cw_K} {r : Option Value} {J0 I : cw_M} {x3 : Int32} {x4 : Int32} (h : ((x4 ≤ x3 → (r = some (.int 1) ∧ J0 = I)) ∧ (¬ x4 ≤ x3 → (∃ J_102 : cw_M, cw_C (cr_w K) mX11_swapSequence [.ref (cw_a (cr_w K) 0), .int x3, .int x4] I none J_102 ∧ bX11_advanceSequence_0_92 K r J0 (x3 + 1) (x4 + (-1)) J_102)))) : bX11_advanceSequence_0_92 K r J0 x3 x4 I := by
  refine cw_iload_n dX11_advanceSequence_92 1 rfl rfl ?_
  refine cw_iload dX11_advanceSequence_93 2 rfl ?_
  refine cw_icmp_ge (tgt := 114) dX11_advanceSequence_95 (by decide) (fun q => ?_) (fun q => ?_)
  · have h := h.1 q
    refine cw_iconst (v := 1) dX11_advanceSequence_114 (by decide) ?_
    exact cw_bret rfl dX11_advanceSequence_115 (by decide) h
  · have h := h.2 q
    refine cw_aload_n dX11_advanceSequence_98 0 rfl rfl ?_
    refine cw_iload_n dX11_advanceSequence_99 1 rfl rfl ?_
    refine cw_iload dX11_advanceSequence_100 2 rfl ?_
    obtain ⟨J_102, hc_102, h⟩ := h
    refine cw_callV (o := 0) (As := [.int x3, .int x4]) hc_102 okX11_swapSequence rfl gX11_advanceSequence_X11_swapSequence (by decide) (show 0 < 11 by decide) rfl (ci := 9) rfl rfl (Nat.le_of_ble_eq_true rfl) dX11_advanceSequence_102 ?_
    refine cw_iinc (v := x3 + 1) dX11_advanceSequence_105 (j := 1) rfl rfl (by decide) rfl ?_
    refine cw_iinc (v := x4 + (-1)) dX11_advanceSequence_108 (j := 2) rfl rfl (by decide) rfl ?_
    refine cw_goto (tgt := 92) dX11_advanceSequence_111 (by decide) ?_
    refine cw_sub [2, 1, 0] rfl ?_
    exact h
set_option maxRecDepth 20000 in
set_option maxHeartbeats 4000000 in
theorem eX11_append_0 {K : cw_K} {r : Option Value} {J0 I : cw_M} {x1 : Int32} {x2 : Int32} {x3 : Int32} {x4 : Int32} {x5 : Int32} (h : ((((I 0 4) + 20) ≤ 600 → (∃ (v_21 : Int32) (J_21 : cw_M), cw_C (cr_w K) mX11_fails [.ref (cw_a (cr_w K) 0), .int 0, .int 0, .int 0] I (some (.int v_21)) J_21 ∧ ((v_21 = 0 → (∃ J_31 : cw_M, cw_C (cr_w K) mX11_appendWord [.ref (cw_a (cr_w K) 0), .int x1] J_21 none J_31 ∧ (∃ J_36 : cw_M, cw_C (cr_w K) mX11_appendWord [.ref (cw_a (cr_w K) 0), .int x2] J_31 none J_36 ∧ (∃ J_41 : cw_M, cw_C (cr_w K) mX11_appendWord [.ref (cw_a (cr_w K) 0), .int x3] J_36 none J_41 ∧ (∃ J_47 : cw_M, cw_C (cr_w K) mX11_appendWord [.ref (cw_a (cr_w K) 0), .int x4] J_41 none J_47 ∧ (∃ J_53 : cw_M, cw_C (cr_w K) mX11_appendWord [.ref (cw_a (cr_w K) 0), .int x5] J_47 none J_53 ∧ (r = some (.int (J_53 0 4)) ∧ J0 = J_53))))))) ∧ (¬ v_21 = 0 → (r = some (.int 0) ∧ J0 = J_21))))) ∧ (¬ ((I 0 4) + 20) ≤ 600 → (∃ (v_21 : Int32) (J_21 : cw_M), cw_C (cr_w K) mX11_fails [.ref (cw_a (cr_w K) 0), .int 1, .int 0, .int 0] I (some (.int v_21)) J_21 ∧ ((v_21 = 0 → (∃ J_31 : cw_M, cw_C (cr_w K) mX11_appendWord [.ref (cw_a (cr_w K) 0), .int x1] J_21 none J_31 ∧ (∃ J_36 : cw_M, cw_C (cr_w K) mX11_appendWord [.ref (cw_a (cr_w K) 0), .int x2] J_31 none J_36 ∧ (∃ J_41 : cw_M, cw_C (cr_w K) mX11_appendWord [.ref (cw_a (cr_w K) 0), .int x3] J_36 none J_41 ∧ (∃ J_47 : cw_M, cw_C (cr_w K) mX11_appendWord [.ref (cw_a (cr_w K) 0), .int x4] J_41 none J_47 ∧ (∃ J_53 : cw_M, cw_C (cr_w K) mX11_appendWord [.ref (cw_a (cr_w K) 0), .int x5] J_47 none J_53 ∧ (r = some (.int (J_53 0 4)) ∧ J0 = J_53))))))) ∧ (¬ v_21 = 0 → (r = some (.int 0) ∧ J0 = J_21))))))) : cw_C (cr_w K) mX11_append [.ref (cw_a (cr_w K) 0), .int x1, .int x2, .int x3, .int x4, .int x5] I r J0 := by
  refine cw_entry okX11_append (Nat.le_of_ble_eq_true rfl) (show cw_B (cr_w K) mX11_append (cw_Z (cr_w K) r J0) 0 0 I 0 [(0, .ref (cw_a (cr_w K) 0)), (1, .int x1), (2, .int x2), (3, .int x3), (4, .int x4), (5, .int x5)] [] from ?_)
  refine cw_aload_n dX11_append_0 0 rfl rfl ?_
  refine cw_aload_n dX11_append_1 0 rfl rfl ?_
  refine cw_getf (C := RX11) (T := TX11) (N := 20) (ci := 9) inX11_append_RX11 0 (show 0 < 11 by decide) rfl rfl 4 (by decide) (by decide +kernel) rfl dX11_append_2 ?_
  refine cw_bipush (v := 20) dX11_append_5 (by decide) ?_
  refine cw_iadd dX11_append_7 ?_
  refine cw_sipush (v := 600) dX11_append_8 (by decide) ?_
  refine cw_icmp_le (tgt := 18) dX11_append_11 (by decide) (fun q => ?_) (fun q => ?_)
  · have h := h.1 q
    refine cw_iconst (v := 0) dX11_append_18 (by decide) ?_
    refine cw_iconst (v := 0) dX11_append_19 (by decide) ?_
    refine cw_iconst (v := 0) dX11_append_20 (by decide) ?_
    obtain ⟨v_21, J_21, hc_21, h⟩ := h
    refine cw_callV (o := 0) (As := [.int 0, .int 0, .int 0]) hc_21 okX11_fails rfl gX11_append_X11_fails (by decide) (show 0 < 11 by decide) rfl (ci := 9) rfl rfl (Nat.le_of_ble_eq_true rfl) dX11_append_21 ?_
    refine cw_if_eq (tgt := 29) dX11_append_24 (by decide) (fun q => ?_) (fun q => ?_)
    · have h := h.1 q
      refine cw_aload_n dX11_append_29 0 rfl rfl ?_
      refine cw_iload_n dX11_append_30 1 rfl rfl ?_
      obtain ⟨J_31, hc_31, h⟩ := h
      refine cw_callV (o := 0) (As := [.int x1]) hc_31 okX11_appendWord rfl gX11_append_X11_appendWord (by decide) (show 0 < 11 by decide) rfl (ci := 9) rfl rfl (Nat.le_of_ble_eq_true rfl) dX11_append_31 ?_
      refine cw_aload_n dX11_append_34 0 rfl rfl ?_
      refine cw_iload_n dX11_append_35 2 rfl rfl ?_
      obtain ⟨J_36, hc_36, h⟩ := h
      refine cw_callV (o := 0) (As := [.int x2]) hc_36 okX11_appendWord rfl gX11_append_X11_appendWord (by decide) (show 0 < 11 by decide) rfl (ci := 9) rfl rfl (Nat.le_of_ble_eq_true rfl) dX11_append_36 ?_
      refine cw_aload_n dX11_append_39 0 rfl rfl ?_
      refine cw_iload_n dX11_append_40 3 rfl rfl ?_
      obtain ⟨J_41, hc_41, h⟩ := h
      refine cw_callV (o := 0) (As := [.int x3]) hc_41 okX11_appendWord rfl gX11_append_X11_appendWord (by decide) (show 0 < 11 by decide) rfl (ci := 9) rfl rfl (Nat.le_of_ble_eq_true rfl) dX11_append_41 ?_
      refine cw_aload_n dX11_append_44 0 rfl rfl ?_
      refine cw_iload dX11_append_45 4 rfl ?_
      obtain ⟨J_47, hc_47, h⟩ := h
      refine cw_callV (o := 0) (As := [.int x4]) hc_47 okX11_appendWord rfl gX11_append_X11_appendWord (by decide) (show 0 < 11 by decide) rfl (ci := 9) rfl rfl (Nat.le_of_ble_eq_true rfl) dX11_append_47 ?_
      refine cw_aload_n dX11_append_50 0 rfl rfl ?_
      refine cw_iload dX11_append_51 5 rfl ?_
      obtain ⟨J_53, hc_53, h⟩ := h
      refine cw_callV (o := 0) (As := [.int x5]) hc_53 okX11_appendWord rfl gX11_append_X11_appendWord (by decide) (show 0 < 11 by decide) rfl (ci := 9) rfl rfl (Nat.le_of_ble_eq_true rfl) dX11_append_53 ?_
      refine cw_aload_n dX11_append_56 0 rfl rfl ?_
      refine cw_getf (C := RX11) (T := TX11) (N := 20) (ci := 9) inX11_append_RX11 0 (show 0 < 11 by decide) rfl rfl 4 (by decide) (by decide +kernel) rfl dX11_append_57 ?_
      exact cw_iret rfl dX11_append_60 h
    · have h := h.2 q
      refine cw_iconst (v := 0) dX11_append_27 (by decide) ?_
      exact cw_iret rfl dX11_append_28 h
  · have h := h.2 q
    refine cw_iconst (v := 1) dX11_append_14 (by decide) ?_
    refine cw_goto (tgt := 19) dX11_append_15 (by decide) ?_
    refine cw_iconst (v := 0) dX11_append_19 (by decide) ?_
    refine cw_iconst (v := 0) dX11_append_20 (by decide) ?_
    obtain ⟨v_21, J_21, hc_21, h⟩ := h
    refine cw_callV (o := 0) (As := [.int 1, .int 0, .int 0]) hc_21 okX11_fails rfl gX11_append_X11_fails (by decide) (show 0 < 11 by decide) rfl (ci := 9) rfl rfl (Nat.le_of_ble_eq_true rfl) dX11_append_21 ?_
    refine cw_if_eq (tgt := 29) dX11_append_24 (by decide) (fun q => ?_) (fun q => ?_)
    · have h := h.1 q
      refine cw_aload_n dX11_append_29 0 rfl rfl ?_
      refine cw_iload_n dX11_append_30 1 rfl rfl ?_
      obtain ⟨J_31, hc_31, h⟩ := h
      refine cw_callV (o := 0) (As := [.int x1]) hc_31 okX11_appendWord rfl gX11_append_X11_appendWord (by decide) (show 0 < 11 by decide) rfl (ci := 9) rfl rfl (Nat.le_of_ble_eq_true rfl) dX11_append_31 ?_
      refine cw_aload_n dX11_append_34 0 rfl rfl ?_
      refine cw_iload_n dX11_append_35 2 rfl rfl ?_
      obtain ⟨J_36, hc_36, h⟩ := h
      refine cw_callV (o := 0) (As := [.int x2]) hc_36 okX11_appendWord rfl gX11_append_X11_appendWord (by decide) (show 0 < 11 by decide) rfl (ci := 9) rfl rfl (Nat.le_of_ble_eq_true rfl) dX11_append_36 ?_
      refine cw_aload_n dX11_append_39 0 rfl rfl ?_
      refine cw_iload_n dX11_append_40 3 rfl rfl ?_
      obtain ⟨J_41, hc_41, h⟩ := h
      refine cw_callV (o := 0) (As := [.int x3]) hc_41 okX11_appendWord rfl gX11_append_X11_appendWord (by decide) (show 0 < 11 by decide) rfl (ci := 9) rfl rfl (Nat.le_of_ble_eq_true rfl) dX11_append_41 ?_
      refine cw_aload_n dX11_append_44 0 rfl rfl ?_
      refine cw_iload dX11_append_45 4 rfl ?_
      obtain ⟨J_47, hc_47, h⟩ := h
      refine cw_callV (o := 0) (As := [.int x4]) hc_47 okX11_appendWord rfl gX11_append_X11_appendWord (by decide) (show 0 < 11 by decide) rfl (ci := 9) rfl rfl (Nat.le_of_ble_eq_true rfl) dX11_append_47 ?_
      refine cw_aload_n dX11_append_50 0 rfl rfl ?_
      refine cw_iload dX11_append_51 5 rfl ?_
      obtain ⟨J_53, hc_53, h⟩ := h
      refine cw_callV (o := 0) (As := [.int x5]) hc_53 okX11_appendWord rfl gX11_append_X11_appendWord (by decide) (show 0 < 11 by decide) rfl (ci := 9) rfl rfl (Nat.le_of_ble_eq_true rfl) dX11_append_53 ?_
      refine cw_aload_n dX11_append_56 0 rfl rfl ?_
      refine cw_getf (C := RX11) (T := TX11) (N := 20) (ci := 9) inX11_append_RX11 0 (show 0 < 11 by decide) rfl rfl 4 (by decide) (by decide +kernel) rfl dX11_append_57 ?_
      exact cw_iret rfl dX11_append_60 h
    · have h := h.2 q
      refine cw_iconst (v := 0) dX11_append_27 (by decide) ?_
      exact cw_iret rfl dX11_append_28 h
abbrev bX11_appendWord_0_3 (K : cw_K) (r : Option Value) (J0 : cw_M) (x1 : Int32) (x2 : Int32) (I : cw_M) : Prop := cw_B (cr_w K) mX11_appendWord (cw_Z (cr_w K) r J0) 0 0 I 3 [(0, .ref (cw_a (cr_w K) 0)), (1, .int x1), (2, .int x2)] []
set_option maxRecDepth 20000 in
set_option maxHeartbeats 4000000 in
theorem eX11_appendWord_0 {K : cw_K} {r : Option Value} {J0 I : cw_M} {x1 : Int32} (h : bX11_appendWord_0_3 K r J0 x1 24 I) : cw_C (cr_w K) mX11_appendWord [.ref (cw_a (cr_w K) 0), .int x1] I r J0 := by
  refine cw_entry okX11_appendWord (Nat.le_of_ble_eq_true rfl) (show cw_B (cr_w K) mX11_appendWord (cw_Z (cr_w K) r J0) 0 0 I 0 [(0, .ref (cw_a (cr_w K) 0)), (1, .int x1)] [] from ?_)
  refine cw_bipush (v := 24) dX11_appendWord_0 (by decide) ?_
  refine cw_istore_n dX11_appendWord_2 rfl (by decide) rfl ?_
  refine cw_sub [1, 2, 0] rfl ?_
  exact h
set_option maxRecDepth 20000 in
set_option maxHeartbeats 4000000 in
theorem tbX11_appendWord_0_3 {K : cw_K} {r : Option Value} {J0 I : cw_M} {x1 : Int32} {x2 : Int32} (h : ((x2 < 0 → (r = none ∧ J0 = I)) ∧ (¬ x2 < 0 → (vp_in (I 0 4) 600 ∧ bX11_appendWord_0_3 K r J0 x1 (x2 + (-8)) (cw_st (cw_st I 3 (I 0 4).toNatClampNeg ((x1 >>> (x2 &&& 31)) &&& 255)) 0 4 (((cw_st I 3 (I 0 4).toNatClampNeg ((x1 >>> (x2 &&& 31)) &&& 255)) 0 4) + 1)))))) : bX11_appendWord_0_3 K r J0 x1 x2 I := by
  refine cw_iload_n dX11_appendWord_3 2 rfl rfl ?_
  refine cw_if_lt (tgt := 39) dX11_appendWord_4 (by decide) (fun q => ?_) (fun q => ?_)
  · have h := h.1 q
    exact cw_vret rfl dX11_appendWord_39 h
  · have h := h.2 q
    refine cw_aload_n dX11_appendWord_7 0 rfl rfl ?_
    refine cw_getf (C := RX11) (T := TX11) (N := 20) (ci := 9) inX11_appendWord_RX11 0 (show 0 < 11 by decide) rfl rfl 3 (by decide) (by decide +kernel) rfl dX11_appendWord_8 ?_
    refine cw_aload_n dX11_appendWord_11 0 rfl rfl ?_
    refine cw_getf (C := RX11) (T := TX11) (N := 20) (ci := 9) inX11_appendWord_RX11 0 (show 0 < 11 by decide) rfl rfl 4 (by decide) (by decide +kernel) rfl dX11_appendWord_12 ?_
    refine cw_iload_n dX11_appendWord_15 1 rfl rfl ?_
    refine cw_iload_n dX11_appendWord_16 2 rfl rfl ?_
    refine cw_ishr dX11_appendWord_17 ?_
    refine cw_sipush (v := 255) dX11_appendWord_18 (by decide) ?_
    refine cw_iand dX11_appendWord_21 ?_
    obtain ⟨g_22, h⟩ := h
    refine cw_iast 3 (show 3 < 11 by decide) (fun _ => rfl) 0 rfl dX11_appendWord_22 g_22 ?_
    refine cw_aload_n dX11_appendWord_23 0 rfl rfl ?_
    refine cw_dup dX11_appendWord_24 rfl ?_
    refine cw_getf (C := RX11) (T := TX11) (N := 20) (ci := 9) inX11_appendWord_RX11 0 (show 0 < 11 by decide) rfl rfl 4 (by decide) (by decide +kernel) rfl dX11_appendWord_25 ?_
    refine cw_iconst (v := 1) dX11_appendWord_28 (by decide) ?_
    refine cw_iadd dX11_appendWord_29 ?_
    refine cw_putf (C := RX11) (T := TX11) (N := 20) (ci := 9) inX11_appendWord_RX11 tyX11 tyX11_ok nmX11 0 (show 0 < 11 by decide) rfl rfl 4 (by decide) (by decide +kernel) rfl rfl (show 4 < 20 by decide) rfl dX11_appendWord_30 ?_
    refine cw_iinc (v := x2 + (-8)) dX11_appendWord_33 (j := 2) rfl rfl (by decide) rfl ?_
    refine cw_goto (tgt := 3) dX11_appendWord_36 (by decide) ?_
    refine cw_sub [1, 2, 0] rfl ?_
    exact h
set_option maxRecDepth 20000 in
set_option maxHeartbeats 4000000 in
theorem eX11_areSiblings_0 {K : cw_K} {r : Option Value} {J0 I : cw_M} {x1 : Int32} {x2 : Int32} (h : (∃ (v_2 : Int32) (J_2 : cw_M), cw_C (cr_w K) mX11_isSibling [.ref (cw_a (cr_w K) 0), .int x1] I (some (.int v_2)) J_2 ∧ ((v_2 = 0 → (r = some (.int 0) ∧ J0 = J_2)) ∧ (¬ v_2 = 0 → (∃ (v_10 : Int32) (J_10 : cw_M), cw_C (cr_w K) mX11_isSibling [.ref (cw_a (cr_w K) 0), .int x2] J_2 (some (.int v_10)) J_10 ∧ ((v_10 = 0 → (r = some (.int 0) ∧ J0 = J_10)) ∧ (¬ v_10 = 0 → (r = some (.int 1) ∧ J0 = J_10)))))))) : cw_C (cr_w K) mX11_areSiblings [.ref (cw_a (cr_w K) 0), .int x1, .int x2] I r J0 := by
  refine cw_entry okX11_areSiblings (Nat.le_of_ble_eq_true rfl) (show cw_B (cr_w K) mX11_areSiblings (cw_Z (cr_w K) r J0) 0 0 I 0 [(0, .ref (cw_a (cr_w K) 0)), (1, .int x1), (2, .int x2)] [] from ?_)
  refine cw_aload_n dX11_areSiblings_0 0 rfl rfl ?_
  refine cw_iload_n dX11_areSiblings_1 1 rfl rfl ?_
  obtain ⟨v_2, J_2, hc_2, h⟩ := h
  refine cw_callV (o := 0) (As := [.int x1]) hc_2 okX11_isSibling rfl gX11_areSiblings_X11_isSibling (by decide) (show 0 < 11 by decide) rfl (ci := 9) rfl rfl (Nat.le_of_ble_eq_true rfl) dX11_areSiblings_2 ?_
  refine cw_if_eq (tgt := 20) dX11_areSiblings_5 (by decide) (fun q => ?_) (fun q => ?_)
  · have h := h.1 q
    refine cw_iconst (v := 0) dX11_areSiblings_20 (by decide) ?_
    exact cw_bret rfl dX11_areSiblings_21 (by decide) h
  · have h := h.2 q
    refine cw_aload_n dX11_areSiblings_8 0 rfl rfl ?_
    refine cw_iload_n dX11_areSiblings_9 2 rfl rfl ?_
    obtain ⟨v_10, J_10, hc_10, h⟩ := h
    refine cw_callV (o := 0) (As := [.int x2]) hc_10 okX11_isSibling rfl gX11_areSiblings_X11_isSibling (by decide) (show 0 < 11 by decide) rfl (ci := 9) rfl rfl (Nat.le_of_ble_eq_true rfl) dX11_areSiblings_10 ?_
    refine cw_if_eq (tgt := 20) dX11_areSiblings_13 (by decide) (fun q => ?_) (fun q => ?_)
    · have h := h.1 q
      refine cw_iconst (v := 0) dX11_areSiblings_20 (by decide) ?_
      exact cw_bret rfl dX11_areSiblings_21 (by decide) h
    · have h := h.2 q
      refine cw_iconst (v := 1) dX11_areSiblings_16 (by decide) ?_
      refine cw_goto (tgt := 21) dX11_areSiblings_17 (by decide) ?_
      exact cw_bret rfl dX11_areSiblings_21 (by decide) h
set_option maxRecDepth 20000 in
set_option maxHeartbeats 4000000 in
theorem eX11_begin_0 {K : cw_K} {r : Option Value} {J0 I : cw_M} (h : (∃ J_16 : cw_M, cw_C (cr_w K) mX11_token [.ref (cw_a (cr_w K) 0)] (cw_st (cw_st (cw_st I 0 5 0) 0 6 (-1)) 0 15 0) none J_16 ∧ (r = none ∧ J0 = J_16))) : cw_C (cr_w K) mX11_begin [.ref (cw_a (cr_w K) 0)] I r J0 := by
  refine cw_entry okX11_begin (Nat.le_of_ble_eq_true rfl) (show cw_B (cr_w K) mX11_begin (cw_Z (cr_w K) r J0) 0 0 I 0 [(0, .ref (cw_a (cr_w K) 0))] [] from ?_)
  refine cw_aload_n dX11_begin_0 0 rfl rfl ?_
  refine cw_iconst (v := 0) dX11_begin_1 (by decide) ?_
  refine cw_putf (C := RX11) (T := TX11) (N := 20) (ci := 9) inX11_begin_RX11 tyX11 tyX11_ok nmX11 0 (show 0 < 11 by decide) rfl rfl 5 (by decide) (by decide +kernel) rfl rfl (show 5 < 20 by decide) rfl dX11_begin_2 ?_
  refine cw_aload_n dX11_begin_5 0 rfl rfl ?_
  refine cw_iconst (v := (-1)) dX11_begin_6 (by decide) ?_
  refine cw_putf (C := RX11) (T := TX11) (N := 20) (ci := 9) inX11_begin_RX11 tyX11 tyX11_ok nmX11 0 (show 0 < 11 by decide) rfl rfl 6 (by decide) (by decide +kernel) rfl rfl (show 6 < 20 by decide) rfl dX11_begin_7 ?_
  refine cw_aload_n dX11_begin_10 0 rfl rfl ?_
  refine cw_iconst (v := 0) dX11_begin_11 (by decide) ?_
  refine cw_putf (C := RX11) (T := TX11) (N := 20) (ci := 9) inX11_begin_RX11 tyX11 tyX11_ok nmX11 0 (show 0 < 11 by decide) rfl rfl 15 (by decide) (by decide +kernel) rfl rfl (show 15 < 20 by decide) rfl dX11_begin_12 ?_
  refine cw_aload_n dX11_begin_15 0 rfl rfl ?_
  obtain ⟨J_16, hc_16, h⟩ := h
  refine cw_callV (o := 0) (As := []) hc_16 okX11_token rfl gX11_begin_X11_token (by decide) (show 0 < 11 by decide) rfl (ci := 9) rfl rfl (Nat.le_of_ble_eq_true rfl) dX11_begin_16 ?_
  exact cw_vret rfl dX11_begin_19 h
abbrev bX11_bestFirst_0_18 (K : cw_K) (r : Option Value) (J0 : cw_M) (x1 : Int32) (x2 : Int32) (x3 : Int32) (I : cw_M) : Prop := cw_B (cr_w K) mX11_bestFirst (cw_Z (cr_w K) r J0) 0 0 I 18 [(0, .ref (cw_a (cr_w K) 0)), (1, .int x1), (2, .int x2), (3, .int x3)] []
set_option maxRecDepth 20000 in
set_option maxHeartbeats 4000000 in
theorem eX11_bestFirst_0 {K : cw_K} {r : Option Value} {J0 I : cw_M} (h : (∃ J_9 : cw_M, cw_C (cr_w K) mX11_copyBlock [.ref (cw_a (cr_w K) 0), .int 0, .int 9] (cw_st I 0 9 0) none J_9 ∧ bX11_bestFirst_0_18 K r J0 (-1) (-1) 0 J_9)) : cw_C (cr_w K) mX11_bestFirst [.ref (cw_a (cr_w K) 0)] I r J0 := by
  refine cw_entry okX11_bestFirst (Nat.le_of_ble_eq_true rfl) (show cw_B (cr_w K) mX11_bestFirst (cw_Z (cr_w K) r J0) 0 0 I 0 [(0, .ref (cw_a (cr_w K) 0))] [] from ?_)
  refine cw_aload_n dX11_bestFirst_0 0 rfl rfl ?_
  refine cw_iconst (v := 0) dX11_bestFirst_1 (by decide) ?_
  refine cw_putf (C := RX11) (T := TX11) (N := 20) (ci := 9) inX11_bestFirst_RX11 tyX11 tyX11_ok nmX11 0 (show 0 < 11 by decide) rfl rfl 9 (by decide) (by decide +kernel) rfl rfl (show 9 < 20 by decide) rfl dX11_bestFirst_2 ?_
  refine cw_aload_n dX11_bestFirst_5 0 rfl rfl ?_
  refine cw_iconst (v := 0) dX11_bestFirst_6 (by decide) ?_
  refine cw_bipush (v := 9) dX11_bestFirst_7 (by decide) ?_
  obtain ⟨J_9, hc_9, h⟩ := h
  refine cw_callV (o := 0) (As := [.int 0, .int 9]) hc_9 okX11_copyBlock rfl gX11_bestFirst_X11_copyBlock (by decide) (show 0 < 11 by decide) rfl (ci := 9) rfl rfl (Nat.le_of_ble_eq_true rfl) dX11_bestFirst_9 ?_
  refine cw_iconst (v := (-1)) dX11_bestFirst_12 (by decide) ?_
  refine cw_istore_n dX11_bestFirst_13 rfl (by decide) rfl ?_
  refine cw_iconst (v := (-1)) dX11_bestFirst_14 (by decide) ?_
  refine cw_istore_n dX11_bestFirst_15 rfl (by decide) rfl ?_
  refine cw_iconst (v := 0) dX11_bestFirst_16 (by decide) ?_
  refine cw_istore_n dX11_bestFirst_17 rfl (by decide) rfl ?_
  refine cw_sub [3, 2, 1, 0] rfl ?_
  exact h
set_option maxRecDepth 20000 in
set_option maxHeartbeats 4000000 in
theorem tbX11_bestFirst_0_18 {K : cw_K} {r : Option Value} {J0 I : cw_M} {x1 : Int32} {x2 : Int32} {x3 : Int32} (h : (((I 1 1) ≤ x3 → (∃ J_66 : cw_M, cw_C (cr_w K) mX11_copyBlock [.ref (cw_a (cr_w K) 0), .int 9, .int 0] I none J_66 ∧ (r = some (.int x1) ∧ J0 = J_66))) ∧ (¬ (I 1 1) ≤ x3 → (∃ J_29 : cw_M, cw_C (cr_w K) mX11_clear [.ref (cw_a (cr_w K) 0)] I none J_29 ∧ (∃ (v_34 : Int32) (J_34 : cw_M), cw_C (cr_w K) mX11_robin [.ref (cw_a (cr_w K) 0), .int x3] J_29 (some (.int v_34)) J_34 ∧ (∃ (v_39 : Int32) (J_39 : cw_M), cw_C (cr_w K) mX11_least [.ref (cw_a (cr_w K) 0)] J_34 (some (.int v_39)) J_39 ∧ ((x2 < v_39 → (∃ (v_52 : Int32) (J_52 : cw_M), cw_C (cr_w K) mX11_least [.ref (cw_a (cr_w K) 0)] J_39 (some (.int v_52)) J_52 ∧ bX11_bestFirst_0_18 K r J0 x3 v_52 (x3 + 1) J_52)) ∧ (¬ x2 < v_39 → bX11_bestFirst_0_18 K r J0 x1 x2 (x3 + 1) J_39)))))))) : bX11_bestFirst_0_18 K r J0 x1 x2 x3 I := by
  refine cw_iload_n dX11_bestFirst_18 3 rfl rfl ?_
  refine cw_aload_n dX11_bestFirst_19 0 rfl rfl ?_
  refine cw_getf (C := RX11) (T := TX11) (N := 20) (ci := 9) inX11_bestFirst_RX11 0 (show 0 < 11 by decide) rfl rfl 0 (by decide) (by decide +kernel) rfl dX11_bestFirst_20 ?_
  refine cw_iconst (v := 1) dX11_bestFirst_23 (by decide) ?_
  refine cw_ialdL (j := 1) 1 (show 1 < 11 by decide) rfl 0 rfl dX11_bestFirst_24 rfl (by decide) (by decide) ?_
  refine cw_icmp_ge (tgt := 62) dX11_bestFirst_25 (by decide) (fun q => ?_) (fun q => ?_)
  · have h := h.1 q
    refine cw_aload_n dX11_bestFirst_62 0 rfl rfl ?_
    refine cw_bipush (v := 9) dX11_bestFirst_63 (by decide) ?_
    refine cw_iconst (v := 0) dX11_bestFirst_65 (by decide) ?_
    obtain ⟨J_66, hc_66, h⟩ := h
    refine cw_callV (o := 0) (As := [.int 9, .int 0]) hc_66 okX11_copyBlock rfl gX11_bestFirst_X11_copyBlock (by decide) (show 0 < 11 by decide) rfl (ci := 9) rfl rfl (Nat.le_of_ble_eq_true rfl) dX11_bestFirst_66 ?_
    refine cw_iload_n dX11_bestFirst_69 1 rfl rfl ?_
    exact cw_iret rfl dX11_bestFirst_70 h
  · have h := h.2 q
    refine cw_aload_n dX11_bestFirst_28 0 rfl rfl ?_
    obtain ⟨J_29, hc_29, h⟩ := h
    refine cw_callV (o := 0) (As := []) hc_29 okX11_clear rfl gX11_bestFirst_X11_clear (by decide) (show 0 < 11 by decide) rfl (ci := 9) rfl rfl (Nat.le_of_ble_eq_true rfl) dX11_bestFirst_29 ?_
    refine cw_aload_n dX11_bestFirst_32 0 rfl rfl ?_
    refine cw_iload_n dX11_bestFirst_33 3 rfl rfl ?_
    obtain ⟨v_34, J_34, hc_34, h⟩ := h
    refine cw_callV (o := 0) (As := [.int x3]) hc_34 okX11_robin rfl gX11_bestFirst_X11_robin (by decide) (show 0 < 11 by decide) rfl (ci := 9) rfl rfl (Nat.le_of_ble_eq_true rfl) dX11_bestFirst_34 ?_
    refine cw_pop dX11_bestFirst_37 rfl ?_
    refine cw_aload_n dX11_bestFirst_38 0 rfl rfl ?_
    obtain ⟨v_39, J_39, hc_39, h⟩ := h
    refine cw_callV (o := 0) (As := []) hc_39 okX11_least rfl gX11_bestFirst_X11_least (by decide) (show 0 < 11 by decide) rfl (ci := 9) rfl rfl (Nat.le_of_ble_eq_true rfl) dX11_bestFirst_39 ?_
    refine cw_iload_n dX11_bestFirst_42 2 rfl rfl ?_
    refine cw_icmp_gt (tgt := 49) dX11_bestFirst_43 (by decide) (fun q => ?_) (fun q => ?_)
    · have h := h.1 q
      refine cw_iload_n dX11_bestFirst_49 3 rfl rfl ?_
      refine cw_istore_n dX11_bestFirst_50 rfl (by decide) rfl ?_
      refine cw_aload_n dX11_bestFirst_51 1 rfl rfl ?_
      obtain ⟨v_52, J_52, hc_52, h⟩ := h
      refine cw_callV (o := 0) (As := []) hc_52 okX11_least rfl gX11_bestFirst_X11_least (by decide) (show 0 < 11 by decide) rfl (ci := 9) rfl rfl (Nat.le_of_ble_eq_true rfl) dX11_bestFirst_52 ?_
      refine cw_istore_n dX11_bestFirst_55 rfl (by decide) rfl ?_
      refine cw_iinc (v := x3 + 1) dX11_bestFirst_56 (j := 3) rfl rfl (by decide) rfl ?_
      refine cw_goto (tgt := 18) dX11_bestFirst_59 (by decide) ?_
      refine cw_sub [3, 2, 1, 0] rfl ?_
      exact h
    · have h := h.2 q
      refine cw_goto (tgt := 56) dX11_bestFirst_46 (by decide) ?_
      refine cw_iinc (v := x3 + 1) dX11_bestFirst_56 (j := 3) rfl rfl (by decide) rfl ?_
      refine cw_goto (tgt := 18) dX11_bestFirst_59 (by decide) ?_
      refine cw_sub [1, 2, 3, 0] rfl ?_
      exact h
set_option maxRecDepth 20000 in
set_option maxHeartbeats 4000000 in
theorem eX11_bestLeastWelfare_0 {K : cw_K} {r : Option Value} {J0 I : cw_M} (h : (∃ (v_2 : Int32) (J_2 : cw_M), cw_C (cr_w K) mX11_contiguousLeast [.ref (cw_a (cr_w K) 0)] I (some (.int v_2)) J_2 ∧ (∃ (v_5 : Int32) (J_5 : cw_M), cw_C (cr_w K) mX11_plain [.ref (cw_a (cr_w K) 0), .int v_2] J_2 (some (.int v_5)) J_5 ∧ (r = some (.int v_5) ∧ J0 = J_5)))) : cw_C (cr_w K) mX11_bestLeastWelfare [.ref (cw_a (cr_w K) 0)] I r J0 := by
  refine cw_entry okX11_bestLeastWelfare (Nat.le_of_ble_eq_true rfl) (show cw_B (cr_w K) mX11_bestLeastWelfare (cw_Z (cr_w K) r J0) 0 0 I 0 [(0, .ref (cw_a (cr_w K) 0))] [] from ?_)
  refine cw_aload_n dX11_bestLeastWelfare_0 0 rfl rfl ?_
  refine cw_aload_n dX11_bestLeastWelfare_1 0 rfl rfl ?_
  obtain ⟨v_2, J_2, hc_2, h⟩ := h
  refine cw_callV (o := 0) (As := []) hc_2 okX11_contiguousLeast rfl gX11_bestLeastWelfare_X11_contiguousLeast (by decide) (show 0 < 11 by decide) rfl (ci := 9) rfl rfl (Nat.le_of_ble_eq_true rfl) dX11_bestLeastWelfare_2 ?_
  obtain ⟨v_5, J_5, hc_5, h⟩ := h
  refine cw_callV (o := 0) (As := [.int v_2]) hc_5 okX11_plain rfl gX11_bestLeastWelfare_X11_plain (by decide) (show 0 < 11 by decide) rfl (ci := 9) rfl rfl (Nat.le_of_ble_eq_true rfl) dX11_bestLeastWelfare_5 ?_
  exact cw_iret rfl dX11_bestLeastWelfare_8 h
set_option maxRecDepth 20000 in
set_option maxHeartbeats 4000000 in
theorem eX11_canDo_0 {K : cw_K} {r : Option Value} {J0 I : cw_M} {x1 : Int32} {x2 : Int32} {x3 : Int32} {x4 : Int32} (h : ((x1 = 0 → (∃ (v_52 : Int32) (J_52 : cw_M), cw_C (cr_w K) mX11_isRange [.ref (cw_a (cr_w K) 0), .int x3, .int x4] I (some (.int v_52)) J_52 ∧ ((v_52 = 0 ∨ v_52 = 1) ∧ (r = some (.int v_52) ∧ J0 = J_52)))) ∧ ((x1 = 1 → (∃ (v_52 : Int32) (J_52 : cw_M), cw_C (cr_w K) mX11_isRange [.ref (cw_a (cr_w K) 0), .int x3, .int x4] I (some (.int v_52)) J_52 ∧ ((v_52 = 0 ∨ v_52 = 1) ∧ (r = some (.int v_52) ∧ J0 = J_52)))) ∧ ((x1 = 2 → ((x2 = x3 → (r = some (.int 0) ∧ J0 = I)) ∧ (¬ x2 = x3 → (r = some (.int 1) ∧ J0 = I)))) ∧ ((x1 = 3 → (∃ (v_69 : Int32) (J_69 : cw_M), cw_C (cr_w K) mX11_isCell [.ref (cw_a (cr_w K) 0), .int x3] I (some (.int v_69)) J_69 ∧ ((v_69 = 0 → (r = some (.int 0) ∧ J0 = J_69)) ∧ (¬ v_69 = 0 → ((9 < x4 → (r = some (.int 0) ∧ J0 = J_69)) ∧ (¬ 9 < x4 → (r = some (.int 1) ∧ J0 = J_69))))))) ∧ ((x1 = 4 → ((x2 = x3 → (r = some (.int 0) ∧ J0 = I)) ∧ (¬ x2 = x3 → (r = some (.int 1) ∧ J0 = I)))) ∧ ((x1 = 5 → (r = some (.int 1) ∧ J0 = I)) ∧ ((x1 = 6 → (r = some (.int 1) ∧ J0 = I)) ∧ ((x1 = 7 → (∃ (v_90 : Int32) (J_90 : cw_M), cw_C (cr_w K) mX11_findCycle [.ref (cw_a (cr_w K) 0), .int x2] I (some (.int v_90)) J_90 ∧ ((v_90 = (-1) → (r = some (.int 0) ∧ J0 = J_90)) ∧ (¬ v_90 = (-1) → (r = some (.int 1) ∧ J0 = J_90))))) ∧ (¬ x1 = 0 → ¬ x1 = 1 → ¬ x1 = 2 → ¬ x1 = 3 → ¬ x1 = 4 → ¬ x1 = 5 → ¬ x1 = 6 → ¬ x1 = 7 → (r = some (.int 1) ∧ J0 = I))))))))))) : cw_C (cr_w K) mX11_canDo [.ref (cw_a (cr_w K) 0), .int x1, .int x2, .int x3, .int x4] I r J0 := by
  refine cw_entry okX11_canDo (Nat.le_of_ble_eq_true rfl) (show cw_B (cr_w K) mX11_canDo (cw_Z (cr_w K) r J0) 0 0 I 0 [(0, .ref (cw_a (cr_w K) 0)), (1, .int x1), (2, .int x2), (3, .int x3), (4, .int x4)] [] from ?_)
  refine cw_iload_n dX11_canDo_0 1 rfl rfl ?_
  by_cases q0 : x1 = 0
  · have h := h.1 q0
    refine cw_tableIn (tgt := 48) (off := 47) dX11_canDo_1 (by rw [q0]; decide) (by rw [q0]; decide) (by rw [q0]; decide +kernel) (by decide) ?_
    refine cw_aload_n dX11_canDo_48 0 rfl rfl ?_
    refine cw_iload_n dX11_canDo_49 3 rfl rfl ?_
    refine cw_iload dX11_canDo_50 4 rfl ?_
    obtain ⟨v_52, J_52, hc_52, h⟩ := h
    refine cw_callV (o := 0) (As := [.int x3, .int x4]) hc_52 okX11_isRange rfl gX11_canDo_X11_isRange (by decide) (show 0 < 11 by decide) rfl (ci := 9) rfl rfl (Nat.le_of_ble_eq_true rfl) dX11_canDo_52 ?_
    exact cw_bret rfl dX11_canDo_55 h.1 h.2
  · have h := h.2
    by_cases q1 : x1 = 1
    · have h := h.1 q1
      refine cw_tableIn (tgt := 48) (off := 47) dX11_canDo_1 (by rw [q1]; decide) (by rw [q1]; decide) (by rw [q1]; decide +kernel) (by decide) ?_
      refine cw_aload_n dX11_canDo_48 0 rfl rfl ?_
      refine cw_iload_n dX11_canDo_49 3 rfl rfl ?_
      refine cw_iload dX11_canDo_50 4 rfl ?_
      obtain ⟨v_52, J_52, hc_52, h⟩ := h
      refine cw_callV (o := 0) (As := [.int x3, .int x4]) hc_52 okX11_isRange rfl gX11_canDo_X11_isRange (by decide) (show 0 < 11 by decide) rfl (ci := 9) rfl rfl (Nat.le_of_ble_eq_true rfl) dX11_canDo_52 ?_
      exact cw_bret rfl dX11_canDo_55 h.1 h.2
    · have h := h.2
      by_cases q2 : x1 = 2
      · have h := h.1 q2
        refine cw_tableIn (tgt := 56) (off := 55) dX11_canDo_1 (by rw [q2]; decide) (by rw [q2]; decide) (by rw [q2]; decide +kernel) (by decide) ?_
        refine cw_iload_n dX11_canDo_56 2 rfl rfl ?_
        refine cw_iload_n dX11_canDo_57 3 rfl rfl ?_
        refine cw_icmp_eq (tgt := 65) dX11_canDo_58 (by decide) (fun q => ?_) (fun q => ?_)
        · have h := h.1 q
          refine cw_iconst (v := 0) dX11_canDo_65 (by decide) ?_
          exact cw_bret rfl dX11_canDo_66 (by decide) h
        · have h := h.2 q
          refine cw_iconst (v := 1) dX11_canDo_61 (by decide) ?_
          refine cw_goto (tgt := 66) dX11_canDo_62 (by decide) ?_
          exact cw_bret rfl dX11_canDo_66 (by decide) h
      · have h := h.2
        by_cases q3 : x1 = 3
        · have h := h.1 q3
          refine cw_tableIn (tgt := 67) (off := 66) dX11_canDo_1 (by rw [q3]; decide) (by rw [q3]; decide) (by rw [q3]; decide +kernel) (by decide) ?_
          refine cw_aload_n dX11_canDo_67 0 rfl rfl ?_
          refine cw_iload_n dX11_canDo_68 3 rfl rfl ?_
          obtain ⟨v_69, J_69, hc_69, h⟩ := h
          refine cw_callV (o := 0) (As := [.int x3]) hc_69 okX11_isCell rfl gX11_canDo_X11_isCell (by decide) (show 0 < 11 by decide) rfl (ci := 9) rfl rfl (Nat.le_of_ble_eq_true rfl) dX11_canDo_69 ?_
          refine cw_if_eq (tgt := 86) dX11_canDo_72 (by decide) (fun q => ?_) (fun q => ?_)
          · have h := h.1 q
            refine cw_iconst (v := 0) dX11_canDo_86 (by decide) ?_
            exact cw_bret rfl dX11_canDo_87 (by decide) h
          · have h := h.2 q
            refine cw_iload dX11_canDo_75 4 rfl ?_
            refine cw_bipush (v := 9) dX11_canDo_77 (by decide) ?_
            refine cw_icmp_gt (tgt := 86) dX11_canDo_79 (by decide) (fun q => ?_) (fun q => ?_)
            · have h := h.1 q
              refine cw_iconst (v := 0) dX11_canDo_86 (by decide) ?_
              exact cw_bret rfl dX11_canDo_87 (by decide) h
            · have h := h.2 q
              refine cw_iconst (v := 1) dX11_canDo_82 (by decide) ?_
              refine cw_goto (tgt := 87) dX11_canDo_83 (by decide) ?_
              exact cw_bret rfl dX11_canDo_87 (by decide) h
        · have h := h.2
          by_cases q4 : x1 = 4
          · have h := h.1 q4
            refine cw_tableIn (tgt := 56) (off := 55) dX11_canDo_1 (by rw [q4]; decide) (by rw [q4]; decide) (by rw [q4]; decide +kernel) (by decide) ?_
            refine cw_iload_n dX11_canDo_56 2 rfl rfl ?_
            refine cw_iload_n dX11_canDo_57 3 rfl rfl ?_
            refine cw_icmp_eq (tgt := 65) dX11_canDo_58 (by decide) (fun q => ?_) (fun q => ?_)
            · have h := h.1 q
              refine cw_iconst (v := 0) dX11_canDo_65 (by decide) ?_
              exact cw_bret rfl dX11_canDo_66 (by decide) h
            · have h := h.2 q
              refine cw_iconst (v := 1) dX11_canDo_61 (by decide) ?_
              refine cw_goto (tgt := 66) dX11_canDo_62 (by decide) ?_
              exact cw_bret rfl dX11_canDo_66 (by decide) h
          · have h := h.2
            by_cases q5 : x1 = 5
            · have h := h.1 q5
              refine cw_tableIn (tgt := 103) (off := 102) dX11_canDo_1 (by rw [q5]; decide) (by rw [q5]; decide) (by rw [q5]; decide +kernel) (by decide) ?_
              refine cw_iconst (v := 1) dX11_canDo_103 (by decide) ?_
              exact cw_bret rfl dX11_canDo_104 (by decide) h
            · have h := h.2
              by_cases q6 : x1 = 6
              · have h := h.1 q6
                refine cw_tableIn (tgt := 103) (off := 102) dX11_canDo_1 (by rw [q6]; decide) (by rw [q6]; decide) (by rw [q6]; decide +kernel) (by decide) ?_
                refine cw_iconst (v := 1) dX11_canDo_103 (by decide) ?_
                exact cw_bret rfl dX11_canDo_104 (by decide) h
              · have h := h.2
                by_cases q7 : x1 = 7
                · have h := h.1 q7
                  refine cw_tableIn (tgt := 88) (off := 87) dX11_canDo_1 (by rw [q7]; decide) (by rw [q7]; decide) (by rw [q7]; decide +kernel) (by decide) ?_
                  refine cw_aload_n dX11_canDo_88 0 rfl rfl ?_
                  refine cw_iload_n dX11_canDo_89 2 rfl rfl ?_
                  obtain ⟨v_90, J_90, hc_90, h⟩ := h
                  refine cw_callV (o := 0) (As := [.int x2]) hc_90 okX11_findCycle rfl gX11_canDo_X11_findCycle (by decide) (show 0 < 11 by decide) rfl (ci := 9) rfl rfl (Nat.le_of_ble_eq_true rfl) dX11_canDo_90 ?_
                  refine cw_iconst (v := (-1)) dX11_canDo_93 (by decide) ?_
                  refine cw_icmp_eq (tgt := 101) dX11_canDo_94 (by decide) (fun q => ?_) (fun q => ?_)
                  · have h := h.1 q
                    refine cw_iconst (v := 0) dX11_canDo_101 (by decide) ?_
                    exact cw_bret rfl dX11_canDo_102 (by decide) h
                  · have h := h.2 q
                    refine cw_iconst (v := 1) dX11_canDo_97 (by decide) ?_
                    refine cw_goto (tgt := 102) dX11_canDo_98 (by decide) ?_
                    exact cw_bret rfl dX11_canDo_102 (by decide) h
                · have h := h.2
                  have h := h q0 q1 q2 q3 q4 q5 q6 q7
                  have n0 := lv_neT (a := 0) q0 (by decide)
                  have n1 := lv_neT (a := 1) q1 (by decide)
                  have n2 := lv_neT (a := 2) q2 (by decide)
                  have n3 := lv_neT (a := 3) q3 (by decide)
                  have n4 := lv_neT (a := 4) q4 (by decide)
                  have n5 := lv_neT (a := 5) q5 (by decide)
                  have n6 := lv_neT (a := 6) q6 (by decide)
                  have n7 := lv_neT (a := 7) q7 (by decide)
                  refine cw_tableOut (tgt := 103) dX11_canDo_1 (by omega) (by decide) ?_
                  refine cw_iconst (v := 1) dX11_canDo_103 (by decide) ?_
                  exact cw_bret rfl dX11_canDo_104 (by decide) h
set_option maxRecDepth 20000 in
set_option maxHeartbeats 4000000 in
theorem eX11_cellCount_0 {K : cw_K} {r : Option Value} {J0 I : cw_M} (h : (∃ (v_7 : Int32) (J_7 : cw_M), cw_C (cr_w K) mX11_plain [.ref (cw_a (cr_w K) 0), .int (I 1 0)] I (some (.int v_7)) J_7 ∧ (r = some (.int v_7) ∧ J0 = J_7))) : cw_C (cr_w K) mX11_cellCount [.ref (cw_a (cr_w K) 0)] I r J0 := by
  refine cw_entry okX11_cellCount (Nat.le_of_ble_eq_true rfl) (show cw_B (cr_w K) mX11_cellCount (cw_Z (cr_w K) r J0) 0 0 I 0 [(0, .ref (cw_a (cr_w K) 0))] [] from ?_)
  refine cw_aload_n dX11_cellCount_0 0 rfl rfl ?_
  refine cw_aload_n dX11_cellCount_1 0 rfl rfl ?_
  refine cw_getf (C := RX11) (T := TX11) (N := 20) (ci := 9) inX11_cellCount_RX11 0 (show 0 < 11 by decide) rfl rfl 0 (by decide) (by decide +kernel) rfl dX11_cellCount_2 ?_
  refine cw_iconst (v := 0) dX11_cellCount_5 (by decide) ?_
  refine cw_ialdL (j := 0) 1 (show 1 < 11 by decide) rfl 0 rfl dX11_cellCount_6 rfl (by decide) (by decide) ?_
  obtain ⟨v_7, J_7, hc_7, h⟩ := h
  refine cw_callV (o := 0) (As := [.int (I 1 0)]) hc_7 okX11_plain rfl gX11_cellCount_X11_plain (by decide) (show 0 < 11 by decide) rfl (ci := 9) rfl rfl (Nat.le_of_ble_eq_true rfl) dX11_cellCount_7 ?_
  exact cw_iret rfl dX11_cellCount_10 h
abbrev bX11_clear_0_2 (K : cw_K) (r : Option Value) (J0 : cw_M) (x1 : Int32) (I : cw_M) : Prop := cw_B (cr_w K) mX11_clear (cw_Z (cr_w K) r J0) 0 0 I 2 [(0, .ref (cw_a (cr_w K) 0)), (1, .int x1)] []
set_option maxRecDepth 20000 in
set_option maxHeartbeats 4000000 in
theorem eX11_clear_0 {K : cw_K} {r : Option Value} {J0 I : cw_M} (h : bX11_clear_0_2 K r J0 0 I) : cw_C (cr_w K) mX11_clear [.ref (cw_a (cr_w K) 0)] I r J0 := by
  refine cw_entry okX11_clear (Nat.le_of_ble_eq_true rfl) (show cw_B (cr_w K) mX11_clear (cw_Z (cr_w K) r J0) 0 0 I 0 [(0, .ref (cw_a (cr_w K) 0))] [] from ?_)
  refine cw_iconst (v := 0) dX11_clear_0 (by decide) ?_
  refine cw_istore_n dX11_clear_1 rfl (by decide) rfl ?_
  refine cw_sub [1, 0] rfl ?_
  exact h
set_option maxRecDepth 20000 in
set_option maxHeartbeats 4000000 in
theorem tbX11_clear_0_2 {K : cw_K} {r : Option Value} {J0 I : cw_M} {x1 : Int32} (h : (((I 1 0) ≤ x1 → (r = none ∧ J0 = I)) ∧ (¬ (I 1 0) ≤ x1 → (vp_in (2 + x1) 2120 ∧ bX11_clear_0_2 K r J0 (x1 + 1) (cw_st I 1 (2 + x1).toNatClampNeg (-1)))))) : bX11_clear_0_2 K r J0 x1 I := by
  refine cw_iload_n dX11_clear_2 1 rfl rfl ?_
  refine cw_aload_n dX11_clear_3 0 rfl rfl ?_
  refine cw_getf (C := RX11) (T := TX11) (N := 20) (ci := 9) inX11_clear_RX11 0 (show 0 < 11 by decide) rfl rfl 0 (by decide) (by decide +kernel) rfl dX11_clear_4 ?_
  refine cw_iconst (v := 0) dX11_clear_7 (by decide) ?_
  refine cw_ialdL (j := 0) 1 (show 1 < 11 by decide) rfl 0 rfl dX11_clear_8 rfl (by decide) (by decide) ?_
  refine cw_icmp_ge (tgt := 27) dX11_clear_9 (by decide) (fun q => ?_) (fun q => ?_)
  · have h := h.1 q
    exact cw_vret rfl dX11_clear_27 h
  · have h := h.2 q
    refine cw_aload_n dX11_clear_12 0 rfl rfl ?_
    refine cw_getf (C := RX11) (T := TX11) (N := 20) (ci := 9) inX11_clear_RX11 0 (show 0 < 11 by decide) rfl rfl 0 (by decide) (by decide +kernel) rfl dX11_clear_13 ?_
    refine cw_iconst (v := 2) dX11_clear_16 (by decide) ?_
    refine cw_iload_n dX11_clear_17 1 rfl rfl ?_
    refine cw_iadd dX11_clear_18 ?_
    refine cw_iconst (v := (-1)) dX11_clear_19 (by decide) ?_
    obtain ⟨g_20, h⟩ := h
    refine cw_iast 1 (show 1 < 11 by decide) (fun _ => rfl) 0 rfl dX11_clear_20 g_20 ?_
    refine cw_iinc (v := x1 + 1) dX11_clear_21 (j := 1) rfl rfl (by decide) rfl ?_
    refine cw_goto (tgt := 2) dX11_clear_24 (by decide) ?_
    refine cw_sub [1, 0] rfl ?_
    exact h
abbrev bX11_commandHere_0_2 (K : cw_K) (r : Option Value) (J0 : cw_M) (x1 : Int32) (I : cw_M) : Prop := cw_B (cr_w K) mX11_commandHere (cw_Z (cr_w K) r J0) 0 0 I 2 [(0, .ref (cw_a (cr_w K) 0)), (1, .int x1)] []
set_option maxRecDepth 20000 in
set_option maxHeartbeats 4000000 in
theorem eX11_commandHere_0 {K : cw_K} {r : Option Value} {J0 I : cw_M} (h : bX11_commandHere_0_2 K r J0 0 I) : cw_C (cr_w K) mX11_commandHere [.ref (cw_a (cr_w K) 0)] I r J0 := by
  refine cw_entry okX11_commandHere (Nat.le_of_ble_eq_true rfl) (show cw_B (cr_w K) mX11_commandHere (cw_Z (cr_w K) r J0) 0 0 I 0 [(0, .ref (cw_a (cr_w K) 0))] [] from ?_)
  refine cw_iconst (v := 0) dX11_commandHere_0 (by decide) ?_
  refine cw_istore_n dX11_commandHere_1 rfl (by decide) rfl ?_
  refine cw_sub [1, 0] rfl ?_
  exact h
set_option maxRecDepth 20000 in
set_option maxHeartbeats 4000000 in
theorem tbX11_commandHere_0_2 {K : cw_K} {r : Option Value} {J0 I : cw_M} {x1 : Int32} (h : ((7 < x1 → (r = some (.int (-1)) ∧ J0 = I)) ∧ (¬ 7 < x1 → (∃ (v_10 : Nat) (J_10 : cw_M), cw_C (cr_w K) mX11_nameOf [.int x1] I (some (.ref (cw_sd K v_10))) J_10 ∧ (∃ (v_13 : Int32) (J_13 : cw_M), cw_C (cr_w K) mX11_isWord [.ref (cw_a (cr_w K) 0), .ref (cw_sd K v_10)] J_10 (some (.int v_13)) J_13 ∧ ((v_13 = 0 → bX11_commandHere_0_2 K r J0 (x1 + 1) J_13) ∧ (¬ v_13 = 0 → (r = some (.int x1) ∧ J0 = J_13)))))))) : bX11_commandHere_0_2 K r J0 x1 I := by
  refine cw_iload_n dX11_commandHere_2 1 rfl rfl ?_
  refine cw_bipush (v := 7) dX11_commandHere_3 (by decide) ?_
  refine cw_icmp_gt (tgt := 27) dX11_commandHere_5 (by decide) (fun q => ?_) (fun q => ?_)
  · have h := h.1 q
    refine cw_iconst (v := (-1)) dX11_commandHere_27 (by decide) ?_
    exact cw_iret rfl dX11_commandHere_28 h
  · have h := h.2 q
    refine cw_aload_n dX11_commandHere_8 0 rfl rfl ?_
    refine cw_iload_n dX11_commandHere_9 1 rfl rfl ?_
    obtain ⟨v_10, J_10, hc_10, h⟩ := h
    refine cw_callS (As := [.int x1]) hc_10 okX11_nameOf rfl gX11_commandHere_X11_nameOf (by decide) rfl rfl (Nat.le_of_ble_eq_true rfl) dX11_commandHere_10 ?_
    obtain ⟨v_13, J_13, hc_13, h⟩ := h
    refine cw_callV (o := 0) (As := [.ref (cw_sd K v_10)]) hc_13 okX11_isWord rfl gX11_commandHere_X11_isWord (by decide) (show 0 < 11 by decide) rfl (ci := 9) rfl rfl (Nat.le_of_ble_eq_true rfl) dX11_commandHere_13 ?_
    refine cw_if_eq (tgt := 21) dX11_commandHere_16 (by decide) (fun q => ?_) (fun q => ?_)
    · have h := h.1 q
      refine cw_iinc (v := x1 + 1) dX11_commandHere_21 (j := 1) rfl rfl (by decide) rfl ?_
      refine cw_goto (tgt := 2) dX11_commandHere_24 (by decide) ?_
      refine cw_sub [1, 0] rfl ?_
      exact h
    · have h := h.2 q
      refine cw_iload_n dX11_commandHere_19 1 rfl rfl ?_
      exact cw_iret rfl dX11_commandHere_20 h
abbrev bX11_contentCount_0_4 (K : cw_K) (r : Option Value) (J0 : cw_M) (x1 : Int32) (x2 : Int32) (I : cw_M) : Prop := cw_B (cr_w K) mX11_contentCount (cw_Z (cr_w K) r J0) 0 0 I 4 [(0, .ref (cw_a (cr_w K) 0)), (1, .int x1), (2, .int x2)] []
set_option maxRecDepth 20000 in
set_option maxHeartbeats 4000000 in
theorem eX11_contentCount_0 {K : cw_K} {r : Option Value} {J0 I : cw_M} (h : bX11_contentCount_0_4 K r J0 0 0 I) : cw_C (cr_w K) mX11_contentCount [.ref (cw_a (cr_w K) 0)] I r J0 := by
  refine cw_entry okX11_contentCount (Nat.le_of_ble_eq_true rfl) (show cw_B (cr_w K) mX11_contentCount (cw_Z (cr_w K) r J0) 0 0 I 0 [(0, .ref (cw_a (cr_w K) 0))] [] from ?_)
  refine cw_iconst (v := 0) dX11_contentCount_0 (by decide) ?_
  refine cw_istore_n dX11_contentCount_1 rfl (by decide) rfl ?_
  refine cw_iconst (v := 0) dX11_contentCount_2 (by decide) ?_
  refine cw_istore_n dX11_contentCount_3 rfl (by decide) rfl ?_
  refine cw_sub [2, 1, 0] rfl ?_
  exact h
set_option maxRecDepth 20000 in
set_option maxHeartbeats 4000000 in
theorem tbX11_contentCount_0_4 {K : cw_K} {r : Option Value} {J0 I : cw_M} {x1 : Int32} {x2 : Int32} (h : (((I 1 1) ≤ x2 → (r = some (.int x1) ∧ J0 = I)) ∧ (¬ (I 1 1) ≤ x2 → (∃ (v_17 : Int32) (J_17 : cw_M), cw_C (cr_w K) mX11_isContent [.ref (cw_a (cr_w K) 0), .int x2] I (some (.int v_17)) J_17 ∧ ((v_17 = 0 → bX11_contentCount_0_4 K r J0 (x1 + 0) (x2 + 1) J_17) ∧ (¬ v_17 = 0 → bX11_contentCount_0_4 K r J0 (x1 + 1) (x2 + 1) J_17)))))) : bX11_contentCount_0_4 K r J0 x1 x2 I := by
  refine cw_iload_n dX11_contentCount_4 2 rfl rfl ?_
  refine cw_aload_n dX11_contentCount_5 0 rfl rfl ?_
  refine cw_getf (C := RX11) (T := TX11) (N := 20) (ci := 9) inX11_contentCount_RX11 0 (show 0 < 11 by decide) rfl rfl 0 (by decide) (by decide +kernel) rfl dX11_contentCount_6 ?_
  refine cw_iconst (v := 1) dX11_contentCount_9 (by decide) ?_
  refine cw_ialdL (j := 1) 1 (show 1 < 11 by decide) rfl 0 rfl dX11_contentCount_10 rfl (by decide) (by decide) ?_
  refine cw_icmp_ge (tgt := 36) dX11_contentCount_11 (by decide) (fun q => ?_) (fun q => ?_)
  · have h := h.1 q
    refine cw_iload_n dX11_contentCount_36 1 rfl rfl ?_
    exact cw_iret rfl dX11_contentCount_37 h
  · have h := h.2 q
    refine cw_iload_n dX11_contentCount_14 1 rfl rfl ?_
    refine cw_aload_n dX11_contentCount_15 0 rfl rfl ?_
    refine cw_iload_n dX11_contentCount_16 2 rfl rfl ?_
    obtain ⟨v_17, J_17, hc_17, h⟩ := h
    refine cw_callV (o := 0) (As := [.int x2]) hc_17 okX11_isContent rfl gX11_contentCount_X11_isContent (by decide) (show 0 < 11 by decide) rfl (ci := 9) rfl rfl (Nat.le_of_ble_eq_true rfl) dX11_contentCount_17 ?_
    refine cw_if_eq (tgt := 27) dX11_contentCount_20 (by decide) (fun q => ?_) (fun q => ?_)
    · have h := h.1 q
      refine cw_iconst (v := 0) dX11_contentCount_27 (by decide) ?_
      refine cw_iadd dX11_contentCount_28 ?_
      refine cw_istore_n dX11_contentCount_29 rfl (by decide) rfl ?_
      refine cw_iinc (v := x2 + 1) dX11_contentCount_30 (j := 2) rfl rfl (by decide) rfl ?_
      refine cw_goto (tgt := 4) dX11_contentCount_33 (by decide) ?_
      refine cw_sub [2, 1, 0] rfl ?_
      exact h
    · have h := h.2 q
      refine cw_iconst (v := 1) dX11_contentCount_23 (by decide) ?_
      refine cw_goto (tgt := 28) dX11_contentCount_24 (by decide) ?_
      refine cw_iadd dX11_contentCount_28 ?_
      refine cw_istore_n dX11_contentCount_29 rfl (by decide) rfl ?_
      refine cw_iinc (v := x2 + 1) dX11_contentCount_30 (j := 2) rfl rfl (by decide) rfl ?_
      refine cw_goto (tgt := 4) dX11_contentCount_33 (by decide) ?_
      refine cw_sub [2, 1, 0] rfl ?_
      exact h
abbrev bX11_contiguousLeast_0_2 (K : cw_K) (r : Option Value) (J0 : cw_M) (x1 : Int32) (I : cw_M) : Prop := cw_B (cr_w K) mX11_contiguousLeast (cw_Z (cr_w K) r J0) 0 0 I 2 [(0, .ref (cw_a (cr_w K) 0)), (1, .int x1)] []
abbrev bX11_contiguousLeast_0_29 (K : cw_K) (r : Option Value) (J0 : cw_M) (x1 : Int32) (x2 : Int32) (I : cw_M) : Prop := cw_B (cr_w K) mX11_contiguousLeast (cw_Z (cr_w K) r J0) 0 0 I 29 [(0, .ref (cw_a (cr_w K) 0)), (1, .int x1), (2, .int x2)] []
abbrev bX11_contiguousLeast_0_33 (K : cw_K) (r : Option Value) (J0 : cw_M) (x1 : Int32) (I : cw_M) : Prop := cw_B (cr_w K) mX11_contiguousLeast (cw_Z (cr_w K) r J0) 0 0 I 33 [(0, .ref (cw_a (cr_w K) 0)), (1, .int x1)] []
set_option maxRecDepth 20000 in
set_option maxHeartbeats 4000000 in
theorem eX11_contiguousLeast_0 {K : cw_K} {r : Option Value} {J0 I : cw_M} (h : bX11_contiguousLeast_0_2 K r J0 0 I) : cw_C (cr_w K) mX11_contiguousLeast [.ref (cw_a (cr_w K) 0)] I r J0 := by
  refine cw_entry okX11_contiguousLeast (Nat.le_of_ble_eq_true rfl) (show cw_B (cr_w K) mX11_contiguousLeast (cw_Z (cr_w K) r J0) 0 0 I 0 [(0, .ref (cw_a (cr_w K) 0))] [] from ?_)
  refine cw_iconst (v := 0) dX11_contiguousLeast_0 (by decide) ?_
  refine cw_istore_n dX11_contiguousLeast_1 rfl (by decide) rfl ?_
  refine cw_sub [1, 0] rfl ?_
  exact h
set_option maxRecDepth 20000 in
set_option maxHeartbeats 4000000 in
theorem tbX11_contiguousLeast_0_2 {K : cw_K} {r : Option Value} {J0 I : cw_M} {x1 : Int32} (h : (((I 1 1) ≤ x1 → bX11_contiguousLeast_0_29 K r J0 0 1 I) ∧ (¬ (I 1 1) ≤ x1 → (vp_in x1 6 ∧ bX11_contiguousLeast_0_2 K r J0 (x1 + 1) (cw_st I 9 x1.toNatClampNeg x1))))) : bX11_contiguousLeast_0_2 K r J0 x1 I := by
  refine cw_iload_n dX11_contiguousLeast_2 1 rfl rfl ?_
  refine cw_aload_n dX11_contiguousLeast_3 0 rfl rfl ?_
  refine cw_getf (C := RX11) (T := TX11) (N := 20) (ci := 9) inX11_contiguousLeast_RX11 0 (show 0 < 11 by decide) rfl rfl 0 (by decide) (by decide +kernel) rfl dX11_contiguousLeast_4 ?_
  refine cw_iconst (v := 1) dX11_contiguousLeast_7 (by decide) ?_
  refine cw_ialdL (j := 1) 1 (show 1 < 11 by decide) rfl 0 rfl dX11_contiguousLeast_8 rfl (by decide) (by decide) ?_
  refine cw_icmp_ge (tgt := 25) dX11_contiguousLeast_9 (by decide) (fun q => ?_) (fun q => ?_)
  · have h := h.1 q
    refine cw_iconst (v := 0) dX11_contiguousLeast_25 (by decide) ?_
    refine cw_istore_n dX11_contiguousLeast_26 rfl (by decide) rfl ?_
    refine cw_iconst (v := 1) dX11_contiguousLeast_27 (by decide) ?_
    refine cw_istore_n dX11_contiguousLeast_28 rfl (by decide) rfl ?_
    refine cw_sub [2, 1, 0] rfl ?_
    exact h
  · have h := h.2 q
    refine cw_aload_n dX11_contiguousLeast_12 0 rfl rfl ?_
    refine cw_getf (C := RX11) (T := TX11) (N := 20) (ci := 9) inX11_contiguousLeast_RX11 0 (show 0 < 11 by decide) rfl rfl 14 (by decide) (by decide +kernel) rfl dX11_contiguousLeast_13 ?_
    refine cw_iload_n dX11_contiguousLeast_16 1 rfl rfl ?_
    refine cw_iload_n dX11_contiguousLeast_17 1 rfl rfl ?_
    obtain ⟨g_18, h⟩ := h
    refine cw_iast 9 (show 9 < 11 by decide) (fun _ => rfl) 0 rfl dX11_contiguousLeast_18 g_18 ?_
    refine cw_iinc (v := x1 + 1) dX11_contiguousLeast_19 (j := 1) rfl rfl (by decide) rfl ?_
    refine cw_goto (tgt := 2) dX11_contiguousLeast_22 (by decide) ?_
    refine cw_sub [1, 0] rfl ?_
    exact h
set_option maxRecDepth 20000 in
set_option maxHeartbeats 4000000 in
theorem tbX11_contiguousLeast_0_29 {K : cw_K} {r : Option Value} {J0 I : cw_M} {x1 : Int32} {x2 : Int32} (h : ((x2 = 0 → (r = some (.int x1) ∧ J0 = I)) ∧ (¬ x2 = 0 → bX11_contiguousLeast_0_33 K r J0 x1 I))) : bX11_contiguousLeast_0_29 K r J0 x1 x2 I := by
  refine cw_iload_n dX11_contiguousLeast_29 2 rfl rfl ?_
  refine cw_if_eq (tgt := 57) dX11_contiguousLeast_30 (by decide) (fun q => ?_) (fun q => ?_)
  · have h := h.1 q
    refine cw_iload_n dX11_contiguousLeast_57 1 rfl rfl ?_
    exact cw_iret rfl dX11_contiguousLeast_58 h
  · have h := h.2 q
    refine cw_sub [0, 1] rfl ?_
    exact h
set_option maxRecDepth 20000 in
set_option maxHeartbeats 4000000 in
theorem tbX11_contiguousLeast_0_33 {K : cw_K} {r : Option Value} {J0 I : cw_M} {x1 : Int32} (h : (∃ (v_37 : Int32) (J_37 : cw_M), cw_C (cr_w K) mX11_reaches [.ref (cw_a (cr_w K) 0), .int (x1 + 1)] I (some (.int v_37)) J_37 ∧ ((v_37 = 0 → (∃ (v_50 : Int32) (J_50 : cw_M), cw_C (cr_w K) mX11_advanceSequence [.ref (cw_a (cr_w K) 0)] J_37 (some (.int v_50)) J_50 ∧ bX11_contiguousLeast_0_29 K r J0 x1 v_50 J_50)) ∧ (¬ v_37 = 0 → bX11_contiguousLeast_0_33 K r J0 (x1 + 1) J_37)))) : bX11_contiguousLeast_0_33 K r J0 x1 I := by
  refine cw_aload_n dX11_contiguousLeast_33 0 rfl rfl ?_
  refine cw_iload_n dX11_contiguousLeast_34 1 rfl rfl ?_
  refine cw_iconst (v := 1) dX11_contiguousLeast_35 (by decide) ?_
  refine cw_iadd dX11_contiguousLeast_36 ?_
  obtain ⟨v_37, J_37, hc_37, h⟩ := h
  refine cw_callV (o := 0) (As := [.int (x1 + 1)]) hc_37 okX11_reaches rfl gX11_contiguousLeast_X11_reaches (by decide) (show 0 < 11 by decide) rfl (ci := 9) rfl rfl (Nat.le_of_ble_eq_true rfl) dX11_contiguousLeast_37 ?_
  refine cw_if_eq (tgt := 49) dX11_contiguousLeast_40 (by decide) (fun q => ?_) (fun q => ?_)
  · have h := h.1 q
    refine cw_aload_n dX11_contiguousLeast_49 0 rfl rfl ?_
    obtain ⟨v_50, J_50, hc_50, h⟩ := h
    refine cw_callV (o := 0) (As := []) hc_50 okX11_advanceSequence rfl gX11_contiguousLeast_X11_advanceSequence (by decide) (show 0 < 11 by decide) rfl (ci := 9) rfl rfl (Nat.le_of_ble_eq_true rfl) dX11_contiguousLeast_50 ?_
    refine cw_istore_n dX11_contiguousLeast_53 rfl (by decide) rfl ?_
    refine cw_goto (tgt := 29) dX11_contiguousLeast_54 (by decide) ?_
    refine cw_sub [1, 2, 0] rfl ?_
    exact h
  · have h := h.2 q
    refine cw_iinc (v := x1 + 1) dX11_contiguousLeast_43 (j := 1) rfl rfl (by decide) rfl ?_
    refine cw_goto (tgt := 33) dX11_contiguousLeast_46 (by decide) ?_
    refine cw_sub [1, 0] rfl ?_
    exact h
abbrev bX11_contiguousWelfare_0_11 (K : cw_K) (r : Option Value) (J0 : cw_M) (x1 : Int32) (x2 : Int32) (I : cw_M) : Prop := cw_B (cr_w K) mX11_contiguousWelfare (cw_Z (cr_w K) r J0) 0 0 I 11 [(0, .ref (cw_a (cr_w K) 0)), (1, .int x1), (2, .int x2)] []
abbrev bX11_contiguousWelfare_0_18 (K : cw_K) (r : Option Value) (J0 : cw_M) (x1 : Int32) (x2 : Int32) (x3 : Int32) (I : cw_M) : Prop := cw_B (cr_w K) mX11_contiguousWelfare (cw_Z (cr_w K) r J0) 0 0 I 18 [(0, .ref (cw_a (cr_w K) 0)), (1, .int x1), (2, .int x2), (3, .int x3)] []
abbrev bX11_contiguousWelfare_0_60 (K : cw_K) (r : Option Value) (J0 : cw_M) (x1 : Int32) (x2 : Int32) (x3 : Int32) (I : cw_M) : Prop := cw_B (cr_w K) mX11_contiguousWelfare (cw_Z (cr_w K) r J0) 0 0 I 60 [(0, .ref (cw_a (cr_w K) 0)), (1, .int x1), (2, .int x2), (3, .int x3)] []
set_option maxRecDepth 20000 in
set_option maxHeartbeats 4000000 in
theorem eX11_contiguousWelfare_0 {K : cw_K} {r : Option Value} {J0 I : cw_M} (h : bX11_contiguousWelfare_0_11 K r J0 (1 <<< ((I 1 1) &&& 31)) 0 I) : cw_C (cr_w K) mX11_contiguousWelfare [.ref (cw_a (cr_w K) 0)] I r J0 := by
  refine cw_entry okX11_contiguousWelfare (Nat.le_of_ble_eq_true rfl) (show cw_B (cr_w K) mX11_contiguousWelfare (cw_Z (cr_w K) r J0) 0 0 I 0 [(0, .ref (cw_a (cr_w K) 0))] [] from ?_)
  refine cw_iconst (v := 1) dX11_contiguousWelfare_0 (by decide) ?_
  refine cw_aload_n dX11_contiguousWelfare_1 0 rfl rfl ?_
  refine cw_getf (C := RX11) (T := TX11) (N := 20) (ci := 9) inX11_contiguousWelfare_RX11 0 (show 0 < 11 by decide) rfl rfl 0 (by decide) (by decide +kernel) rfl dX11_contiguousWelfare_2 ?_
  refine cw_iconst (v := 1) dX11_contiguousWelfare_5 (by decide) ?_
  refine cw_ialdL (j := 1) 1 (show 1 < 11 by decide) rfl 0 rfl dX11_contiguousWelfare_6 rfl (by decide) (by decide) ?_
  refine cw_ishl dX11_contiguousWelfare_7 ?_
  refine cw_istore_n dX11_contiguousWelfare_8 rfl (by decide) rfl ?_
  refine cw_iconst (v := 0) dX11_contiguousWelfare_9 (by decide) ?_
  refine cw_istore_n dX11_contiguousWelfare_10 rfl (by decide) rfl ?_
  refine cw_sub [2, 1, 0] rfl ?_
  exact h
set_option maxRecDepth 20000 in
set_option maxHeartbeats 4000000 in
theorem tbX11_contiguousWelfare_0_11 {K : cw_K} {r : Option Value} {J0 I : cw_M} {x1 : Int32} {x2 : Int32} (h : ((x1 ≤ x2 → (vp_in (((x1 - 1) * 25) + (I 1 0)) 1600 ∧ (r = some (.int (I 8 (((x1 - 1) * 25) + (I 1 0)).toNatClampNeg)) ∧ J0 = I))) ∧ (¬ x1 ≤ x2 → bX11_contiguousWelfare_0_18 K r J0 x1 x2 0 I))) : bX11_contiguousWelfare_0_11 K r J0 x1 x2 I := by
  refine cw_iload_n dX11_contiguousWelfare_11 2 rfl rfl ?_
  refine cw_iload_n dX11_contiguousWelfare_12 1 rfl rfl ?_
  refine cw_icmp_ge (tgt := 104) dX11_contiguousWelfare_13 (by decide) (fun q => ?_) (fun q => ?_)
  · have h := h.1 q
    refine cw_aload_n dX11_contiguousWelfare_104 0 rfl rfl ?_
    refine cw_getf (C := RX11) (T := TX11) (N := 20) (ci := 9) inX11_contiguousWelfare_RX11 0 (show 0 < 11 by decide) rfl rfl 13 (by decide) (by decide +kernel) rfl dX11_contiguousWelfare_105 ?_
    refine cw_iload_n dX11_contiguousWelfare_108 1 rfl rfl ?_
    refine cw_iconst (v := 1) dX11_contiguousWelfare_109 (by decide) ?_
    refine cw_isub dX11_contiguousWelfare_110 ?_
    refine cw_bipush (v := 25) dX11_contiguousWelfare_111 (by decide) ?_
    refine cw_imul dX11_contiguousWelfare_113 ?_
    refine cw_aload_n dX11_contiguousWelfare_114 0 rfl rfl ?_
    refine cw_getf (C := RX11) (T := TX11) (N := 20) (ci := 9) inX11_contiguousWelfare_RX11 0 (show 0 < 11 by decide) rfl rfl 0 (by decide) (by decide +kernel) rfl dX11_contiguousWelfare_115 ?_
    refine cw_iconst (v := 0) dX11_contiguousWelfare_118 (by decide) ?_
    refine cw_ialdL (j := 0) 1 (show 1 < 11 by decide) rfl 0 rfl dX11_contiguousWelfare_119 rfl (by decide) (by decide) ?_
    refine cw_iadd dX11_contiguousWelfare_120 ?_
    obtain ⟨g_121, h⟩ := h
    refine cw_iald 8 (show 8 < 11 by decide) rfl 0 rfl dX11_contiguousWelfare_121 g_121 ?_
    exact cw_iret rfl dX11_contiguousWelfare_122 h
  · have h := h.2 q
    refine cw_iconst (v := 0) dX11_contiguousWelfare_16 (by decide) ?_
    refine cw_istore_n dX11_contiguousWelfare_17 rfl (by decide) rfl ?_
    refine cw_sub [1, 2, 3, 0] rfl ?_
    exact h
set_option maxRecDepth 20000 in
set_option maxHeartbeats 4000000 in
theorem tbX11_contiguousWelfare_0_18 {K : cw_K} {r : Option Value} {J0 I : cw_M} {x1 : Int32} {x2 : Int32} {x3 : Int32} (h : (((I 1 0) < x3 → bX11_contiguousWelfare_0_60 K r J0 x1 x2 0 I) ∧ (¬ (I 1 0) < x3 → ((¬ x2 = 0 → (vp_in ((x2 * 25) + x3) 1600 ∧ bX11_contiguousWelfare_0_18 K r J0 x1 x2 (x3 + 1) (cw_st I 8 ((x2 * 25) + x3).toNatClampNeg 0))) ∧ (x2 = 0 → ((x3 ≤ 0 → (vp_in ((x2 * 25) + x3) 1600 ∧ bX11_contiguousWelfare_0_18 K r J0 x1 x2 (x3 + 1) (cw_st I 8 ((x2 * 25) + x3).toNatClampNeg 0))) ∧ (¬ x3 ≤ 0 → (vp_in ((x2 * 25) + x3) 1600 ∧ bX11_contiguousWelfare_0_18 K r J0 x1 x2 (x3 + 1) (cw_st I 8 ((x2 * 25) + x3).toNatClampNeg (-1)))))))))) : bX11_contiguousWelfare_0_18 K r J0 x1 x2 x3 I := by
  refine cw_iload_n dX11_contiguousWelfare_18 3 rfl rfl ?_
  refine cw_aload_n dX11_contiguousWelfare_19 0 rfl rfl ?_
  refine cw_getf (C := RX11) (T := TX11) (N := 20) (ci := 9) inX11_contiguousWelfare_RX11 0 (show 0 < 11 by decide) rfl rfl 0 (by decide) (by decide +kernel) rfl dX11_contiguousWelfare_20 ?_
  refine cw_iconst (v := 0) dX11_contiguousWelfare_23 (by decide) ?_
  refine cw_ialdL (j := 0) 1 (show 1 < 11 by decide) rfl 0 rfl dX11_contiguousWelfare_24 rfl (by decide) (by decide) ?_
  refine cw_icmp_gt (tgt := 58) dX11_contiguousWelfare_25 (by decide) (fun q => ?_) (fun q => ?_)
  · have h := h.1 q
    refine cw_iconst (v := 0) dX11_contiguousWelfare_58 (by decide) ?_
    refine cw_istore_n dX11_contiguousWelfare_59 rfl (by decide) rfl ?_
    refine cw_sub [1, 2, 3, 0] rfl ?_
    exact h
  · have h := h.2 q
    refine cw_aload_n dX11_contiguousWelfare_28 0 rfl rfl ?_
    refine cw_getf (C := RX11) (T := TX11) (N := 20) (ci := 9) inX11_contiguousWelfare_RX11 0 (show 0 < 11 by decide) rfl rfl 13 (by decide) (by decide +kernel) rfl dX11_contiguousWelfare_29 ?_
    refine cw_iload_n dX11_contiguousWelfare_32 2 rfl rfl ?_
    refine cw_bipush (v := 25) dX11_contiguousWelfare_33 (by decide) ?_
    refine cw_imul dX11_contiguousWelfare_35 ?_
    refine cw_iload_n dX11_contiguousWelfare_36 3 rfl rfl ?_
    refine cw_iadd dX11_contiguousWelfare_37 ?_
    refine cw_iload_n dX11_contiguousWelfare_38 2 rfl rfl ?_
    refine cw_if_ne (tgt := 50) dX11_contiguousWelfare_39 (by decide) (fun q => ?_) (fun q => ?_)
    · have h := h.1 q
      refine cw_iconst (v := 0) dX11_contiguousWelfare_50 (by decide) ?_
      obtain ⟨g_51, h⟩ := h
      refine cw_iast 8 (show 8 < 11 by decide) (fun _ => rfl) 0 rfl dX11_contiguousWelfare_51 g_51 ?_
      refine cw_iinc (v := x3 + 1) dX11_contiguousWelfare_52 (j := 3) rfl rfl (by decide) rfl ?_
      refine cw_goto (tgt := 18) dX11_contiguousWelfare_55 (by decide) ?_
      refine cw_sub [1, 2, 3, 0] rfl ?_
      exact h
    · have h := h.2 q
      refine cw_iload_n dX11_contiguousWelfare_42 3 rfl rfl ?_
      refine cw_if_le (tgt := 50) dX11_contiguousWelfare_43 (by decide) (fun q => ?_) (fun q => ?_)
      · have h := h.1 q
        refine cw_iconst (v := 0) dX11_contiguousWelfare_50 (by decide) ?_
        obtain ⟨g_51, h⟩ := h
        refine cw_iast 8 (show 8 < 11 by decide) (fun _ => rfl) 0 rfl dX11_contiguousWelfare_51 g_51 ?_
        refine cw_iinc (v := x3 + 1) dX11_contiguousWelfare_52 (j := 3) rfl rfl (by decide) rfl ?_
        refine cw_goto (tgt := 18) dX11_contiguousWelfare_55 (by decide) ?_
        refine cw_sub [1, 2, 3, 0] rfl ?_
        exact h
      · have h := h.2 q
        refine cw_iconst (v := (-1)) dX11_contiguousWelfare_46 (by decide) ?_
        refine cw_goto (tgt := 51) dX11_contiguousWelfare_47 (by decide) ?_
        obtain ⟨g_51, h⟩ := h
        refine cw_iast 8 (show 8 < 11 by decide) (fun _ => rfl) 0 rfl dX11_contiguousWelfare_51 g_51 ?_
        refine cw_iinc (v := x3 + 1) dX11_contiguousWelfare_52 (j := 3) rfl rfl (by decide) rfl ?_
        refine cw_goto (tgt := 18) dX11_contiguousWelfare_55 (by decide) ?_
        refine cw_sub [1, 2, 3, 0] rfl ?_
        exact h
set_option maxRecDepth 20000 in
set_option maxHeartbeats 4000000 in
theorem tbX11_contiguousWelfare_0_60 {K : cw_K} {r : Option Value} {J0 I : cw_M} {x1 : Int32} {x2 : Int32} {x3 : Int32} (h : (((I 1 1) ≤ x3 → bX11_contiguousWelfare_0_11 K r J0 x1 (x2 + 1) I) ∧ (¬ (I 1 1) ≤ x3 → ((¬ ((x2 >>> (x3 &&& 31)) &&& 1) = 1 → bX11_contiguousWelfare_0_60 K r J0 x1 x2 (x3 + 1) I) ∧ (((x2 >>> (x3 &&& 31)) &&& 1) = 1 → (∃ J_89 : cw_M, cw_C (cr_w K) mX11_extend [.ref (cw_a (cr_w K) 0), .int x2, .int (x2 &&& ((1 <<< (x3 &&& 31)) ^^^ (-1))), .int x3] I none J_89 ∧ bX11_contiguousWelfare_0_60 K r J0 x1 x2 (x3 + 1) J_89)))))) : bX11_contiguousWelfare_0_60 K r J0 x1 x2 x3 I := by
  refine cw_iload_n dX11_contiguousWelfare_60 3 rfl rfl ?_
  refine cw_aload_n dX11_contiguousWelfare_61 0 rfl rfl ?_
  refine cw_getf (C := RX11) (T := TX11) (N := 20) (ci := 9) inX11_contiguousWelfare_RX11 0 (show 0 < 11 by decide) rfl rfl 0 (by decide) (by decide +kernel) rfl dX11_contiguousWelfare_62 ?_
  refine cw_iconst (v := 1) dX11_contiguousWelfare_65 (by decide) ?_
  refine cw_ialdL (j := 1) 1 (show 1 < 11 by decide) rfl 0 rfl dX11_contiguousWelfare_66 rfl (by decide) (by decide) ?_
  refine cw_icmp_ge (tgt := 98) dX11_contiguousWelfare_67 (by decide) (fun q => ?_) (fun q => ?_)
  · have h := h.1 q
    refine cw_iinc (v := x2 + 1) dX11_contiguousWelfare_98 (j := 2) rfl rfl (by decide) rfl ?_
    refine cw_goto (tgt := 11) dX11_contiguousWelfare_101 (by decide) ?_
    refine cw_sub [1, 2, 0] rfl ?_
    exact h
  · have h := h.2 q
    refine cw_iload_n dX11_contiguousWelfare_70 2 rfl rfl ?_
    refine cw_iload_n dX11_contiguousWelfare_71 3 rfl rfl ?_
    refine cw_ishr dX11_contiguousWelfare_72 ?_
    refine cw_iconst (v := 1) dX11_contiguousWelfare_73 (by decide) ?_
    refine cw_iand dX11_contiguousWelfare_74 ?_
    refine cw_iconst (v := 1) dX11_contiguousWelfare_75 (by decide) ?_
    refine cw_icmp_ne (tgt := 92) dX11_contiguousWelfare_76 (by decide) (fun q => ?_) (fun q => ?_)
    · have h := h.1 q
      refine cw_iinc (v := x3 + 1) dX11_contiguousWelfare_92 (j := 3) rfl rfl (by decide) rfl ?_
      refine cw_goto (tgt := 60) dX11_contiguousWelfare_95 (by decide) ?_
      refine cw_sub [1, 2, 3, 0] rfl ?_
      exact h
    · have h := h.2 q
      refine cw_aload_n dX11_contiguousWelfare_79 0 rfl rfl ?_
      refine cw_iload_n dX11_contiguousWelfare_80 2 rfl rfl ?_
      refine cw_iload_n dX11_contiguousWelfare_81 2 rfl rfl ?_
      refine cw_iconst (v := 1) dX11_contiguousWelfare_82 (by decide) ?_
      refine cw_iload_n dX11_contiguousWelfare_83 3 rfl rfl ?_
      refine cw_ishl dX11_contiguousWelfare_84 ?_
      refine cw_iconst (v := (-1)) dX11_contiguousWelfare_85 (by decide) ?_
      refine cw_ixor dX11_contiguousWelfare_86 ?_
      refine cw_iand dX11_contiguousWelfare_87 ?_
      refine cw_iload_n dX11_contiguousWelfare_88 3 rfl rfl ?_
      obtain ⟨J_89, hc_89, h⟩ := h
      refine cw_callV (o := 0) (As := [.int x2, .int (x2 &&& ((1 <<< (x3 &&& 31)) ^^^ (-1))), .int x3]) hc_89 okX11_extend rfl gX11_contiguousWelfare_X11_extend (by decide) (show 0 < 11 by decide) rfl (ci := 9) rfl rfl (Nat.le_of_ble_eq_true rfl) dX11_contiguousWelfare_89 ?_
      refine cw_iinc (v := x3 + 1) dX11_contiguousWelfare_92 (j := 3) rfl rfl (by decide) rfl ?_
      refine cw_goto (tgt := 60) dX11_contiguousWelfare_95 (by decide) ?_
      refine cw_sub [1, 2, 3, 0] rfl ?_
      exact h
abbrev bX11_copyBlock_0_2 (K : cw_K) (r : Option Value) (J0 : cw_M) (x1 : Int32) (x2 : Int32) (x3 : Int32) (I : cw_M) : Prop := cw_B (cr_w K) mX11_copyBlock (cw_Z (cr_w K) r J0) 0 0 I 2 [(0, .ref (cw_a (cr_w K) 0)), (1, .int x1), (2, .int x2), (3, .int x3)] []
set_option maxRecDepth 20000 in
set_option maxHeartbeats 4000000 in
theorem eX11_copyBlock_0 {K : cw_K} {r : Option Value} {J0 I : cw_M} {x1 : Int32} {x2 : Int32} (h : bX11_copyBlock_0_2 K r J0 x1 x2 0 I) : cw_C (cr_w K) mX11_copyBlock [.ref (cw_a (cr_w K) 0), .int x1, .int x2] I r J0 := by
  refine cw_entry okX11_copyBlock (Nat.le_of_ble_eq_true rfl) (show cw_B (cr_w K) mX11_copyBlock (cw_Z (cr_w K) r J0) 0 0 I 0 [(0, .ref (cw_a (cr_w K) 0)), (1, .int x1), (2, .int x2)] [] from ?_)
  refine cw_iconst (v := 0) dX11_copyBlock_0 (by decide) ?_
  refine cw_istore_n dX11_copyBlock_1 rfl (by decide) rfl ?_
  refine cw_sub [1, 2, 3, 0] rfl ?_
  exact h
set_option maxRecDepth 20000 in
set_option maxHeartbeats 4000000 in
theorem tbX11_copyBlock_0_2 {K : cw_K} {r : Option Value} {J0 I : cw_M} {x1 : Int32} {x2 : Int32} {x3 : Int32} (h : ((212 ≤ x3 → (r = none ∧ J0 = I)) ∧ (¬ 212 ≤ x3 → (vp_in ((x1 * 212) + x3) 2120 ∧ (vp_in ((x2 * 212) + x3) 2120 ∧ bX11_copyBlock_0_2 K r J0 x1 x2 (x3 + 1) (cw_st I 1 ((x2 * 212) + x3).toNatClampNeg (I 1 ((x1 * 212) + x3).toNatClampNeg))))))) : bX11_copyBlock_0_2 K r J0 x1 x2 x3 I := by
  refine cw_iload_n dX11_copyBlock_2 3 rfl rfl ?_
  refine cw_sipush (v := 212) dX11_copyBlock_3 (by decide) ?_
  refine cw_icmp_ge (tgt := 39) dX11_copyBlock_6 (by decide) (fun q => ?_) (fun q => ?_)
  · have h := h.1 q
    exact cw_vret rfl dX11_copyBlock_39 h
  · have h := h.2 q
    refine cw_aload_n dX11_copyBlock_9 0 rfl rfl ?_
    refine cw_getf (C := RX11) (T := TX11) (N := 20) (ci := 9) inX11_copyBlock_RX11 0 (show 0 < 11 by decide) rfl rfl 0 (by decide) (by decide +kernel) rfl dX11_copyBlock_10 ?_
    refine cw_iload_n dX11_copyBlock_13 2 rfl rfl ?_
    refine cw_sipush (v := 212) dX11_copyBlock_14 (by decide) ?_
    refine cw_imul dX11_copyBlock_17 ?_
    refine cw_iload_n dX11_copyBlock_18 3 rfl rfl ?_
    refine cw_iadd dX11_copyBlock_19 ?_
    refine cw_aload_n dX11_copyBlock_20 0 rfl rfl ?_
    refine cw_getf (C := RX11) (T := TX11) (N := 20) (ci := 9) inX11_copyBlock_RX11 0 (show 0 < 11 by decide) rfl rfl 0 (by decide) (by decide +kernel) rfl dX11_copyBlock_21 ?_
    refine cw_iload_n dX11_copyBlock_24 1 rfl rfl ?_
    refine cw_sipush (v := 212) dX11_copyBlock_25 (by decide) ?_
    refine cw_imul dX11_copyBlock_28 ?_
    refine cw_iload_n dX11_copyBlock_29 3 rfl rfl ?_
    refine cw_iadd dX11_copyBlock_30 ?_
    obtain ⟨g_31, h⟩ := h
    refine cw_iald 1 (show 1 < 11 by decide) rfl 0 rfl dX11_copyBlock_31 g_31 ?_
    obtain ⟨g_32, h⟩ := h
    refine cw_iast 1 (show 1 < 11 by decide) (fun _ => rfl) 0 rfl dX11_copyBlock_32 g_32 ?_
    refine cw_iinc (v := x3 + 1) dX11_copyBlock_33 (j := 3) rfl rfl (by decide) rfl ?_
    refine cw_goto (tgt := 2) dX11_copyBlock_36 (by decide) ?_
    refine cw_sub [1, 2, 3, 0] rfl ?_
    exact h
abbrev bX11_cutCount_0_9 (K : cw_K) (r : Option Value) (J0 : cw_M) (x1 : Int32) (x2 : Int32) (I : cw_M) : Prop := cw_B (cr_w K) mX11_cutCount (cw_Z (cr_w K) r J0) 0 0 I 9 [(0, .ref (cw_a (cr_w K) 0)), (1, .int x1), (2, .int x2)] []
set_option maxRecDepth 20000 in
set_option maxHeartbeats 4000000 in
theorem eX11_cutCount_0 {K : cw_K} {r : Option Value} {J0 I : cw_M} (h : bX11_cutCount_0_9 K r J0 0 1 (cw_st I 0 9 0)) : cw_C (cr_w K) mX11_cutCount [.ref (cw_a (cr_w K) 0)] I r J0 := by
  refine cw_entry okX11_cutCount (Nat.le_of_ble_eq_true rfl) (show cw_B (cr_w K) mX11_cutCount (cw_Z (cr_w K) r J0) 0 0 I 0 [(0, .ref (cw_a (cr_w K) 0))] [] from ?_)
  refine cw_aload_n dX11_cutCount_0 0 rfl rfl ?_
  refine cw_iconst (v := 0) dX11_cutCount_1 (by decide) ?_
  refine cw_putf (C := RX11) (T := TX11) (N := 20) (ci := 9) inX11_cutCount_RX11 tyX11 tyX11_ok nmX11 0 (show 0 < 11 by decide) rfl rfl 9 (by decide) (by decide +kernel) rfl rfl (show 9 < 20 by decide) rfl dX11_cutCount_2 ?_
  refine cw_iconst (v := 0) dX11_cutCount_5 (by decide) ?_
  refine cw_istore_n dX11_cutCount_6 rfl (by decide) rfl ?_
  refine cw_iconst (v := 1) dX11_cutCount_7 (by decide) ?_
  refine cw_istore_n dX11_cutCount_8 rfl (by decide) rfl ?_
  refine cw_sub [2, 1, 0] rfl ?_
  exact h
set_option maxRecDepth 20000 in
set_option maxHeartbeats 4000000 in
theorem tbX11_cutCount_0_9 {K : cw_K} {r : Option Value} {J0 I : cw_M} {x1 : Int32} {x2 : Int32} (h : (((I 1 0) ≤ x2 → (r = some (.int x1) ∧ J0 = I)) ∧ (¬ (I 1 0) ≤ x2 → (∃ (v_22 : Int32) (J_22 : cw_M), cw_C (cr_w K) mX11_ownerOf [.ref (cw_a (cr_w K) 0), .int x2] I (some (.int v_22)) J_22 ∧ (∃ (v_29 : Int32) (J_29 : cw_M), cw_C (cr_w K) mX11_ownerOf [.ref (cw_a (cr_w K) 0), .int (x2 - 1)] J_22 (some (.int v_29)) J_29 ∧ ((v_22 = v_29 → bX11_cutCount_0_9 K r J0 (x1 + 0) (x2 + 1) J_29) ∧ (¬ v_22 = v_29 → bX11_cutCount_0_9 K r J0 (x1 + 1) (x2 + 1) J_29))))))) : bX11_cutCount_0_9 K r J0 x1 x2 I := by
  refine cw_iload_n dX11_cutCount_9 2 rfl rfl ?_
  refine cw_aload_n dX11_cutCount_10 0 rfl rfl ?_
  refine cw_getf (C := RX11) (T := TX11) (N := 20) (ci := 9) inX11_cutCount_RX11 0 (show 0 < 11 by decide) rfl rfl 0 (by decide) (by decide +kernel) rfl dX11_cutCount_11 ?_
  refine cw_iconst (v := 0) dX11_cutCount_14 (by decide) ?_
  refine cw_ialdL (j := 0) 1 (show 1 < 11 by decide) rfl 0 rfl dX11_cutCount_15 rfl (by decide) (by decide) ?_
  refine cw_icmp_ge (tgt := 48) dX11_cutCount_16 (by decide) (fun q => ?_) (fun q => ?_)
  · have h := h.1 q
    refine cw_iload_n dX11_cutCount_48 1 rfl rfl ?_
    exact cw_iret rfl dX11_cutCount_49 h
  · have h := h.2 q
    refine cw_iload_n dX11_cutCount_19 1 rfl rfl ?_
    refine cw_aload_n dX11_cutCount_20 0 rfl rfl ?_
    refine cw_iload_n dX11_cutCount_21 2 rfl rfl ?_
    obtain ⟨v_22, J_22, hc_22, h⟩ := h
    refine cw_callV (o := 0) (As := [.int x2]) hc_22 okX11_ownerOf rfl gX11_cutCount_X11_ownerOf (by decide) (show 0 < 11 by decide) rfl (ci := 9) rfl rfl (Nat.le_of_ble_eq_true rfl) dX11_cutCount_22 ?_
    refine cw_aload_n dX11_cutCount_25 0 rfl rfl ?_
    refine cw_iload_n dX11_cutCount_26 2 rfl rfl ?_
    refine cw_iconst (v := 1) dX11_cutCount_27 (by decide) ?_
    refine cw_isub dX11_cutCount_28 ?_
    obtain ⟨v_29, J_29, hc_29, h⟩ := h
    refine cw_callV (o := 0) (As := [.int (x2 - 1)]) hc_29 okX11_ownerOf rfl gX11_cutCount_X11_ownerOf (by decide) (show 0 < 11 by decide) rfl (ci := 9) rfl rfl (Nat.le_of_ble_eq_true rfl) dX11_cutCount_29 ?_
    refine cw_icmp_eq (tgt := 39) dX11_cutCount_32 (by decide) (fun q => ?_) (fun q => ?_)
    · have h := h.1 q
      refine cw_iconst (v := 0) dX11_cutCount_39 (by decide) ?_
      refine cw_iadd dX11_cutCount_40 ?_
      refine cw_istore_n dX11_cutCount_41 rfl (by decide) rfl ?_
      refine cw_iinc (v := x2 + 1) dX11_cutCount_42 (j := 2) rfl rfl (by decide) rfl ?_
      refine cw_goto (tgt := 9) dX11_cutCount_45 (by decide) ?_
      refine cw_sub [2, 1, 0] rfl ?_
      exact h
    · have h := h.2 q
      refine cw_iconst (v := 1) dX11_cutCount_35 (by decide) ?_
      refine cw_goto (tgt := 40) dX11_cutCount_36 (by decide) ?_
      refine cw_iadd dX11_cutCount_40 ?_
      refine cw_istore_n dX11_cutCount_41 rfl (by decide) rfl ?_
      refine cw_iinc (v := x2 + 1) dX11_cutCount_42 (j := 2) rfl rfl (by decide) rfl ?_
      refine cw_goto (tgt := 9) dX11_cutCount_45 (by decide) ?_
      refine cw_sub [2, 1, 0] rfl ?_
      exact h
set_option maxRecDepth 20000 in
set_option maxHeartbeats 4000000 in
theorem eX11_cutFor_0 {K : cw_K} {r : Option Value} {J0 I : cw_M} {x1 : Int32} (h : (∃ (v_3 : Int32) (J_3 : cw_M), cw_C (cr_w K) mX11_isSibling [.ref (cw_a (cr_w K) 0), .int x1] I (some (.int v_3)) J_3 ∧ ((¬ v_3 = 0 → (∃ (v_16 : Int32) (J_16 : cw_M), cw_C (cr_w K) mX11_fails [.ref (cw_a (cr_w K) 0), .int 0, .int 0, .int 0] J_3 (some (.int v_16)) J_16 ∧ ((v_16 = 0 → (∃ (v_26 : Int32) (J_26 : cw_M), cw_C (cr_w K) mX11_cutOf [.ref (cw_a (cr_w K) 0), .int x1] J_16 (some (.int v_26)) J_26 ∧ (r = some (.int v_26) ∧ J0 = J_26))) ∧ (¬ v_16 = 0 → (r = some (.int 0) ∧ J0 = J_16))))) ∧ (v_3 = 0 → (∃ (v_16 : Int32) (J_16 : cw_M), cw_C (cr_w K) mX11_fails [.ref (cw_a (cr_w K) 0), .int 1, .int 0, .int 0] J_3 (some (.int v_16)) J_16 ∧ ((v_16 = 0 → (∃ (v_26 : Int32) (J_26 : cw_M), cw_C (cr_w K) mX11_cutOf [.ref (cw_a (cr_w K) 0), .int x1] J_16 (some (.int v_26)) J_26 ∧ (r = some (.int v_26) ∧ J0 = J_26))) ∧ (¬ v_16 = 0 → (r = some (.int 0) ∧ J0 = J_16)))))))) : cw_C (cr_w K) mX11_cutFor [.ref (cw_a (cr_w K) 0), .int x1] I r J0 := by
  refine cw_entry okX11_cutFor (Nat.le_of_ble_eq_true rfl) (show cw_B (cr_w K) mX11_cutFor (cw_Z (cr_w K) r J0) 0 0 I 0 [(0, .ref (cw_a (cr_w K) 0)), (1, .int x1)] [] from ?_)
  refine cw_aload_n dX11_cutFor_0 0 rfl rfl ?_
  refine cw_aload_n dX11_cutFor_1 0 rfl rfl ?_
  refine cw_iload_n dX11_cutFor_2 1 rfl rfl ?_
  obtain ⟨v_3, J_3, hc_3, h⟩ := h
  refine cw_callV (o := 0) (As := [.int x1]) hc_3 okX11_isSibling rfl gX11_cutFor_X11_isSibling (by decide) (show 0 < 11 by decide) rfl (ci := 9) rfl rfl (Nat.le_of_ble_eq_true rfl) dX11_cutFor_3 ?_
  refine cw_if_ne (tgt := 13) dX11_cutFor_6 (by decide) (fun q => ?_) (fun q => ?_)
  · have h := h.1 q
    refine cw_iconst (v := 0) dX11_cutFor_13 (by decide) ?_
    refine cw_iconst (v := 0) dX11_cutFor_14 (by decide) ?_
    refine cw_iconst (v := 0) dX11_cutFor_15 (by decide) ?_
    obtain ⟨v_16, J_16, hc_16, h⟩ := h
    refine cw_callV (o := 0) (As := [.int 0, .int 0, .int 0]) hc_16 okX11_fails rfl gX11_cutFor_X11_fails (by decide) (show 0 < 11 by decide) rfl (ci := 9) rfl rfl (Nat.le_of_ble_eq_true rfl) dX11_cutFor_16 ?_
    refine cw_if_eq (tgt := 24) dX11_cutFor_19 (by decide) (fun q => ?_) (fun q => ?_)
    · have h := h.1 q
      refine cw_aload_n dX11_cutFor_24 0 rfl rfl ?_
      refine cw_iload_n dX11_cutFor_25 1 rfl rfl ?_
      obtain ⟨v_26, J_26, hc_26, h⟩ := h
      refine cw_callV (o := 0) (As := [.int x1]) hc_26 okX11_cutOf rfl gX11_cutFor_X11_cutOf (by decide) (show 0 < 11 by decide) rfl (ci := 9) rfl rfl (Nat.le_of_ble_eq_true rfl) dX11_cutFor_26 ?_
      exact cw_iret rfl dX11_cutFor_29 h
    · have h := h.2 q
      refine cw_iconst (v := 0) dX11_cutFor_22 (by decide) ?_
      exact cw_iret rfl dX11_cutFor_23 h
  · have h := h.2 q
    refine cw_iconst (v := 1) dX11_cutFor_9 (by decide) ?_
    refine cw_goto (tgt := 14) dX11_cutFor_10 (by decide) ?_
    refine cw_iconst (v := 0) dX11_cutFor_14 (by decide) ?_
    refine cw_iconst (v := 0) dX11_cutFor_15 (by decide) ?_
    obtain ⟨v_16, J_16, hc_16, h⟩ := h
    refine cw_callV (o := 0) (As := [.int 1, .int 0, .int 0]) hc_16 okX11_fails rfl gX11_cutFor_X11_fails (by decide) (show 0 < 11 by decide) rfl (ci := 9) rfl rfl (Nat.le_of_ble_eq_true rfl) dX11_cutFor_16 ?_
    refine cw_if_eq (tgt := 24) dX11_cutFor_19 (by decide) (fun q => ?_) (fun q => ?_)
    · have h := h.1 q
      refine cw_aload_n dX11_cutFor_24 0 rfl rfl ?_
      refine cw_iload_n dX11_cutFor_25 1 rfl rfl ?_
      obtain ⟨v_26, J_26, hc_26, h⟩ := h
      refine cw_callV (o := 0) (As := [.int x1]) hc_26 okX11_cutOf rfl gX11_cutFor_X11_cutOf (by decide) (show 0 < 11 by decide) rfl (ci := 9) rfl rfl (Nat.le_of_ble_eq_true rfl) dX11_cutFor_26 ?_
      exact cw_iret rfl dX11_cutFor_29 h
    · have h := h.2 q
      refine cw_iconst (v := 0) dX11_cutFor_22 (by decide) ?_
      exact cw_iret rfl dX11_cutFor_23 h
abbrev bX11_cutOf_0_11 (K : cw_K) (r : Option Value) (J0 : cw_M) (x1 : Int32) (x2 : Int32) (x3 : Int32) (x4 : Int32) (I : cw_M) : Prop := cw_B (cr_w K) mX11_cutOf (cw_Z (cr_w K) r J0) 0 0 I 11 [(0, .ref (cw_a (cr_w K) 0)), (1, .int x1), (2, .int x2), (3, .int x3), (4, .int x4)] []
set_option maxRecDepth 20000 in
set_option maxHeartbeats 4000000 in
theorem eX11_cutOf_0 {K : cw_K} {r : Option Value} {J0 I : cw_M} {x1 : Int32} (h : (∃ (v_4 : Int32) (J_4 : cw_M), cw_C (cr_w K) mX11_totalOf [.ref (cw_a (cr_w K) 0), .int x1] I (some (.int v_4)) J_4 ∧ bX11_cutOf_0_11 K r J0 x1 0 v_4 1 J_4)) : cw_C (cr_w K) mX11_cutOf [.ref (cw_a (cr_w K) 0), .int x1] I r J0 := by
  refine cw_entry okX11_cutOf (Nat.le_of_ble_eq_true rfl) (show cw_B (cr_w K) mX11_cutOf (cw_Z (cr_w K) r J0) 0 0 I 0 [(0, .ref (cw_a (cr_w K) 0)), (1, .int x1)] [] from ?_)
  refine cw_iconst (v := 0) dX11_cutOf_0 (by decide) ?_
  refine cw_istore_n dX11_cutOf_1 rfl (by decide) rfl ?_
  refine cw_aload_n dX11_cutOf_2 1 rfl rfl ?_
  refine cw_iload_n dX11_cutOf_3 2 rfl rfl ?_
  obtain ⟨v_4, J_4, hc_4, h⟩ := h
  refine cw_callV (o := 0) (As := [.int x1]) hc_4 okX11_totalOf rfl gX11_cutOf_X11_totalOf (by decide) (show 0 < 11 by decide) rfl (ci := 9) rfl rfl (Nat.le_of_ble_eq_true rfl) dX11_cutOf_4 ?_
  refine cw_istore_n dX11_cutOf_7 rfl (by decide) rfl ?_
  refine cw_iconst (v := 1) dX11_cutOf_8 (by decide) ?_
  refine cw_istore dX11_cutOf_9 (by decide) rfl ?_
  refine cw_sub [3, 4, 2, 1, 0] rfl ?_
  exact h
set_option maxRecDepth 20000 in
set_option maxHeartbeats 4000000 in
theorem tbX11_cutOf_0_11 {K : cw_K} {r : Option Value} {J0 I : cw_M} {x1 : Int32} {x2 : Int32} {x3 : Int32} {x4 : Int32} (h : (((I 1 0) < x4 → (r = some (.int x2) ∧ J0 = I)) ∧ (¬ (I 1 0) < x4 → (∃ (v_24 : Int32) (J_24 : cw_M), cw_C (cr_w K) mX11_totalOf [.ref (cw_a (cr_w K) 0), .int x1] I (some (.int v_24)) J_24 ∧ (∃ (v_35 : Int32) (J_35 : cw_M), cw_C (cr_w K) mX11_worthOf [.ref (cw_a (cr_w K) 0), .int x1, .int 0, .int (x4 - 1)] J_24 (some (.int v_35)) J_35 ∧ ((0 ≤ (v_24 - (2 * v_35)) → (((v_24 - (2 * v_35)) < x3 → bX11_cutOf_0_11 K r J0 x1 x4 (v_24 - (2 * v_35)) (x4 + 1) J_35) ∧ (¬ (v_24 - (2 * v_35)) < x3 → bX11_cutOf_0_11 K r J0 x1 x2 x3 (x4 + 1) J_35))) ∧ (¬ 0 ≤ (v_24 - (2 * v_35)) → (((- (v_24 - (2 * v_35))) < x3 → bX11_cutOf_0_11 K r J0 x1 x4 (- (v_24 - (2 * v_35))) (x4 + 1) J_35) ∧ (¬ (- (v_24 - (2 * v_35))) < x3 → bX11_cutOf_0_11 K r J0 x1 x2 x3 (x4 + 1) J_35))))))))) : bX11_cutOf_0_11 K r J0 x1 x2 x3 x4 I := by
  refine cw_iload dX11_cutOf_11 4 rfl ?_
  refine cw_aload_n dX11_cutOf_13 0 rfl rfl ?_
  refine cw_getf (C := RX11) (T := TX11) (N := 20) (ci := 9) inX11_cutOf_RX11 0 (show 0 < 11 by decide) rfl rfl 0 (by decide) (by decide +kernel) rfl dX11_cutOf_14 ?_
  refine cw_iconst (v := 0) dX11_cutOf_17 (by decide) ?_
  refine cw_ialdL (j := 0) 1 (show 1 < 11 by decide) rfl 0 rfl dX11_cutOf_18 rfl (by decide) (by decide) ?_
  refine cw_icmp_gt (tgt := 73) dX11_cutOf_19 (by decide) (fun q => ?_) (fun q => ?_)
  · have h := h.1 q
    refine cw_iload_n dX11_cutOf_73 2 rfl rfl ?_
    exact cw_iret rfl dX11_cutOf_74 h
  · have h := h.2 q
    refine cw_aload_n dX11_cutOf_22 0 rfl rfl ?_
    refine cw_iload_n dX11_cutOf_23 1 rfl rfl ?_
    obtain ⟨v_24, J_24, hc_24, h⟩ := h
    refine cw_callV (o := 0) (As := [.int x1]) hc_24 okX11_totalOf rfl gX11_cutOf_X11_totalOf (by decide) (show 0 < 11 by decide) rfl (ci := 9) rfl rfl (Nat.le_of_ble_eq_true rfl) dX11_cutOf_24 ?_
    refine cw_iconst (v := 2) dX11_cutOf_27 (by decide) ?_
    refine cw_aload_n dX11_cutOf_28 0 rfl rfl ?_
    refine cw_iload_n dX11_cutOf_29 1 rfl rfl ?_
    refine cw_iconst (v := 0) dX11_cutOf_30 (by decide) ?_
    refine cw_iload dX11_cutOf_31 4 rfl ?_
    refine cw_iconst (v := 1) dX11_cutOf_33 (by decide) ?_
    refine cw_isub dX11_cutOf_34 ?_
    obtain ⟨v_35, J_35, hc_35, h⟩ := h
    refine cw_callV (o := 0) (As := [.int x1, .int 0, .int (x4 - 1)]) hc_35 okX11_worthOf rfl gX11_cutOf_X11_worthOf (by decide) (show 0 < 11 by decide) rfl (ci := 9) rfl rfl (Nat.le_of_ble_eq_true rfl) dX11_cutOf_35 ?_
    refine cw_imul dX11_cutOf_38 ?_
    refine cw_isub dX11_cutOf_39 ?_
    refine cw_istore dX11_cutOf_40 (by decide) rfl ?_
    refine cw_iload dX11_cutOf_42 0 rfl ?_
    refine cw_if_ge (tgt := 52) dX11_cutOf_44 (by decide) (fun q => ?_) (fun q => ?_)
    · have h := h.1 q
      refine cw_iload dX11_cutOf_52 0 rfl ?_
      refine cw_iload_n dX11_cutOf_54 4 rfl rfl ?_
      refine cw_icmp_lt (tgt := 61) dX11_cutOf_55 (by decide) (fun q => ?_) (fun q => ?_)
      · have h := h.1 q
        refine cw_iload dX11_cutOf_61 5 rfl ?_
        refine cw_istore_n dX11_cutOf_63 rfl (by decide) rfl ?_
        refine cw_iload dX11_cutOf_64 1 rfl ?_
        refine cw_istore_n dX11_cutOf_66 rfl (by decide) rfl ?_
        refine cw_iinc (v := x4 + 1) dX11_cutOf_67 (j := 5) rfl rfl (by decide) rfl ?_
        refine cw_goto (tgt := 11) dX11_cutOf_70 (by decide) ?_
        refine cw_sub [4, 5, 2, 1, 0] rfl ?_
        exact h
      · have h := h.2 q
        refine cw_goto (tgt := 67) dX11_cutOf_58 (by decide) ?_
        refine cw_iinc (v := x4 + 1) dX11_cutOf_67 (j := 5) rfl rfl (by decide) rfl ?_
        refine cw_goto (tgt := 11) dX11_cutOf_70 (by decide) ?_
        refine cw_sub [2, 3, 4, 5, 0] rfl ?_
        exact h
    · have h := h.2 q
      refine cw_iload dX11_cutOf_47 0 rfl ?_
      refine cw_ineg dX11_cutOf_49 ?_
      refine cw_istore dX11_cutOf_50 (by decide) rfl ?_
      refine cw_iload dX11_cutOf_52 0 rfl ?_
      refine cw_iload_n dX11_cutOf_54 4 rfl rfl ?_
      refine cw_icmp_lt (tgt := 61) dX11_cutOf_55 (by decide) (fun q => ?_) (fun q => ?_)
      · have h := h.1 q
        refine cw_iload dX11_cutOf_61 5 rfl ?_
        refine cw_istore_n dX11_cutOf_63 rfl (by decide) rfl ?_
        refine cw_iload dX11_cutOf_64 1 rfl ?_
        refine cw_istore_n dX11_cutOf_66 rfl (by decide) rfl ?_
        refine cw_iinc (v := x4 + 1) dX11_cutOf_67 (j := 5) rfl rfl (by decide) rfl ?_
        refine cw_goto (tgt := 11) dX11_cutOf_70 (by decide) ?_
        refine cw_sub [4, 5, 2, 1, 0] rfl ?_
        exact h
      · have h := h.2 q
        refine cw_goto (tgt := 67) dX11_cutOf_58 (by decide) ?_
        refine cw_iinc (v := x4 + 1) dX11_cutOf_67 (j := 5) rfl rfl (by decide) rfl ?_
        refine cw_goto (tgt := 11) dX11_cutOf_70 (by decide) ?_
        refine cw_sub [2, 3, 4, 5, 0] rfl ?_
        exact h
set_option maxRecDepth 20000 in
set_option maxHeartbeats 4000000 in
theorem eX11_divide_0 {K : cw_K} {r : Option Value} {J0 I : cw_M} {x1 : Int32} {x2 : Int32} (h : (∃ (v_2 : Int32) (J_2 : cw_M), cw_C (cr_w K) mX11_cutOf [.ref (cw_a (cr_w K) 0), .int x1] I (some (.int v_2)) J_2 ∧ (∃ (v_13 : Int32) (J_13 : cw_M), cw_C (cr_w K) mX11_worthOf [.ref (cw_a (cr_w K) 0), .int x2, .int 0, .int (v_2 - 1)] J_2 (some (.int v_13)) J_13 ∧ (∃ (v_19 : Int32) (J_19 : cw_M), cw_C (cr_w K) mX11_totalOf [.ref (cw_a (cr_w K) 0), .int x2] J_13 (some (.int v_19)) J_19 ∧ (((2 * v_13) < v_19 → (∃ J_47 : cw_M, cw_C (cr_w K) mX11_own [.ref (cw_a (cr_w K) 0), .int x1, .int 0, .int (v_2 - 1)] J_19 none J_47 ∧ (∃ J_70 : cw_M, cw_C (cr_w K) mX11_own [.ref (cw_a (cr_w K) 0), .int x2, .int v_2, .int ((J_47 1 0) - 1)] J_47 none J_70 ∧ (r = some (.int v_2) ∧ J0 = J_70)))) ∧ (¬ (2 * v_13) < v_19 → (∃ J_47 : cw_M, cw_C (cr_w K) mX11_own [.ref (cw_a (cr_w K) 0), .int x2, .int 0, .int (v_2 - 1)] J_19 none J_47 ∧ (∃ J_70 : cw_M, cw_C (cr_w K) mX11_own [.ref (cw_a (cr_w K) 0), .int x1, .int v_2, .int ((J_47 1 0) - 1)] J_47 none J_70 ∧ (r = some (.int v_2) ∧ J0 = J_70))))))))) : cw_C (cr_w K) mX11_divide [.ref (cw_a (cr_w K) 0), .int x1, .int x2] I r J0 := by
  refine cw_entry okX11_divide (Nat.le_of_ble_eq_true rfl) (show cw_B (cr_w K) mX11_divide (cw_Z (cr_w K) r J0) 0 0 I 0 [(0, .ref (cw_a (cr_w K) 0)), (1, .int x1), (2, .int x2)] [] from ?_)
  refine cw_aload_n dX11_divide_0 0 rfl rfl ?_
  refine cw_iload_n dX11_divide_1 1 rfl rfl ?_
  obtain ⟨v_2, J_2, hc_2, h⟩ := h
  refine cw_callV (o := 0) (As := [.int x1]) hc_2 okX11_cutOf rfl gX11_divide_X11_cutOf (by decide) (show 0 < 11 by decide) rfl (ci := 9) rfl rfl (Nat.le_of_ble_eq_true rfl) dX11_divide_2 ?_
  refine cw_istore_n dX11_divide_5 rfl (by decide) rfl ?_
  refine cw_iconst (v := 2) dX11_divide_6 (by decide) ?_
  refine cw_aload_n dX11_divide_7 1 rfl rfl ?_
  refine cw_iload_n dX11_divide_8 3 rfl rfl ?_
  refine cw_iconst (v := 0) dX11_divide_9 (by decide) ?_
  refine cw_iload_n dX11_divide_10 0 rfl rfl ?_
  refine cw_iconst (v := 1) dX11_divide_11 (by decide) ?_
  refine cw_isub dX11_divide_12 ?_
  obtain ⟨v_13, J_13, hc_13, h⟩ := h
  refine cw_callV (o := 0) (As := [.int x2, .int 0, .int (v_2 - 1)]) hc_13 okX11_worthOf rfl gX11_divide_X11_worthOf (by decide) (show 0 < 11 by decide) rfl (ci := 9) rfl rfl (Nat.le_of_ble_eq_true rfl) dX11_divide_13 ?_
  refine cw_imul dX11_divide_16 ?_
  refine cw_aload_n dX11_divide_17 1 rfl rfl ?_
  refine cw_iload_n dX11_divide_18 3 rfl rfl ?_
  obtain ⟨v_19, J_19, hc_19, h⟩ := h
  refine cw_callV (o := 0) (As := [.int x2]) hc_19 okX11_totalOf rfl gX11_divide_X11_totalOf (by decide) (show 0 < 11 by decide) rfl (ci := 9) rfl rfl (Nat.le_of_ble_eq_true rfl) dX11_divide_19 ?_
  refine cw_icmp_lt (tgt := 29) dX11_divide_22 (by decide) (fun q => ?_) (fun q => ?_)
  · have h := h.1 q
    refine cw_iconst (v := 0) dX11_divide_29 (by decide) ?_
    refine cw_istore dX11_divide_30 (by decide) rfl ?_
    refine cw_aload_n dX11_divide_32 2 rfl rfl ?_
    refine cw_iload dX11_divide_33 0 rfl ?_
    refine cw_if_eq (tgt := 42) dX11_divide_35 (by decide) (fun _ => ?_) (fun q => absurd q (by decide))
    refine cw_iload_n dX11_divide_42 3 rfl rfl ?_
    refine cw_iconst (v := 0) dX11_divide_43 (by decide) ?_
    refine cw_iload_n dX11_divide_44 1 rfl rfl ?_
    refine cw_iconst (v := 1) dX11_divide_45 (by decide) ?_
    refine cw_isub dX11_divide_46 ?_
    obtain ⟨J_47, hc_47, h⟩ := h
    refine cw_callV (o := 0) (As := [.int x1, .int 0, .int (v_2 - 1)]) hc_47 okX11_own rfl gX11_divide_X11_own (by decide) (show 0 < 11 by decide) rfl (ci := 9) rfl rfl (Nat.le_of_ble_eq_true rfl) dX11_divide_47 ?_
    refine cw_aload_n dX11_divide_50 2 rfl rfl ?_
    refine cw_iload dX11_divide_51 0 rfl ?_
    refine cw_if_eq (tgt := 60) dX11_divide_53 (by decide) (fun _ => ?_) (fun q => absurd q (by decide))
    refine cw_iload_n dX11_divide_60 4 rfl rfl ?_
    refine cw_iload_n dX11_divide_61 1 rfl rfl ?_
    refine cw_aload_n dX11_divide_62 2 rfl rfl ?_
    refine cw_getf (C := RX11) (T := TX11) (N := 20) (ci := 9) inX11_divide_RX11 0 (show 0 < 11 by decide) rfl rfl 0 (by decide) (by decide +kernel) rfl dX11_divide_63 ?_
    refine cw_iconst (v := 0) dX11_divide_66 (by decide) ?_
    refine cw_ialdL (j := 0) 1 (show 1 < 11 by decide) rfl 0 rfl dX11_divide_67 rfl (by decide) (by decide) ?_
    refine cw_iconst (v := 1) dX11_divide_68 (by decide) ?_
    refine cw_isub dX11_divide_69 ?_
    obtain ⟨J_70, hc_70, h⟩ := h
    refine cw_callV (o := 0) (As := [.int x2, .int v_2, .int ((J_47 1 0) - 1)]) hc_70 okX11_own rfl gX11_divide_X11_own (by decide) (show 0 < 11 by decide) rfl (ci := 9) rfl rfl (Nat.le_of_ble_eq_true rfl) dX11_divide_70 ?_
    refine cw_iload_n dX11_divide_73 1 rfl rfl ?_
    exact cw_iret rfl dX11_divide_74 h
  · have h := h.2 q
    refine cw_iconst (v := 1) dX11_divide_25 (by decide) ?_
    refine cw_goto (tgt := 30) dX11_divide_26 (by decide) ?_
    refine cw_istore dX11_divide_30 (by decide) rfl ?_
    refine cw_aload_n dX11_divide_32 2 rfl rfl ?_
    refine cw_iload dX11_divide_33 0 rfl ?_
    refine cw_if_eq (tgt := 42) dX11_divide_35 (by decide) (fun q => absurd q (by decide)) (fun _ => ?_)
    refine cw_iload_n dX11_divide_38 4 rfl rfl ?_
    refine cw_goto (tgt := 43) dX11_divide_39 (by decide) ?_
    refine cw_iconst (v := 0) dX11_divide_43 (by decide) ?_
    refine cw_iload_n dX11_divide_44 1 rfl rfl ?_
    refine cw_iconst (v := 1) dX11_divide_45 (by decide) ?_
    refine cw_isub dX11_divide_46 ?_
    obtain ⟨J_47, hc_47, h⟩ := h
    refine cw_callV (o := 0) (As := [.int x2, .int 0, .int (v_2 - 1)]) hc_47 okX11_own rfl gX11_divide_X11_own (by decide) (show 0 < 11 by decide) rfl (ci := 9) rfl rfl (Nat.le_of_ble_eq_true rfl) dX11_divide_47 ?_
    refine cw_aload_n dX11_divide_50 2 rfl rfl ?_
    refine cw_iload dX11_divide_51 0 rfl ?_
    refine cw_if_eq (tgt := 60) dX11_divide_53 (by decide) (fun q => absurd q (by decide)) (fun _ => ?_)
    refine cw_iload_n dX11_divide_56 3 rfl rfl ?_
    refine cw_goto (tgt := 61) dX11_divide_57 (by decide) ?_
    refine cw_iload_n dX11_divide_61 1 rfl rfl ?_
    refine cw_aload_n dX11_divide_62 2 rfl rfl ?_
    refine cw_getf (C := RX11) (T := TX11) (N := 20) (ci := 9) inX11_divide_RX11 0 (show 0 < 11 by decide) rfl rfl 0 (by decide) (by decide +kernel) rfl dX11_divide_63 ?_
    refine cw_iconst (v := 0) dX11_divide_66 (by decide) ?_
    refine cw_ialdL (j := 0) 1 (show 1 < 11 by decide) rfl 0 rfl dX11_divide_67 rfl (by decide) (by decide) ?_
    refine cw_iconst (v := 1) dX11_divide_68 (by decide) ?_
    refine cw_isub dX11_divide_69 ?_
    obtain ⟨J_70, hc_70, h⟩ := h
    refine cw_callV (o := 0) (As := [.int x1, .int v_2, .int ((J_47 1 0) - 1)]) hc_70 okX11_own rfl gX11_divide_X11_own (by decide) (show 0 < 11 by decide) rfl (ci := 9) rfl rfl (Nat.le_of_ble_eq_true rfl) dX11_divide_70 ?_
    refine cw_iload_n dX11_divide_73 1 rfl rfl ?_
    exact cw_iret rfl dX11_divide_74 h
set_option maxRecDepth 20000 in
set_option maxHeartbeats 4000000 in
theorem eX11_divideAndChoose_0 {K : cw_K} {r : Option Value} {J0 I : cw_M} {x1 : Int32} {x2 : Int32} (h : (∃ (v_4 : Int32) (J_4 : cw_M), cw_C (cr_w K) mX11_areSiblings [.ref (cw_a (cr_w K) 0), .int x1, .int x2] I (some (.int v_4)) J_4 ∧ ((¬ v_4 = 0 → ((¬ x1 = x2 → (∃ (v_26 : Int32) (J_26 : cw_M), cw_C (cr_w K) mX11_fails [.ref (cw_a (cr_w K) 0), .int 0, .int 0, .int 0] J_4 (some (.int v_26)) J_26 ∧ ((v_26 = 0 → (∃ J_36 : cw_M, cw_C (cr_w K) mX11_remember [.ref (cw_a (cr_w K) 0), .int 0] J_26 none J_36 ∧ (∃ (v_42 : Int32) (J_42 : cw_M), cw_C (cr_w K) mX11_divide [.ref (cw_a (cr_w K) 0), .int x1, .int x2] J_36 (some (.int v_42)) J_42 ∧ (r = some (.int v_42) ∧ J0 = J_42)))) ∧ (¬ v_26 = 0 → (r = some (.int 0) ∧ J0 = J_26))))) ∧ (x1 = x2 → (∃ (v_26 : Int32) (J_26 : cw_M), cw_C (cr_w K) mX11_fails [.ref (cw_a (cr_w K) 0), .int 0, .int 1, .int 0] J_4 (some (.int v_26)) J_26 ∧ ((v_26 = 0 → (∃ J_36 : cw_M, cw_C (cr_w K) mX11_remember [.ref (cw_a (cr_w K) 0), .int 0] J_26 none J_36 ∧ (∃ (v_42 : Int32) (J_42 : cw_M), cw_C (cr_w K) mX11_divide [.ref (cw_a (cr_w K) 0), .int x1, .int x2] J_36 (some (.int v_42)) J_42 ∧ (r = some (.int v_42) ∧ J0 = J_42)))) ∧ (¬ v_26 = 0 → (r = some (.int 0) ∧ J0 = J_26))))))) ∧ (v_4 = 0 → ((¬ x1 = x2 → (∃ (v_26 : Int32) (J_26 : cw_M), cw_C (cr_w K) mX11_fails [.ref (cw_a (cr_w K) 0), .int 1, .int 0, .int 0] J_4 (some (.int v_26)) J_26 ∧ ((v_26 = 0 → (∃ J_36 : cw_M, cw_C (cr_w K) mX11_remember [.ref (cw_a (cr_w K) 0), .int 0] J_26 none J_36 ∧ (∃ (v_42 : Int32) (J_42 : cw_M), cw_C (cr_w K) mX11_divide [.ref (cw_a (cr_w K) 0), .int x1, .int x2] J_36 (some (.int v_42)) J_42 ∧ (r = some (.int v_42) ∧ J0 = J_42)))) ∧ (¬ v_26 = 0 → (r = some (.int 0) ∧ J0 = J_26))))) ∧ (x1 = x2 → (∃ (v_26 : Int32) (J_26 : cw_M), cw_C (cr_w K) mX11_fails [.ref (cw_a (cr_w K) 0), .int 1, .int 1, .int 0] J_4 (some (.int v_26)) J_26 ∧ ((v_26 = 0 → (∃ J_36 : cw_M, cw_C (cr_w K) mX11_remember [.ref (cw_a (cr_w K) 0), .int 0] J_26 none J_36 ∧ (∃ (v_42 : Int32) (J_42 : cw_M), cw_C (cr_w K) mX11_divide [.ref (cw_a (cr_w K) 0), .int x1, .int x2] J_36 (some (.int v_42)) J_42 ∧ (r = some (.int v_42) ∧ J0 = J_42)))) ∧ (¬ v_26 = 0 → (r = some (.int 0) ∧ J0 = J_26)))))))))) : cw_C (cr_w K) mX11_divideAndChoose [.ref (cw_a (cr_w K) 0), .int x1, .int x2] I r J0 := by
  refine cw_entry okX11_divideAndChoose (Nat.le_of_ble_eq_true rfl) (show cw_B (cr_w K) mX11_divideAndChoose (cw_Z (cr_w K) r J0) 0 0 I 0 [(0, .ref (cw_a (cr_w K) 0)), (1, .int x1), (2, .int x2)] [] from ?_)
  refine cw_aload_n dX11_divideAndChoose_0 0 rfl rfl ?_
  refine cw_aload_n dX11_divideAndChoose_1 0 rfl rfl ?_
  refine cw_iload_n dX11_divideAndChoose_2 1 rfl rfl ?_
  refine cw_iload_n dX11_divideAndChoose_3 2 rfl rfl ?_
  obtain ⟨v_4, J_4, hc_4, h⟩ := h
  refine cw_callV (o := 0) (As := [.int x1, .int x2]) hc_4 okX11_areSiblings rfl gX11_divideAndChoose_X11_areSiblings (by decide) (show 0 < 11 by decide) rfl (ci := 9) rfl rfl (Nat.le_of_ble_eq_true rfl) dX11_divideAndChoose_4 ?_
  refine cw_if_ne (tgt := 14) dX11_divideAndChoose_7 (by decide) (fun q => ?_) (fun q => ?_)
  · have h := h.1 q
    refine cw_iconst (v := 0) dX11_divideAndChoose_14 (by decide) ?_
    refine cw_iload_n dX11_divideAndChoose_15 1 rfl rfl ?_
    refine cw_iload_n dX11_divideAndChoose_16 2 rfl rfl ?_
    refine cw_icmp_ne (tgt := 24) dX11_divideAndChoose_17 (by decide) (fun q => ?_) (fun q => ?_)
    · have h := h.1 q
      refine cw_iconst (v := 0) dX11_divideAndChoose_24 (by decide) ?_
      refine cw_iconst (v := 0) dX11_divideAndChoose_25 (by decide) ?_
      obtain ⟨v_26, J_26, hc_26, h⟩ := h
      refine cw_callV (o := 0) (As := [.int 0, .int 0, .int 0]) hc_26 okX11_fails rfl gX11_divideAndChoose_X11_fails (by decide) (show 0 < 11 by decide) rfl (ci := 9) rfl rfl (Nat.le_of_ble_eq_true rfl) dX11_divideAndChoose_26 ?_
      refine cw_if_eq (tgt := 34) dX11_divideAndChoose_29 (by decide) (fun q => ?_) (fun q => ?_)
      · have h := h.1 q
        refine cw_aload_n dX11_divideAndChoose_34 0 rfl rfl ?_
        refine cw_iconst (v := 0) dX11_divideAndChoose_35 (by decide) ?_
        obtain ⟨J_36, hc_36, h⟩ := h
        refine cw_callV (o := 0) (As := [.int 0]) hc_36 okX11_remember rfl gX11_divideAndChoose_X11_remember (by decide) (show 0 < 11 by decide) rfl (ci := 9) rfl rfl (Nat.le_of_ble_eq_true rfl) dX11_divideAndChoose_36 ?_
        refine cw_aload_n dX11_divideAndChoose_39 0 rfl rfl ?_
        refine cw_iload_n dX11_divideAndChoose_40 1 rfl rfl ?_
        refine cw_iload_n dX11_divideAndChoose_41 2 rfl rfl ?_
        obtain ⟨v_42, J_42, hc_42, h⟩ := h
        refine cw_callV (o := 0) (As := [.int x1, .int x2]) hc_42 okX11_divide rfl gX11_divideAndChoose_X11_divide (by decide) (show 0 < 11 by decide) rfl (ci := 9) rfl rfl (Nat.le_of_ble_eq_true rfl) dX11_divideAndChoose_42 ?_
        exact cw_iret rfl dX11_divideAndChoose_45 h
      · have h := h.2 q
        refine cw_iconst (v := 0) dX11_divideAndChoose_32 (by decide) ?_
        exact cw_iret rfl dX11_divideAndChoose_33 h
    · have h := h.2 q
      refine cw_iconst (v := 1) dX11_divideAndChoose_20 (by decide) ?_
      refine cw_goto (tgt := 25) dX11_divideAndChoose_21 (by decide) ?_
      refine cw_iconst (v := 0) dX11_divideAndChoose_25 (by decide) ?_
      obtain ⟨v_26, J_26, hc_26, h⟩ := h
      refine cw_callV (o := 0) (As := [.int 0, .int 1, .int 0]) hc_26 okX11_fails rfl gX11_divideAndChoose_X11_fails (by decide) (show 0 < 11 by decide) rfl (ci := 9) rfl rfl (Nat.le_of_ble_eq_true rfl) dX11_divideAndChoose_26 ?_
      refine cw_if_eq (tgt := 34) dX11_divideAndChoose_29 (by decide) (fun q => ?_) (fun q => ?_)
      · have h := h.1 q
        refine cw_aload_n dX11_divideAndChoose_34 0 rfl rfl ?_
        refine cw_iconst (v := 0) dX11_divideAndChoose_35 (by decide) ?_
        obtain ⟨J_36, hc_36, h⟩ := h
        refine cw_callV (o := 0) (As := [.int 0]) hc_36 okX11_remember rfl gX11_divideAndChoose_X11_remember (by decide) (show 0 < 11 by decide) rfl (ci := 9) rfl rfl (Nat.le_of_ble_eq_true rfl) dX11_divideAndChoose_36 ?_
        refine cw_aload_n dX11_divideAndChoose_39 0 rfl rfl ?_
        refine cw_iload_n dX11_divideAndChoose_40 1 rfl rfl ?_
        refine cw_iload_n dX11_divideAndChoose_41 2 rfl rfl ?_
        obtain ⟨v_42, J_42, hc_42, h⟩ := h
        refine cw_callV (o := 0) (As := [.int x1, .int x2]) hc_42 okX11_divide rfl gX11_divideAndChoose_X11_divide (by decide) (show 0 < 11 by decide) rfl (ci := 9) rfl rfl (Nat.le_of_ble_eq_true rfl) dX11_divideAndChoose_42 ?_
        exact cw_iret rfl dX11_divideAndChoose_45 h
      · have h := h.2 q
        refine cw_iconst (v := 0) dX11_divideAndChoose_32 (by decide) ?_
        exact cw_iret rfl dX11_divideAndChoose_33 h
  · have h := h.2 q
    refine cw_iconst (v := 1) dX11_divideAndChoose_10 (by decide) ?_
    refine cw_goto (tgt := 15) dX11_divideAndChoose_11 (by decide) ?_
    refine cw_iload_n dX11_divideAndChoose_15 1 rfl rfl ?_
    refine cw_iload_n dX11_divideAndChoose_16 2 rfl rfl ?_
    refine cw_icmp_ne (tgt := 24) dX11_divideAndChoose_17 (by decide) (fun q => ?_) (fun q => ?_)
    · have h := h.1 q
      refine cw_iconst (v := 0) dX11_divideAndChoose_24 (by decide) ?_
      refine cw_iconst (v := 0) dX11_divideAndChoose_25 (by decide) ?_
      obtain ⟨v_26, J_26, hc_26, h⟩ := h
      refine cw_callV (o := 0) (As := [.int 1, .int 0, .int 0]) hc_26 okX11_fails rfl gX11_divideAndChoose_X11_fails (by decide) (show 0 < 11 by decide) rfl (ci := 9) rfl rfl (Nat.le_of_ble_eq_true rfl) dX11_divideAndChoose_26 ?_
      refine cw_if_eq (tgt := 34) dX11_divideAndChoose_29 (by decide) (fun q => ?_) (fun q => ?_)
      · have h := h.1 q
        refine cw_aload_n dX11_divideAndChoose_34 0 rfl rfl ?_
        refine cw_iconst (v := 0) dX11_divideAndChoose_35 (by decide) ?_
        obtain ⟨J_36, hc_36, h⟩ := h
        refine cw_callV (o := 0) (As := [.int 0]) hc_36 okX11_remember rfl gX11_divideAndChoose_X11_remember (by decide) (show 0 < 11 by decide) rfl (ci := 9) rfl rfl (Nat.le_of_ble_eq_true rfl) dX11_divideAndChoose_36 ?_
        refine cw_aload_n dX11_divideAndChoose_39 0 rfl rfl ?_
        refine cw_iload_n dX11_divideAndChoose_40 1 rfl rfl ?_
        refine cw_iload_n dX11_divideAndChoose_41 2 rfl rfl ?_
        obtain ⟨v_42, J_42, hc_42, h⟩ := h
        refine cw_callV (o := 0) (As := [.int x1, .int x2]) hc_42 okX11_divide rfl gX11_divideAndChoose_X11_divide (by decide) (show 0 < 11 by decide) rfl (ci := 9) rfl rfl (Nat.le_of_ble_eq_true rfl) dX11_divideAndChoose_42 ?_
        exact cw_iret rfl dX11_divideAndChoose_45 h
      · have h := h.2 q
        refine cw_iconst (v := 0) dX11_divideAndChoose_32 (by decide) ?_
        exact cw_iret rfl dX11_divideAndChoose_33 h
    · have h := h.2 q
      refine cw_iconst (v := 1) dX11_divideAndChoose_20 (by decide) ?_
      refine cw_goto (tgt := 25) dX11_divideAndChoose_21 (by decide) ?_
      refine cw_iconst (v := 0) dX11_divideAndChoose_25 (by decide) ?_
      obtain ⟨v_26, J_26, hc_26, h⟩ := h
      refine cw_callV (o := 0) (As := [.int 1, .int 1, .int 0]) hc_26 okX11_fails rfl gX11_divideAndChoose_X11_fails (by decide) (show 0 < 11 by decide) rfl (ci := 9) rfl rfl (Nat.le_of_ble_eq_true rfl) dX11_divideAndChoose_26 ?_
      refine cw_if_eq (tgt := 34) dX11_divideAndChoose_29 (by decide) (fun q => ?_) (fun q => ?_)
      · have h := h.1 q
        refine cw_aload_n dX11_divideAndChoose_34 0 rfl rfl ?_
        refine cw_iconst (v := 0) dX11_divideAndChoose_35 (by decide) ?_
        obtain ⟨J_36, hc_36, h⟩ := h
        refine cw_callV (o := 0) (As := [.int 0]) hc_36 okX11_remember rfl gX11_divideAndChoose_X11_remember (by decide) (show 0 < 11 by decide) rfl (ci := 9) rfl rfl (Nat.le_of_ble_eq_true rfl) dX11_divideAndChoose_36 ?_
        refine cw_aload_n dX11_divideAndChoose_39 0 rfl rfl ?_
        refine cw_iload_n dX11_divideAndChoose_40 1 rfl rfl ?_
        refine cw_iload_n dX11_divideAndChoose_41 2 rfl rfl ?_
        obtain ⟨v_42, J_42, hc_42, h⟩ := h
        refine cw_callV (o := 0) (As := [.int x1, .int x2]) hc_42 okX11_divide rfl gX11_divideAndChoose_X11_divide (by decide) (show 0 < 11 by decide) rfl (ci := 9) rfl rfl (Nat.le_of_ble_eq_true rfl) dX11_divideAndChoose_42 ?_
        exact cw_iret rfl dX11_divideAndChoose_45 h
      · have h := h.2 q
        refine cw_iconst (v := 0) dX11_divideAndChoose_32 (by decide) ?_
        exact cw_iret rfl dX11_divideAndChoose_33 h
set_option maxRecDepth 20000 in
set_option maxHeartbeats 4000000 in
theorem eX11_doIt_0 {K : cw_K} {r : Option Value} {J0 I : cw_M} {x1 : Int32} {x2 : Int32} {x3 : Int32} {x4 : Int32} (h : ((x1 = 0 → (∃ J_49 : cw_M, cw_C (cr_w K) mX11_own [.ref (cw_a (cr_w K) 0), .int x2, .int x3, .int x4] I none J_49 ∧ (r = none ∧ J0 = J_49))) ∧ ((x1 = 1 → (∃ J_60 : cw_M, cw_C (cr_w K) mX11_own [.ref (cw_a (cr_w K) 0), .int (-1), .int x3, .int x4] I none J_60 ∧ (r = none ∧ J0 = J_60))) ∧ ((x1 = 2 → (∃ J_69 : cw_M, cw_C (cr_w K) mX11_exchange [.ref (cw_a (cr_w K) 0), .int x2, .int x3] I none J_69 ∧ (r = none ∧ J0 = J_69))) ∧ ((x1 = 3 → (vp_in (((26 + (x2 * 31)) + 7) + x3) 2120 ∧ (r = none ∧ J0 = cw_st I 1 (((26 + (x2 * 31)) + 7) + x3).toNatClampNeg x4))) ∧ ((x1 = 4 → (∃ (v_100 : Int32) (J_100 : cw_M), cw_C (cr_w K) mX11_divide [.ref (cw_a (cr_w K) 0), .int x2, .int x3] I (some (.int v_100)) J_100 ∧ (r = none ∧ J0 = J_100))) ∧ ((x1 = 5 → (∃ (v_108 : Int32) (J_108 : cw_M), cw_C (cr_w K) mX11_knife [.ref (cw_a (cr_w K) 0)] I (some (.int v_108)) J_108 ∧ (r = none ∧ J0 = J_108))) ∧ ((x1 = 6 → (∃ (v_117 : Int32) (J_117 : cw_M), cw_C (cr_w K) mX11_robin [.ref (cw_a (cr_w K) 0), .int x2] I (some (.int v_117)) J_117 ∧ (r = none ∧ J0 = J_117))) ∧ (¬ x1 = 0 → ¬ x1 = 1 → ¬ x1 = 2 → ¬ x1 = 3 → ¬ x1 = 4 → ¬ x1 = 5 → ¬ x1 = 6 → (∃ (v_126 : Int32) (J_126 : cw_M), cw_C (cr_w K) mX11_turnCycle [.ref (cw_a (cr_w K) 0), .int x2] I (some (.int v_126)) J_126 ∧ (r = none ∧ J0 = J_126))))))))))) : cw_C (cr_w K) mX11_doIt [.ref (cw_a (cr_w K) 0), .int x1, .int x2, .int x3, .int x4] I r J0 := by
  refine cw_entry okX11_doIt (Nat.le_of_ble_eq_true rfl) (show cw_B (cr_w K) mX11_doIt (cw_Z (cr_w K) r J0) 0 0 I 0 [(0, .ref (cw_a (cr_w K) 0)), (1, .int x1), (2, .int x2), (3, .int x3), (4, .int x4)] [] from ?_)
  refine cw_iload_n dX11_doIt_0 1 rfl rfl ?_
  by_cases q0 : x1 = 0
  · have h := h.1 q0
    refine cw_tableIn (tgt := 44) (off := 43) dX11_doIt_1 (by rw [q0]; decide) (by rw [q0]; decide) (by rw [q0]; decide +kernel) (by decide) ?_
    refine cw_aload_n dX11_doIt_44 0 rfl rfl ?_
    refine cw_iload_n dX11_doIt_45 2 rfl rfl ?_
    refine cw_iload_n dX11_doIt_46 3 rfl rfl ?_
    refine cw_iload dX11_doIt_47 4 rfl ?_
    obtain ⟨J_49, hc_49, h⟩ := h
    refine cw_callV (o := 0) (As := [.int x2, .int x3, .int x4]) hc_49 okX11_own rfl gX11_doIt_X11_own (by decide) (show 0 < 11 by decide) rfl (ci := 9) rfl rfl (Nat.le_of_ble_eq_true rfl) dX11_doIt_49 ?_
    refine cw_goto (tgt := 130) dX11_doIt_52 (by decide) ?_
    exact cw_vret rfl dX11_doIt_130 h
  · have h := h.2
    by_cases q1 : x1 = 1
    · have h := h.1 q1
      refine cw_tableIn (tgt := 55) (off := 54) dX11_doIt_1 (by rw [q1]; decide) (by rw [q1]; decide) (by rw [q1]; decide +kernel) (by decide) ?_
      refine cw_aload_n dX11_doIt_55 0 rfl rfl ?_
      refine cw_iconst (v := (-1)) dX11_doIt_56 (by decide) ?_
      refine cw_iload_n dX11_doIt_57 3 rfl rfl ?_
      refine cw_iload dX11_doIt_58 4 rfl ?_
      obtain ⟨J_60, hc_60, h⟩ := h
      refine cw_callV (o := 0) (As := [.int (-1), .int x3, .int x4]) hc_60 okX11_own rfl gX11_doIt_X11_own (by decide) (show 0 < 11 by decide) rfl (ci := 9) rfl rfl (Nat.le_of_ble_eq_true rfl) dX11_doIt_60 ?_
      refine cw_goto (tgt := 130) dX11_doIt_63 (by decide) ?_
      exact cw_vret rfl dX11_doIt_130 h
    · have h := h.2
      by_cases q2 : x1 = 2
      · have h := h.1 q2
        refine cw_tableIn (tgt := 66) (off := 65) dX11_doIt_1 (by rw [q2]; decide) (by rw [q2]; decide) (by rw [q2]; decide +kernel) (by decide) ?_
        refine cw_aload_n dX11_doIt_66 0 rfl rfl ?_
        refine cw_iload_n dX11_doIt_67 2 rfl rfl ?_
        refine cw_iload_n dX11_doIt_68 3 rfl rfl ?_
        obtain ⟨J_69, hc_69, h⟩ := h
        refine cw_callV (o := 0) (As := [.int x2, .int x3]) hc_69 okX11_exchange rfl gX11_doIt_X11_exchange (by decide) (show 0 < 11 by decide) rfl (ci := 9) rfl rfl (Nat.le_of_ble_eq_true rfl) dX11_doIt_69 ?_
        refine cw_goto (tgt := 130) dX11_doIt_72 (by decide) ?_
        exact cw_vret rfl dX11_doIt_130 h
      · have h := h.2
        by_cases q3 : x1 = 3
        · have h := h.1 q3
          refine cw_tableIn (tgt := 75) (off := 74) dX11_doIt_1 (by rw [q3]; decide) (by rw [q3]; decide) (by rw [q3]; decide +kernel) (by decide) ?_
          refine cw_aload_n dX11_doIt_75 0 rfl rfl ?_
          refine cw_getf (C := RX11) (T := TX11) (N := 20) (ci := 9) inX11_doIt_RX11 0 (show 0 < 11 by decide) rfl rfl 0 (by decide) (by decide +kernel) rfl dX11_doIt_76 ?_
          refine cw_bipush (v := 26) dX11_doIt_79 (by decide) ?_
          refine cw_iload_n dX11_doIt_81 2 rfl rfl ?_
          refine cw_bipush (v := 31) dX11_doIt_82 (by decide) ?_
          refine cw_imul dX11_doIt_84 ?_
          refine cw_iadd dX11_doIt_85 ?_
          refine cw_bipush (v := 7) dX11_doIt_86 (by decide) ?_
          refine cw_iadd dX11_doIt_88 ?_
          refine cw_iload_n dX11_doIt_89 3 rfl rfl ?_
          refine cw_iadd dX11_doIt_90 ?_
          refine cw_iload dX11_doIt_91 4 rfl ?_
          obtain ⟨g_93, h⟩ := h
          refine cw_iast 1 (show 1 < 11 by decide) (fun _ => rfl) 0 rfl dX11_doIt_93 g_93 ?_
          refine cw_goto (tgt := 130) dX11_doIt_94 (by decide) ?_
          exact cw_vret rfl dX11_doIt_130 h
        · have h := h.2
          by_cases q4 : x1 = 4
          · have h := h.1 q4
            refine cw_tableIn (tgt := 97) (off := 96) dX11_doIt_1 (by rw [q4]; decide) (by rw [q4]; decide) (by rw [q4]; decide +kernel) (by decide) ?_
            refine cw_aload_n dX11_doIt_97 0 rfl rfl ?_
            refine cw_iload_n dX11_doIt_98 2 rfl rfl ?_
            refine cw_iload_n dX11_doIt_99 3 rfl rfl ?_
            obtain ⟨v_100, J_100, hc_100, h⟩ := h
            refine cw_callV (o := 0) (As := [.int x2, .int x3]) hc_100 okX11_divide rfl gX11_doIt_X11_divide (by decide) (show 0 < 11 by decide) rfl (ci := 9) rfl rfl (Nat.le_of_ble_eq_true rfl) dX11_doIt_100 ?_
            refine cw_pop dX11_doIt_103 rfl ?_
            refine cw_goto (tgt := 130) dX11_doIt_104 (by decide) ?_
            exact cw_vret rfl dX11_doIt_130 h
          · have h := h.2
            by_cases q5 : x1 = 5
            · have h := h.1 q5
              refine cw_tableIn (tgt := 107) (off := 106) dX11_doIt_1 (by rw [q5]; decide) (by rw [q5]; decide) (by rw [q5]; decide +kernel) (by decide) ?_
              refine cw_aload_n dX11_doIt_107 0 rfl rfl ?_
              obtain ⟨v_108, J_108, hc_108, h⟩ := h
              refine cw_callV (o := 0) (As := []) hc_108 okX11_knife rfl gX11_doIt_X11_knife (by decide) (show 0 < 11 by decide) rfl (ci := 9) rfl rfl (Nat.le_of_ble_eq_true rfl) dX11_doIt_108 ?_
              refine cw_pop dX11_doIt_111 rfl ?_
              refine cw_goto (tgt := 130) dX11_doIt_112 (by decide) ?_
              exact cw_vret rfl dX11_doIt_130 h
            · have h := h.2
              by_cases q6 : x1 = 6
              · have h := h.1 q6
                refine cw_tableIn (tgt := 115) (off := 114) dX11_doIt_1 (by rw [q6]; decide) (by rw [q6]; decide) (by rw [q6]; decide +kernel) (by decide) ?_
                refine cw_aload_n dX11_doIt_115 0 rfl rfl ?_
                refine cw_iload_n dX11_doIt_116 2 rfl rfl ?_
                obtain ⟨v_117, J_117, hc_117, h⟩ := h
                refine cw_callV (o := 0) (As := [.int x2]) hc_117 okX11_robin rfl gX11_doIt_X11_robin (by decide) (show 0 < 11 by decide) rfl (ci := 9) rfl rfl (Nat.le_of_ble_eq_true rfl) dX11_doIt_117 ?_
                refine cw_pop dX11_doIt_120 rfl ?_
                refine cw_goto (tgt := 130) dX11_doIt_121 (by decide) ?_
                exact cw_vret rfl dX11_doIt_130 h
              · have h := h.2
                have h := h q0 q1 q2 q3 q4 q5 q6
                have n0 := lv_neT (a := 0) q0 (by decide)
                have n1 := lv_neT (a := 1) q1 (by decide)
                have n2 := lv_neT (a := 2) q2 (by decide)
                have n3 := lv_neT (a := 3) q3 (by decide)
                have n4 := lv_neT (a := 4) q4 (by decide)
                have n5 := lv_neT (a := 5) q5 (by decide)
                have n6 := lv_neT (a := 6) q6 (by decide)
                refine cw_tableOut (tgt := 124) dX11_doIt_1 (by omega) (by decide) ?_
                refine cw_aload_n dX11_doIt_124 0 rfl rfl ?_
                refine cw_iload_n dX11_doIt_125 2 rfl rfl ?_
                obtain ⟨v_126, J_126, hc_126, h⟩ := h
                refine cw_callV (o := 0) (As := [.int x2]) hc_126 okX11_turnCycle rfl gX11_doIt_X11_turnCycle (by decide) (show 0 < 11 by decide) rfl (ci := 9) rfl rfl (Nat.le_of_ble_eq_true rfl) dX11_doIt_126 ?_
                refine cw_pop dX11_doIt_129 rfl ?_
                exact cw_vret rfl dX11_doIt_130 h
abbrev bX11_enviersOf_0_4 (K : cw_K) (r : Option Value) (J0 : cw_M) (x1 : Int32) (x2 : Int32) (x3 : Int32) (I : cw_M) : Prop := cw_B (cr_w K) mX11_enviersOf (cw_Z (cr_w K) r J0) 0 0 I 4 [(0, .ref (cw_a (cr_w K) 0)), (1, .int x1), (2, .int x2), (3, .int x3)] []
set_option maxRecDepth 20000 in
set_option maxHeartbeats 4000000 in
theorem eX11_enviersOf_0 {K : cw_K} {r : Option Value} {J0 I : cw_M} {x1 : Int32} (h : bX11_enviersOf_0_4 K r J0 x1 0 0 I) : cw_C (cr_w K) mX11_enviersOf [.ref (cw_a (cr_w K) 0), .int x1] I r J0 := by
  refine cw_entry okX11_enviersOf (Nat.le_of_ble_eq_true rfl) (show cw_B (cr_w K) mX11_enviersOf (cw_Z (cr_w K) r J0) 0 0 I 0 [(0, .ref (cw_a (cr_w K) 0)), (1, .int x1)] [] from ?_)
  refine cw_iconst (v := 0) dX11_enviersOf_0 (by decide) ?_
  refine cw_istore_n dX11_enviersOf_1 rfl (by decide) rfl ?_
  refine cw_iconst (v := 0) dX11_enviersOf_2 (by decide) ?_
  refine cw_istore_n dX11_enviersOf_3 rfl (by decide) rfl ?_
  refine cw_sub [2, 3, 1, 0] rfl ?_
  exact h
set_option maxRecDepth 20000 in
set_option maxHeartbeats 4000000 in
theorem tbX11_enviersOf_0_4 {K : cw_K} {r : Option Value} {J0 I : cw_M} {x1 : Int32} {x2 : Int32} {x3 : Int32} (h : (((I 1 1) ≤ x3 → (r = some (.int x2) ∧ J0 = I)) ∧ (¬ (I 1 1) ≤ x3 → (∃ (v_18 : Int32) (J_18 : cw_M), cw_C (cr_w K) mX11_hasEnvy [.ref (cw_a (cr_w K) 0), .int x3, .int x1] I (some (.int v_18)) J_18 ∧ ((v_18 = 0 → bX11_enviersOf_0_4 K r J0 x1 (x2 + 0) (x3 + 1) J_18) ∧ (¬ v_18 = 0 → bX11_enviersOf_0_4 K r J0 x1 (x2 + 1) (x3 + 1) J_18)))))) : bX11_enviersOf_0_4 K r J0 x1 x2 x3 I := by
  refine cw_iload_n dX11_enviersOf_4 3 rfl rfl ?_
  refine cw_aload_n dX11_enviersOf_5 0 rfl rfl ?_
  refine cw_getf (C := RX11) (T := TX11) (N := 20) (ci := 9) inX11_enviersOf_RX11 0 (show 0 < 11 by decide) rfl rfl 0 (by decide) (by decide +kernel) rfl dX11_enviersOf_6 ?_
  refine cw_iconst (v := 1) dX11_enviersOf_9 (by decide) ?_
  refine cw_ialdL (j := 1) 1 (show 1 < 11 by decide) rfl 0 rfl dX11_enviersOf_10 rfl (by decide) (by decide) ?_
  refine cw_icmp_ge (tgt := 37) dX11_enviersOf_11 (by decide) (fun q => ?_) (fun q => ?_)
  · have h := h.1 q
    refine cw_iload_n dX11_enviersOf_37 2 rfl rfl ?_
    exact cw_iret rfl dX11_enviersOf_38 h
  · have h := h.2 q
    refine cw_iload_n dX11_enviersOf_14 2 rfl rfl ?_
    refine cw_aload_n dX11_enviersOf_15 0 rfl rfl ?_
    refine cw_iload_n dX11_enviersOf_16 3 rfl rfl ?_
    refine cw_iload_n dX11_enviersOf_17 1 rfl rfl ?_
    obtain ⟨v_18, J_18, hc_18, h⟩ := h
    refine cw_callV (o := 0) (As := [.int x3, .int x1]) hc_18 okX11_hasEnvy rfl gX11_enviersOf_X11_hasEnvy (by decide) (show 0 < 11 by decide) rfl (ci := 9) rfl rfl (Nat.le_of_ble_eq_true rfl) dX11_enviersOf_18 ?_
    refine cw_if_eq (tgt := 28) dX11_enviersOf_21 (by decide) (fun q => ?_) (fun q => ?_)
    · have h := h.1 q
      refine cw_iconst (v := 0) dX11_enviersOf_28 (by decide) ?_
      refine cw_iadd dX11_enviersOf_29 ?_
      refine cw_istore_n dX11_enviersOf_30 rfl (by decide) rfl ?_
      refine cw_iinc (v := x3 + 1) dX11_enviersOf_31 (j := 3) rfl rfl (by decide) rfl ?_
      refine cw_goto (tgt := 4) dX11_enviersOf_34 (by decide) ?_
      refine cw_sub [2, 3, 1, 0] rfl ?_
      exact h
    · have h := h.2 q
      refine cw_iconst (v := 1) dX11_enviersOf_24 (by decide) ?_
      refine cw_goto (tgt := 29) dX11_enviersOf_25 (by decide) ?_
      refine cw_iadd dX11_enviersOf_29 ?_
      refine cw_istore_n dX11_enviersOf_30 rfl (by decide) rfl ?_
      refine cw_iinc (v := x3 + 1) dX11_enviersOf_31 (j := 3) rfl rfl (by decide) rfl ?_
      refine cw_goto (tgt := 4) dX11_enviersOf_34 (by decide) ?_
      refine cw_sub [2, 3, 1, 0] rfl ?_
      exact h
set_option maxRecDepth 20000 in
set_option maxHeartbeats 4000000 in
theorem eX11_envies_0 {K : cw_K} {r : Option Value} {J0 I : cw_M} {x1 : Int32} {x2 : Int32} (h : (∃ (v_4 : Int32) (J_4 : cw_M), cw_C (cr_w K) mX11_areSiblings [.ref (cw_a (cr_w K) 0), .int x1, .int x2] I (some (.int v_4)) J_4 ∧ ((¬ v_4 = 0 → (∃ (v_17 : Int32) (J_17 : cw_M), cw_C (cr_w K) mX11_fails [.ref (cw_a (cr_w K) 0), .int 0, .int 0, .int 0] J_4 (some (.int v_17)) J_17 ∧ ((v_17 = 0 → (∃ (v_28 : Int32) (J_28 : cw_M), cw_C (cr_w K) mX11_hasEnvy [.ref (cw_a (cr_w K) 0), .int x1, .int x2] J_17 (some (.int v_28)) J_28 ∧ ((v_28 = 0 ∨ v_28 = 1) ∧ (r = some (.int v_28) ∧ J0 = J_28)))) ∧ (¬ v_17 = 0 → (r = some (.int 0) ∧ J0 = J_17))))) ∧ (v_4 = 0 → (∃ (v_17 : Int32) (J_17 : cw_M), cw_C (cr_w K) mX11_fails [.ref (cw_a (cr_w K) 0), .int 1, .int 0, .int 0] J_4 (some (.int v_17)) J_17 ∧ ((v_17 = 0 → (∃ (v_28 : Int32) (J_28 : cw_M), cw_C (cr_w K) mX11_hasEnvy [.ref (cw_a (cr_w K) 0), .int x1, .int x2] J_17 (some (.int v_28)) J_28 ∧ ((v_28 = 0 ∨ v_28 = 1) ∧ (r = some (.int v_28) ∧ J0 = J_28)))) ∧ (¬ v_17 = 0 → (r = some (.int 0) ∧ J0 = J_17)))))))) : cw_C (cr_w K) mX11_envies [.ref (cw_a (cr_w K) 0), .int x1, .int x2] I r J0 := by
  refine cw_entry okX11_envies (Nat.le_of_ble_eq_true rfl) (show cw_B (cr_w K) mX11_envies (cw_Z (cr_w K) r J0) 0 0 I 0 [(0, .ref (cw_a (cr_w K) 0)), (1, .int x1), (2, .int x2)] [] from ?_)
  refine cw_aload_n dX11_envies_0 0 rfl rfl ?_
  refine cw_aload_n dX11_envies_1 0 rfl rfl ?_
  refine cw_iload_n dX11_envies_2 1 rfl rfl ?_
  refine cw_iload_n dX11_envies_3 2 rfl rfl ?_
  obtain ⟨v_4, J_4, hc_4, h⟩ := h
  refine cw_callV (o := 0) (As := [.int x1, .int x2]) hc_4 okX11_areSiblings rfl gX11_envies_X11_areSiblings (by decide) (show 0 < 11 by decide) rfl (ci := 9) rfl rfl (Nat.le_of_ble_eq_true rfl) dX11_envies_4 ?_
  refine cw_if_ne (tgt := 14) dX11_envies_7 (by decide) (fun q => ?_) (fun q => ?_)
  · have h := h.1 q
    refine cw_iconst (v := 0) dX11_envies_14 (by decide) ?_
    refine cw_iconst (v := 0) dX11_envies_15 (by decide) ?_
    refine cw_iconst (v := 0) dX11_envies_16 (by decide) ?_
    obtain ⟨v_17, J_17, hc_17, h⟩ := h
    refine cw_callV (o := 0) (As := [.int 0, .int 0, .int 0]) hc_17 okX11_fails rfl gX11_envies_X11_fails (by decide) (show 0 < 11 by decide) rfl (ci := 9) rfl rfl (Nat.le_of_ble_eq_true rfl) dX11_envies_17 ?_
    refine cw_if_eq (tgt := 25) dX11_envies_20 (by decide) (fun q => ?_) (fun q => ?_)
    · have h := h.1 q
      refine cw_aload_n dX11_envies_25 0 rfl rfl ?_
      refine cw_iload_n dX11_envies_26 1 rfl rfl ?_
      refine cw_iload_n dX11_envies_27 2 rfl rfl ?_
      obtain ⟨v_28, J_28, hc_28, h⟩ := h
      refine cw_callV (o := 0) (As := [.int x1, .int x2]) hc_28 okX11_hasEnvy rfl gX11_envies_X11_hasEnvy (by decide) (show 0 < 11 by decide) rfl (ci := 9) rfl rfl (Nat.le_of_ble_eq_true rfl) dX11_envies_28 ?_
      exact cw_bret rfl dX11_envies_31 h.1 h.2
    · have h := h.2 q
      refine cw_iconst (v := 0) dX11_envies_23 (by decide) ?_
      exact cw_bret rfl dX11_envies_24 (by decide) h
  · have h := h.2 q
    refine cw_iconst (v := 1) dX11_envies_10 (by decide) ?_
    refine cw_goto (tgt := 15) dX11_envies_11 (by decide) ?_
    refine cw_iconst (v := 0) dX11_envies_15 (by decide) ?_
    refine cw_iconst (v := 0) dX11_envies_16 (by decide) ?_
    obtain ⟨v_17, J_17, hc_17, h⟩ := h
    refine cw_callV (o := 0) (As := [.int 1, .int 0, .int 0]) hc_17 okX11_fails rfl gX11_envies_X11_fails (by decide) (show 0 < 11 by decide) rfl (ci := 9) rfl rfl (Nat.le_of_ble_eq_true rfl) dX11_envies_17 ?_
    refine cw_if_eq (tgt := 25) dX11_envies_20 (by decide) (fun q => ?_) (fun q => ?_)
    · have h := h.1 q
      refine cw_aload_n dX11_envies_25 0 rfl rfl ?_
      refine cw_iload_n dX11_envies_26 1 rfl rfl ?_
      refine cw_iload_n dX11_envies_27 2 rfl rfl ?_
      obtain ⟨v_28, J_28, hc_28, h⟩ := h
      refine cw_callV (o := 0) (As := [.int x1, .int x2]) hc_28 okX11_hasEnvy rfl gX11_envies_X11_hasEnvy (by decide) (show 0 < 11 by decide) rfl (ci := 9) rfl rfl (Nat.le_of_ble_eq_true rfl) dX11_envies_28 ?_
      exact cw_bret rfl dX11_envies_31 h.1 h.2
    · have h := h.2 q
      refine cw_iconst (v := 0) dX11_envies_23 (by decide) ?_
      exact cw_bret rfl dX11_envies_24 (by decide) h
set_option maxRecDepth 20000 in
set_option maxHeartbeats 4000000 in
theorem eX11_envyCount_0 {K : cw_K} {r : Option Value} {J0 I : cw_M} (h : (∃ (v_2 : Int32) (J_2 : cw_M), cw_C (cr_w K) mX11_envyTotal [.ref (cw_a (cr_w K) 0)] I (some (.int v_2)) J_2 ∧ (∃ (v_5 : Int32) (J_5 : cw_M), cw_C (cr_w K) mX11_plain [.ref (cw_a (cr_w K) 0), .int v_2] J_2 (some (.int v_5)) J_5 ∧ (r = some (.int v_5) ∧ J0 = J_5)))) : cw_C (cr_w K) mX11_envyCount [.ref (cw_a (cr_w K) 0)] I r J0 := by
  refine cw_entry okX11_envyCount (Nat.le_of_ble_eq_true rfl) (show cw_B (cr_w K) mX11_envyCount (cw_Z (cr_w K) r J0) 0 0 I 0 [(0, .ref (cw_a (cr_w K) 0))] [] from ?_)
  refine cw_aload_n dX11_envyCount_0 0 rfl rfl ?_
  refine cw_aload_n dX11_envyCount_1 0 rfl rfl ?_
  obtain ⟨v_2, J_2, hc_2, h⟩ := h
  refine cw_callV (o := 0) (As := []) hc_2 okX11_envyTotal rfl gX11_envyCount_X11_envyTotal (by decide) (show 0 < 11 by decide) rfl (ci := 9) rfl rfl (Nat.le_of_ble_eq_true rfl) dX11_envyCount_2 ?_
  obtain ⟨v_5, J_5, hc_5, h⟩ := h
  refine cw_callV (o := 0) (As := [.int v_2]) hc_5 okX11_plain rfl gX11_envyCount_X11_plain (by decide) (show 0 < 11 by decide) rfl (ci := 9) rfl rfl (Nat.le_of_ble_eq_true rfl) dX11_envyCount_5 ?_
  exact cw_iret rfl dX11_envyCount_8 h
set_option maxRecDepth 20000 in
set_option maxHeartbeats 4000000 in
theorem eX11_envyCycleLength_0 {K : cw_K} {r : Option Value} {J0 I : cw_M} {x1 : Int32} (h : (∃ (v_3 : Int32) (J_3 : cw_M), cw_C (cr_w K) mX11_isSibling [.ref (cw_a (cr_w K) 0), .int x1] I (some (.int v_3)) J_3 ∧ ((¬ v_3 = 0 → (∃ (v_16 : Int32) (J_16 : cw_M), cw_C (cr_w K) mX11_fails [.ref (cw_a (cr_w K) 0), .int 0, .int 0, .int 0] J_3 (some (.int v_16)) J_16 ∧ ((v_16 = 0 → (∃ (v_26 : Int32) (J_26 : cw_M), cw_C (cr_w K) mX11_findCycle [.ref (cw_a (cr_w K) 0), .int x1] J_16 (some (.int v_26)) J_26 ∧ (r = some (.int v_26) ∧ J0 = J_26))) ∧ (¬ v_16 = 0 → (r = some (.int 0) ∧ J0 = J_16))))) ∧ (v_3 = 0 → (∃ (v_16 : Int32) (J_16 : cw_M), cw_C (cr_w K) mX11_fails [.ref (cw_a (cr_w K) 0), .int 1, .int 0, .int 0] J_3 (some (.int v_16)) J_16 ∧ ((v_16 = 0 → (∃ (v_26 : Int32) (J_26 : cw_M), cw_C (cr_w K) mX11_findCycle [.ref (cw_a (cr_w K) 0), .int x1] J_16 (some (.int v_26)) J_26 ∧ (r = some (.int v_26) ∧ J0 = J_26))) ∧ (¬ v_16 = 0 → (r = some (.int 0) ∧ J0 = J_16)))))))) : cw_C (cr_w K) mX11_envyCycleLength [.ref (cw_a (cr_w K) 0), .int x1] I r J0 := by
  refine cw_entry okX11_envyCycleLength (Nat.le_of_ble_eq_true rfl) (show cw_B (cr_w K) mX11_envyCycleLength (cw_Z (cr_w K) r J0) 0 0 I 0 [(0, .ref (cw_a (cr_w K) 0)), (1, .int x1)] [] from ?_)
  refine cw_aload_n dX11_envyCycleLength_0 0 rfl rfl ?_
  refine cw_aload_n dX11_envyCycleLength_1 0 rfl rfl ?_
  refine cw_iload_n dX11_envyCycleLength_2 1 rfl rfl ?_
  obtain ⟨v_3, J_3, hc_3, h⟩ := h
  refine cw_callV (o := 0) (As := [.int x1]) hc_3 okX11_isSibling rfl gX11_envyCycleLength_X11_isSibling (by decide) (show 0 < 11 by decide) rfl (ci := 9) rfl rfl (Nat.le_of_ble_eq_true rfl) dX11_envyCycleLength_3 ?_
  refine cw_if_ne (tgt := 13) dX11_envyCycleLength_6 (by decide) (fun q => ?_) (fun q => ?_)
  · have h := h.1 q
    refine cw_iconst (v := 0) dX11_envyCycleLength_13 (by decide) ?_
    refine cw_iconst (v := 0) dX11_envyCycleLength_14 (by decide) ?_
    refine cw_iconst (v := 0) dX11_envyCycleLength_15 (by decide) ?_
    obtain ⟨v_16, J_16, hc_16, h⟩ := h
    refine cw_callV (o := 0) (As := [.int 0, .int 0, .int 0]) hc_16 okX11_fails rfl gX11_envyCycleLength_X11_fails (by decide) (show 0 < 11 by decide) rfl (ci := 9) rfl rfl (Nat.le_of_ble_eq_true rfl) dX11_envyCycleLength_16 ?_
    refine cw_if_eq (tgt := 24) dX11_envyCycleLength_19 (by decide) (fun q => ?_) (fun q => ?_)
    · have h := h.1 q
      refine cw_aload_n dX11_envyCycleLength_24 0 rfl rfl ?_
      refine cw_iload_n dX11_envyCycleLength_25 1 rfl rfl ?_
      obtain ⟨v_26, J_26, hc_26, h⟩ := h
      refine cw_callV (o := 0) (As := [.int x1]) hc_26 okX11_findCycle rfl gX11_envyCycleLength_X11_findCycle (by decide) (show 0 < 11 by decide) rfl (ci := 9) rfl rfl (Nat.le_of_ble_eq_true rfl) dX11_envyCycleLength_26 ?_
      exact cw_iret rfl dX11_envyCycleLength_29 h
    · have h := h.2 q
      refine cw_iconst (v := 0) dX11_envyCycleLength_22 (by decide) ?_
      exact cw_iret rfl dX11_envyCycleLength_23 h
  · have h := h.2 q
    refine cw_iconst (v := 1) dX11_envyCycleLength_9 (by decide) ?_
    refine cw_goto (tgt := 14) dX11_envyCycleLength_10 (by decide) ?_
    refine cw_iconst (v := 0) dX11_envyCycleLength_14 (by decide) ?_
    refine cw_iconst (v := 0) dX11_envyCycleLength_15 (by decide) ?_
    obtain ⟨v_16, J_16, hc_16, h⟩ := h
    refine cw_callV (o := 0) (As := [.int 1, .int 0, .int 0]) hc_16 okX11_fails rfl gX11_envyCycleLength_X11_fails (by decide) (show 0 < 11 by decide) rfl (ci := 9) rfl rfl (Nat.le_of_ble_eq_true rfl) dX11_envyCycleLength_16 ?_
    refine cw_if_eq (tgt := 24) dX11_envyCycleLength_19 (by decide) (fun q => ?_) (fun q => ?_)
    · have h := h.1 q
      refine cw_aload_n dX11_envyCycleLength_24 0 rfl rfl ?_
      refine cw_iload_n dX11_envyCycleLength_25 1 rfl rfl ?_
      obtain ⟨v_26, J_26, hc_26, h⟩ := h
      refine cw_callV (o := 0) (As := [.int x1]) hc_26 okX11_findCycle rfl gX11_envyCycleLength_X11_findCycle (by decide) (show 0 < 11 by decide) rfl (ci := 9) rfl rfl (Nat.le_of_ble_eq_true rfl) dX11_envyCycleLength_26 ?_
      exact cw_iret rfl dX11_envyCycleLength_29 h
    · have h := h.2 q
      refine cw_iconst (v := 0) dX11_envyCycleLength_22 (by decide) ?_
      exact cw_iret rfl dX11_envyCycleLength_23 h
set_option maxRecDepth 20000 in
set_option maxHeartbeats 4000000 in
theorem eX11_envyCycleMember_0 {K : cw_K} {r : Option Value} {J0 I : cw_M} {x1 : Int32} {x2 : Int32} (h : (∃ (v_2 : Int32) (J_2 : cw_M), cw_C (cr_w K) mX11_isSibling [.ref (cw_a (cr_w K) 0), .int x1] I (some (.int v_2)) J_2 ∧ ((¬ v_2 = 0 → ((v_2 = 0 → (∃ (v_49 : Int32) (J_49 : cw_M), cw_C (cr_w K) mX11_fails [.ref (cw_a (cr_w K) 0), .int 0, .int 0, .int 0] J_2 (some (.int v_49)) J_49 ∧ ((v_49 = 0 → (vp_in x2 6 ∧ (r = some (.int (J_49 6 x2.toNatClampNeg)) ∧ J0 = J_49))) ∧ (¬ v_49 = 0 → (r = some (.int 0) ∧ J0 = J_49))))) ∧ (¬ v_2 = 0 → ((v_2 = 0 → (∃ (v_32 : Int32) (J_32 : cw_M), cw_C (cr_w K) mX11_findCycle [.ref (cw_a (cr_w K) 0), .int 0] J_2 (some (.int v_32)) J_32 ∧ (∃ (v_37 : Int32) (J_37 : cw_M), cw_C (cr_w K) mX11_in [.int x2, .int 0, .int (v_32 - 1)] J_32 (some (.int v_37)) J_37 ∧ ((¬ v_37 = 0 → (∃ (v_49 : Int32) (J_49 : cw_M), cw_C (cr_w K) mX11_fails [.ref (cw_a (cr_w K) 0), .int 0, .int 0, .int 0] J_37 (some (.int v_49)) J_49 ∧ ((v_49 = 0 → (vp_in x2 6 ∧ (r = some (.int (J_49 6 x2.toNatClampNeg)) ∧ J0 = J_49))) ∧ (¬ v_49 = 0 → (r = some (.int 0) ∧ J0 = J_49))))) ∧ (v_37 = 0 → (∃ (v_49 : Int32) (J_49 : cw_M), cw_C (cr_w K) mX11_fails [.ref (cw_a (cr_w K) 0), .int 0, .int 1, .int 0] J_37 (some (.int v_49)) J_49 ∧ ((v_49 = 0 → (vp_in x2 6 ∧ (r = some (.int (J_49 6 x2.toNatClampNeg)) ∧ J0 = J_49))) ∧ (¬ v_49 = 0 → (r = some (.int 0) ∧ J0 = J_49))))))))) ∧ (¬ v_2 = 0 → (∃ (v_32 : Int32) (J_32 : cw_M), cw_C (cr_w K) mX11_findCycle [.ref (cw_a (cr_w K) 0), .int x1] J_2 (some (.int v_32)) J_32 ∧ (∃ (v_37 : Int32) (J_37 : cw_M), cw_C (cr_w K) mX11_in [.int x2, .int 0, .int (v_32 - 1)] J_32 (some (.int v_37)) J_37 ∧ ((¬ v_37 = 0 → (∃ (v_49 : Int32) (J_49 : cw_M), cw_C (cr_w K) mX11_fails [.ref (cw_a (cr_w K) 0), .int 0, .int 0, .int 0] J_37 (some (.int v_49)) J_49 ∧ ((v_49 = 0 → (vp_in x2 6 ∧ (r = some (.int (J_49 6 x2.toNatClampNeg)) ∧ J0 = J_49))) ∧ (¬ v_49 = 0 → (r = some (.int 0) ∧ J0 = J_49))))) ∧ (v_37 = 0 → (∃ (v_49 : Int32) (J_49 : cw_M), cw_C (cr_w K) mX11_fails [.ref (cw_a (cr_w K) 0), .int 0, .int 1, .int 0] J_37 (some (.int v_49)) J_49 ∧ ((v_49 = 0 → (vp_in x2 6 ∧ (r = some (.int (J_49 6 x2.toNatClampNeg)) ∧ J0 = J_49))) ∧ (¬ v_49 = 0 → (r = some (.int 0) ∧ J0 = J_49))))))))))))) ∧ (v_2 = 0 → ((v_2 = 0 → (∃ (v_49 : Int32) (J_49 : cw_M), cw_C (cr_w K) mX11_fails [.ref (cw_a (cr_w K) 0), .int 1, .int 0, .int 0] J_2 (some (.int v_49)) J_49 ∧ ((v_49 = 0 → (vp_in x2 6 ∧ (r = some (.int (J_49 6 x2.toNatClampNeg)) ∧ J0 = J_49))) ∧ (¬ v_49 = 0 → (r = some (.int 0) ∧ J0 = J_49))))) ∧ (¬ v_2 = 0 → ((v_2 = 0 → (∃ (v_32 : Int32) (J_32 : cw_M), cw_C (cr_w K) mX11_findCycle [.ref (cw_a (cr_w K) 0), .int 0] J_2 (some (.int v_32)) J_32 ∧ (∃ (v_37 : Int32) (J_37 : cw_M), cw_C (cr_w K) mX11_in [.int x2, .int 0, .int (v_32 - 1)] J_32 (some (.int v_37)) J_37 ∧ ((¬ v_37 = 0 → (∃ (v_49 : Int32) (J_49 : cw_M), cw_C (cr_w K) mX11_fails [.ref (cw_a (cr_w K) 0), .int 1, .int 0, .int 0] J_37 (some (.int v_49)) J_49 ∧ ((v_49 = 0 → (vp_in x2 6 ∧ (r = some (.int (J_49 6 x2.toNatClampNeg)) ∧ J0 = J_49))) ∧ (¬ v_49 = 0 → (r = some (.int 0) ∧ J0 = J_49))))) ∧ (v_37 = 0 → (∃ (v_49 : Int32) (J_49 : cw_M), cw_C (cr_w K) mX11_fails [.ref (cw_a (cr_w K) 0), .int 1, .int 1, .int 0] J_37 (some (.int v_49)) J_49 ∧ ((v_49 = 0 → (vp_in x2 6 ∧ (r = some (.int (J_49 6 x2.toNatClampNeg)) ∧ J0 = J_49))) ∧ (¬ v_49 = 0 → (r = some (.int 0) ∧ J0 = J_49))))))))) ∧ (¬ v_2 = 0 → (∃ (v_32 : Int32) (J_32 : cw_M), cw_C (cr_w K) mX11_findCycle [.ref (cw_a (cr_w K) 0), .int x1] J_2 (some (.int v_32)) J_32 ∧ (∃ (v_37 : Int32) (J_37 : cw_M), cw_C (cr_w K) mX11_in [.int x2, .int 0, .int (v_32 - 1)] J_32 (some (.int v_37)) J_37 ∧ ((¬ v_37 = 0 → (∃ (v_49 : Int32) (J_49 : cw_M), cw_C (cr_w K) mX11_fails [.ref (cw_a (cr_w K) 0), .int 1, .int 0, .int 0] J_37 (some (.int v_49)) J_49 ∧ ((v_49 = 0 → (vp_in x2 6 ∧ (r = some (.int (J_49 6 x2.toNatClampNeg)) ∧ J0 = J_49))) ∧ (¬ v_49 = 0 → (r = some (.int 0) ∧ J0 = J_49))))) ∧ (v_37 = 0 → (∃ (v_49 : Int32) (J_49 : cw_M), cw_C (cr_w K) mX11_fails [.ref (cw_a (cr_w K) 0), .int 1, .int 1, .int 0] J_37 (some (.int v_49)) J_49 ∧ ((v_49 = 0 → (vp_in x2 6 ∧ (r = some (.int (J_49 6 x2.toNatClampNeg)) ∧ J0 = J_49))) ∧ (¬ v_49 = 0 → (r = some (.int 0) ∧ J0 = J_49)))))))))))))))) : cw_C (cr_w K) mX11_envyCycleMember [.ref (cw_a (cr_w K) 0), .int x1, .int x2] I r J0 := by
  refine cw_entry okX11_envyCycleMember (Nat.le_of_ble_eq_true rfl) (show cw_B (cr_w K) mX11_envyCycleMember (cw_Z (cr_w K) r J0) 0 0 I 0 [(0, .ref (cw_a (cr_w K) 0)), (1, .int x1), (2, .int x2)] [] from ?_)
  refine cw_aload_n dX11_envyCycleMember_0 0 rfl rfl ?_
  refine cw_iload_n dX11_envyCycleMember_1 1 rfl rfl ?_
  obtain ⟨v_2, J_2, hc_2, h⟩ := h
  refine cw_callV (o := 0) (As := [.int x1]) hc_2 okX11_isSibling rfl gX11_envyCycleMember_X11_isSibling (by decide) (show 0 < 11 by decide) rfl (ci := 9) rfl rfl (Nat.le_of_ble_eq_true rfl) dX11_envyCycleMember_2 ?_
  refine cw_istore_n dX11_envyCycleMember_5 rfl (by decide) rfl ?_
  refine cw_aload_n dX11_envyCycleMember_6 1 rfl rfl ?_
  refine cw_iload_n dX11_envyCycleMember_7 0 rfl rfl ?_
  refine cw_if_ne (tgt := 15) dX11_envyCycleMember_8 (by decide) (fun q => ?_) (fun q => ?_)
  · have h := h.1 q
    refine cw_iconst (v := 0) dX11_envyCycleMember_15 (by decide) ?_
    refine cw_iload_n dX11_envyCycleMember_16 0 rfl rfl ?_
    refine cw_if_eq (tgt := 47) dX11_envyCycleMember_17 (by decide) (fun q => ?_) (fun q => ?_)
    · have h := h.1 q
      refine cw_iconst (v := 0) dX11_envyCycleMember_47 (by decide) ?_
      refine cw_iconst (v := 0) dX11_envyCycleMember_48 (by decide) ?_
      obtain ⟨v_49, J_49, hc_49, h⟩ := h
      refine cw_callV (o := 0) (As := [.int 0, .int 0, .int 0]) hc_49 okX11_fails rfl gX11_envyCycleMember_X11_fails (by decide) (show 0 < 11 by decide) rfl (ci := 9) rfl rfl (Nat.le_of_ble_eq_true rfl) dX11_envyCycleMember_49 ?_
      refine cw_if_eq (tgt := 57) dX11_envyCycleMember_52 (by decide) (fun q => ?_) (fun q => ?_)
      · have h := h.1 q
        refine cw_aload_n dX11_envyCycleMember_57 1 rfl rfl ?_
        refine cw_getf (C := RX11) (T := TX11) (N := 20) (ci := 9) inX11_envyCycleMember_RX11 0 (show 0 < 11 by decide) rfl rfl 11 (by decide) (by decide +kernel) rfl dX11_envyCycleMember_58 ?_
        refine cw_iload_n dX11_envyCycleMember_61 3 rfl rfl ?_
        obtain ⟨g_62, h⟩ := h
        refine cw_iald 6 (show 6 < 11 by decide) rfl 0 rfl dX11_envyCycleMember_62 g_62 ?_
        exact cw_iret rfl dX11_envyCycleMember_63 h
      · have h := h.2 q
        refine cw_iconst (v := 0) dX11_envyCycleMember_55 (by decide) ?_
        exact cw_iret rfl dX11_envyCycleMember_56 h
    · have h := h.2 q
      refine cw_iload_n dX11_envyCycleMember_20 3 rfl rfl ?_
      refine cw_iconst (v := 0) dX11_envyCycleMember_21 (by decide) ?_
      refine cw_aload_n dX11_envyCycleMember_22 1 rfl rfl ?_
      refine cw_iload_n dX11_envyCycleMember_23 0 rfl rfl ?_
      refine cw_if_eq (tgt := 31) dX11_envyCycleMember_24 (by decide) (fun q => ?_) (fun q => ?_)
      · have h := h.1 q
        refine cw_iconst (v := 0) dX11_envyCycleMember_31 (by decide) ?_
        obtain ⟨v_32, J_32, hc_32, h⟩ := h
        refine cw_callV (o := 0) (As := [.int 0]) hc_32 okX11_findCycle rfl gX11_envyCycleMember_X11_findCycle (by decide) (show 0 < 11 by decide) rfl (ci := 9) rfl rfl (Nat.le_of_ble_eq_true rfl) dX11_envyCycleMember_32 ?_
        refine cw_iconst (v := 1) dX11_envyCycleMember_35 (by decide) ?_
        refine cw_isub dX11_envyCycleMember_36 ?_
        obtain ⟨v_37, J_37, hc_37, h⟩ := h
        refine cw_callS (As := [.int x2, .int 0, .int (v_32 - 1)]) hc_37 okX11_in rfl gX11_envyCycleMember_X11_in (by decide) rfl rfl (Nat.le_of_ble_eq_true rfl) dX11_envyCycleMember_37 ?_
        refine cw_if_ne (tgt := 47) dX11_envyCycleMember_40 (by decide) (fun q => ?_) (fun q => ?_)
        · have h := h.1 q
          refine cw_iconst (v := 0) dX11_envyCycleMember_47 (by decide) ?_
          refine cw_iconst (v := 0) dX11_envyCycleMember_48 (by decide) ?_
          obtain ⟨v_49, J_49, hc_49, h⟩ := h
          refine cw_callV (o := 0) (As := [.int 0, .int 0, .int 0]) hc_49 okX11_fails rfl gX11_envyCycleMember_X11_fails (by decide) (show 0 < 11 by decide) rfl (ci := 9) rfl rfl (Nat.le_of_ble_eq_true rfl) dX11_envyCycleMember_49 ?_
          refine cw_if_eq (tgt := 57) dX11_envyCycleMember_52 (by decide) (fun q => ?_) (fun q => ?_)
          · have h := h.1 q
            refine cw_aload_n dX11_envyCycleMember_57 1 rfl rfl ?_
            refine cw_getf (C := RX11) (T := TX11) (N := 20) (ci := 9) inX11_envyCycleMember_RX11 0 (show 0 < 11 by decide) rfl rfl 11 (by decide) (by decide +kernel) rfl dX11_envyCycleMember_58 ?_
            refine cw_iload_n dX11_envyCycleMember_61 3 rfl rfl ?_
            obtain ⟨g_62, h⟩ := h
            refine cw_iald 6 (show 6 < 11 by decide) rfl 0 rfl dX11_envyCycleMember_62 g_62 ?_
            exact cw_iret rfl dX11_envyCycleMember_63 h
          · have h := h.2 q
            refine cw_iconst (v := 0) dX11_envyCycleMember_55 (by decide) ?_
            exact cw_iret rfl dX11_envyCycleMember_56 h
        · have h := h.2 q
          refine cw_iconst (v := 1) dX11_envyCycleMember_43 (by decide) ?_
          refine cw_goto (tgt := 48) dX11_envyCycleMember_44 (by decide) ?_
          refine cw_iconst (v := 0) dX11_envyCycleMember_48 (by decide) ?_
          obtain ⟨v_49, J_49, hc_49, h⟩ := h
          refine cw_callV (o := 0) (As := [.int 0, .int 1, .int 0]) hc_49 okX11_fails rfl gX11_envyCycleMember_X11_fails (by decide) (show 0 < 11 by decide) rfl (ci := 9) rfl rfl (Nat.le_of_ble_eq_true rfl) dX11_envyCycleMember_49 ?_
          refine cw_if_eq (tgt := 57) dX11_envyCycleMember_52 (by decide) (fun q => ?_) (fun q => ?_)
          · have h := h.1 q
            refine cw_aload_n dX11_envyCycleMember_57 1 rfl rfl ?_
            refine cw_getf (C := RX11) (T := TX11) (N := 20) (ci := 9) inX11_envyCycleMember_RX11 0 (show 0 < 11 by decide) rfl rfl 11 (by decide) (by decide +kernel) rfl dX11_envyCycleMember_58 ?_
            refine cw_iload_n dX11_envyCycleMember_61 3 rfl rfl ?_
            obtain ⟨g_62, h⟩ := h
            refine cw_iald 6 (show 6 < 11 by decide) rfl 0 rfl dX11_envyCycleMember_62 g_62 ?_
            exact cw_iret rfl dX11_envyCycleMember_63 h
          · have h := h.2 q
            refine cw_iconst (v := 0) dX11_envyCycleMember_55 (by decide) ?_
            exact cw_iret rfl dX11_envyCycleMember_56 h
      · have h := h.2 q
        refine cw_iload_n dX11_envyCycleMember_27 2 rfl rfl ?_
        refine cw_goto (tgt := 32) dX11_envyCycleMember_28 (by decide) ?_
        obtain ⟨v_32, J_32, hc_32, h⟩ := h
        refine cw_callV (o := 0) (As := [.int x1]) hc_32 okX11_findCycle rfl gX11_envyCycleMember_X11_findCycle (by decide) (show 0 < 11 by decide) rfl (ci := 9) rfl rfl (Nat.le_of_ble_eq_true rfl) dX11_envyCycleMember_32 ?_
        refine cw_iconst (v := 1) dX11_envyCycleMember_35 (by decide) ?_
        refine cw_isub dX11_envyCycleMember_36 ?_
        obtain ⟨v_37, J_37, hc_37, h⟩ := h
        refine cw_callS (As := [.int x2, .int 0, .int (v_32 - 1)]) hc_37 okX11_in rfl gX11_envyCycleMember_X11_in (by decide) rfl rfl (Nat.le_of_ble_eq_true rfl) dX11_envyCycleMember_37 ?_
        refine cw_if_ne (tgt := 47) dX11_envyCycleMember_40 (by decide) (fun q => ?_) (fun q => ?_)
        · have h := h.1 q
          refine cw_iconst (v := 0) dX11_envyCycleMember_47 (by decide) ?_
          refine cw_iconst (v := 0) dX11_envyCycleMember_48 (by decide) ?_
          obtain ⟨v_49, J_49, hc_49, h⟩ := h
          refine cw_callV (o := 0) (As := [.int 0, .int 0, .int 0]) hc_49 okX11_fails rfl gX11_envyCycleMember_X11_fails (by decide) (show 0 < 11 by decide) rfl (ci := 9) rfl rfl (Nat.le_of_ble_eq_true rfl) dX11_envyCycleMember_49 ?_
          refine cw_if_eq (tgt := 57) dX11_envyCycleMember_52 (by decide) (fun q => ?_) (fun q => ?_)
          · have h := h.1 q
            refine cw_aload_n dX11_envyCycleMember_57 1 rfl rfl ?_
            refine cw_getf (C := RX11) (T := TX11) (N := 20) (ci := 9) inX11_envyCycleMember_RX11 0 (show 0 < 11 by decide) rfl rfl 11 (by decide) (by decide +kernel) rfl dX11_envyCycleMember_58 ?_
            refine cw_iload_n dX11_envyCycleMember_61 3 rfl rfl ?_
            obtain ⟨g_62, h⟩ := h
            refine cw_iald 6 (show 6 < 11 by decide) rfl 0 rfl dX11_envyCycleMember_62 g_62 ?_
            exact cw_iret rfl dX11_envyCycleMember_63 h
          · have h := h.2 q
            refine cw_iconst (v := 0) dX11_envyCycleMember_55 (by decide) ?_
            exact cw_iret rfl dX11_envyCycleMember_56 h
        · have h := h.2 q
          refine cw_iconst (v := 1) dX11_envyCycleMember_43 (by decide) ?_
          refine cw_goto (tgt := 48) dX11_envyCycleMember_44 (by decide) ?_
          refine cw_iconst (v := 0) dX11_envyCycleMember_48 (by decide) ?_
          obtain ⟨v_49, J_49, hc_49, h⟩ := h
          refine cw_callV (o := 0) (As := [.int 0, .int 1, .int 0]) hc_49 okX11_fails rfl gX11_envyCycleMember_X11_fails (by decide) (show 0 < 11 by decide) rfl (ci := 9) rfl rfl (Nat.le_of_ble_eq_true rfl) dX11_envyCycleMember_49 ?_
          refine cw_if_eq (tgt := 57) dX11_envyCycleMember_52 (by decide) (fun q => ?_) (fun q => ?_)
          · have h := h.1 q
            refine cw_aload_n dX11_envyCycleMember_57 1 rfl rfl ?_
            refine cw_getf (C := RX11) (T := TX11) (N := 20) (ci := 9) inX11_envyCycleMember_RX11 0 (show 0 < 11 by decide) rfl rfl 11 (by decide) (by decide +kernel) rfl dX11_envyCycleMember_58 ?_
            refine cw_iload_n dX11_envyCycleMember_61 3 rfl rfl ?_
            obtain ⟨g_62, h⟩ := h
            refine cw_iald 6 (show 6 < 11 by decide) rfl 0 rfl dX11_envyCycleMember_62 g_62 ?_
            exact cw_iret rfl dX11_envyCycleMember_63 h
          · have h := h.2 q
            refine cw_iconst (v := 0) dX11_envyCycleMember_55 (by decide) ?_
            exact cw_iret rfl dX11_envyCycleMember_56 h
  · have h := h.2 q
    refine cw_iconst (v := 1) dX11_envyCycleMember_11 (by decide) ?_
    refine cw_goto (tgt := 16) dX11_envyCycleMember_12 (by decide) ?_
    refine cw_iload_n dX11_envyCycleMember_16 0 rfl rfl ?_
    refine cw_if_eq (tgt := 47) dX11_envyCycleMember_17 (by decide) (fun q => ?_) (fun q => ?_)
    · have h := h.1 q
      refine cw_iconst (v := 0) dX11_envyCycleMember_47 (by decide) ?_
      refine cw_iconst (v := 0) dX11_envyCycleMember_48 (by decide) ?_
      obtain ⟨v_49, J_49, hc_49, h⟩ := h
      refine cw_callV (o := 0) (As := [.int 1, .int 0, .int 0]) hc_49 okX11_fails rfl gX11_envyCycleMember_X11_fails (by decide) (show 0 < 11 by decide) rfl (ci := 9) rfl rfl (Nat.le_of_ble_eq_true rfl) dX11_envyCycleMember_49 ?_
      refine cw_if_eq (tgt := 57) dX11_envyCycleMember_52 (by decide) (fun q => ?_) (fun q => ?_)
      · have h := h.1 q
        refine cw_aload_n dX11_envyCycleMember_57 1 rfl rfl ?_
        refine cw_getf (C := RX11) (T := TX11) (N := 20) (ci := 9) inX11_envyCycleMember_RX11 0 (show 0 < 11 by decide) rfl rfl 11 (by decide) (by decide +kernel) rfl dX11_envyCycleMember_58 ?_
        refine cw_iload_n dX11_envyCycleMember_61 3 rfl rfl ?_
        obtain ⟨g_62, h⟩ := h
        refine cw_iald 6 (show 6 < 11 by decide) rfl 0 rfl dX11_envyCycleMember_62 g_62 ?_
        exact cw_iret rfl dX11_envyCycleMember_63 h
      · have h := h.2 q
        refine cw_iconst (v := 0) dX11_envyCycleMember_55 (by decide) ?_
        exact cw_iret rfl dX11_envyCycleMember_56 h
    · have h := h.2 q
      refine cw_iload_n dX11_envyCycleMember_20 3 rfl rfl ?_
      refine cw_iconst (v := 0) dX11_envyCycleMember_21 (by decide) ?_
      refine cw_aload_n dX11_envyCycleMember_22 1 rfl rfl ?_
      refine cw_iload_n dX11_envyCycleMember_23 0 rfl rfl ?_
      refine cw_if_eq (tgt := 31) dX11_envyCycleMember_24 (by decide) (fun q => ?_) (fun q => ?_)
      · have h := h.1 q
        refine cw_iconst (v := 0) dX11_envyCycleMember_31 (by decide) ?_
        obtain ⟨v_32, J_32, hc_32, h⟩ := h
        refine cw_callV (o := 0) (As := [.int 0]) hc_32 okX11_findCycle rfl gX11_envyCycleMember_X11_findCycle (by decide) (show 0 < 11 by decide) rfl (ci := 9) rfl rfl (Nat.le_of_ble_eq_true rfl) dX11_envyCycleMember_32 ?_
        refine cw_iconst (v := 1) dX11_envyCycleMember_35 (by decide) ?_
        refine cw_isub dX11_envyCycleMember_36 ?_
        obtain ⟨v_37, J_37, hc_37, h⟩ := h
        refine cw_callS (As := [.int x2, .int 0, .int (v_32 - 1)]) hc_37 okX11_in rfl gX11_envyCycleMember_X11_in (by decide) rfl rfl (Nat.le_of_ble_eq_true rfl) dX11_envyCycleMember_37 ?_
        refine cw_if_ne (tgt := 47) dX11_envyCycleMember_40 (by decide) (fun q => ?_) (fun q => ?_)
        · have h := h.1 q
          refine cw_iconst (v := 0) dX11_envyCycleMember_47 (by decide) ?_
          refine cw_iconst (v := 0) dX11_envyCycleMember_48 (by decide) ?_
          obtain ⟨v_49, J_49, hc_49, h⟩ := h
          refine cw_callV (o := 0) (As := [.int 1, .int 0, .int 0]) hc_49 okX11_fails rfl gX11_envyCycleMember_X11_fails (by decide) (show 0 < 11 by decide) rfl (ci := 9) rfl rfl (Nat.le_of_ble_eq_true rfl) dX11_envyCycleMember_49 ?_
          refine cw_if_eq (tgt := 57) dX11_envyCycleMember_52 (by decide) (fun q => ?_) (fun q => ?_)
          · have h := h.1 q
            refine cw_aload_n dX11_envyCycleMember_57 1 rfl rfl ?_
            refine cw_getf (C := RX11) (T := TX11) (N := 20) (ci := 9) inX11_envyCycleMember_RX11 0 (show 0 < 11 by decide) rfl rfl 11 (by decide) (by decide +kernel) rfl dX11_envyCycleMember_58 ?_
            refine cw_iload_n dX11_envyCycleMember_61 3 rfl rfl ?_
            obtain ⟨g_62, h⟩ := h
            refine cw_iald 6 (show 6 < 11 by decide) rfl 0 rfl dX11_envyCycleMember_62 g_62 ?_
            exact cw_iret rfl dX11_envyCycleMember_63 h
          · have h := h.2 q
            refine cw_iconst (v := 0) dX11_envyCycleMember_55 (by decide) ?_
            exact cw_iret rfl dX11_envyCycleMember_56 h
        · have h := h.2 q
          refine cw_iconst (v := 1) dX11_envyCycleMember_43 (by decide) ?_
          refine cw_goto (tgt := 48) dX11_envyCycleMember_44 (by decide) ?_
          refine cw_iconst (v := 0) dX11_envyCycleMember_48 (by decide) ?_
          obtain ⟨v_49, J_49, hc_49, h⟩ := h
          refine cw_callV (o := 0) (As := [.int 1, .int 1, .int 0]) hc_49 okX11_fails rfl gX11_envyCycleMember_X11_fails (by decide) (show 0 < 11 by decide) rfl (ci := 9) rfl rfl (Nat.le_of_ble_eq_true rfl) dX11_envyCycleMember_49 ?_
          refine cw_if_eq (tgt := 57) dX11_envyCycleMember_52 (by decide) (fun q => ?_) (fun q => ?_)
          · have h := h.1 q
            refine cw_aload_n dX11_envyCycleMember_57 1 rfl rfl ?_
            refine cw_getf (C := RX11) (T := TX11) (N := 20) (ci := 9) inX11_envyCycleMember_RX11 0 (show 0 < 11 by decide) rfl rfl 11 (by decide) (by decide +kernel) rfl dX11_envyCycleMember_58 ?_
            refine cw_iload_n dX11_envyCycleMember_61 3 rfl rfl ?_
            obtain ⟨g_62, h⟩ := h
            refine cw_iald 6 (show 6 < 11 by decide) rfl 0 rfl dX11_envyCycleMember_62 g_62 ?_
            exact cw_iret rfl dX11_envyCycleMember_63 h
          · have h := h.2 q
            refine cw_iconst (v := 0) dX11_envyCycleMember_55 (by decide) ?_
            exact cw_iret rfl dX11_envyCycleMember_56 h
      · have h := h.2 q
        refine cw_iload_n dX11_envyCycleMember_27 2 rfl rfl ?_
        refine cw_goto (tgt := 32) dX11_envyCycleMember_28 (by decide) ?_
        obtain ⟨v_32, J_32, hc_32, h⟩ := h
        refine cw_callV (o := 0) (As := [.int x1]) hc_32 okX11_findCycle rfl gX11_envyCycleMember_X11_findCycle (by decide) (show 0 < 11 by decide) rfl (ci := 9) rfl rfl (Nat.le_of_ble_eq_true rfl) dX11_envyCycleMember_32 ?_
        refine cw_iconst (v := 1) dX11_envyCycleMember_35 (by decide) ?_
        refine cw_isub dX11_envyCycleMember_36 ?_
        obtain ⟨v_37, J_37, hc_37, h⟩ := h
        refine cw_callS (As := [.int x2, .int 0, .int (v_32 - 1)]) hc_37 okX11_in rfl gX11_envyCycleMember_X11_in (by decide) rfl rfl (Nat.le_of_ble_eq_true rfl) dX11_envyCycleMember_37 ?_
        refine cw_if_ne (tgt := 47) dX11_envyCycleMember_40 (by decide) (fun q => ?_) (fun q => ?_)
        · have h := h.1 q
          refine cw_iconst (v := 0) dX11_envyCycleMember_47 (by decide) ?_
          refine cw_iconst (v := 0) dX11_envyCycleMember_48 (by decide) ?_
          obtain ⟨v_49, J_49, hc_49, h⟩ := h
          refine cw_callV (o := 0) (As := [.int 1, .int 0, .int 0]) hc_49 okX11_fails rfl gX11_envyCycleMember_X11_fails (by decide) (show 0 < 11 by decide) rfl (ci := 9) rfl rfl (Nat.le_of_ble_eq_true rfl) dX11_envyCycleMember_49 ?_
          refine cw_if_eq (tgt := 57) dX11_envyCycleMember_52 (by decide) (fun q => ?_) (fun q => ?_)
          · have h := h.1 q
            refine cw_aload_n dX11_envyCycleMember_57 1 rfl rfl ?_
            refine cw_getf (C := RX11) (T := TX11) (N := 20) (ci := 9) inX11_envyCycleMember_RX11 0 (show 0 < 11 by decide) rfl rfl 11 (by decide) (by decide +kernel) rfl dX11_envyCycleMember_58 ?_
            refine cw_iload_n dX11_envyCycleMember_61 3 rfl rfl ?_
            obtain ⟨g_62, h⟩ := h
            refine cw_iald 6 (show 6 < 11 by decide) rfl 0 rfl dX11_envyCycleMember_62 g_62 ?_
            exact cw_iret rfl dX11_envyCycleMember_63 h
          · have h := h.2 q
            refine cw_iconst (v := 0) dX11_envyCycleMember_55 (by decide) ?_
            exact cw_iret rfl dX11_envyCycleMember_56 h
        · have h := h.2 q
          refine cw_iconst (v := 1) dX11_envyCycleMember_43 (by decide) ?_
          refine cw_goto (tgt := 48) dX11_envyCycleMember_44 (by decide) ?_
          refine cw_iconst (v := 0) dX11_envyCycleMember_48 (by decide) ?_
          obtain ⟨v_49, J_49, hc_49, h⟩ := h
          refine cw_callV (o := 0) (As := [.int 1, .int 1, .int 0]) hc_49 okX11_fails rfl gX11_envyCycleMember_X11_fails (by decide) (show 0 < 11 by decide) rfl (ci := 9) rfl rfl (Nat.le_of_ble_eq_true rfl) dX11_envyCycleMember_49 ?_
          refine cw_if_eq (tgt := 57) dX11_envyCycleMember_52 (by decide) (fun q => ?_) (fun q => ?_)
          · have h := h.1 q
            refine cw_aload_n dX11_envyCycleMember_57 1 rfl rfl ?_
            refine cw_getf (C := RX11) (T := TX11) (N := 20) (ci := 9) inX11_envyCycleMember_RX11 0 (show 0 < 11 by decide) rfl rfl 11 (by decide) (by decide +kernel) rfl dX11_envyCycleMember_58 ?_
            refine cw_iload_n dX11_envyCycleMember_61 3 rfl rfl ?_
            obtain ⟨g_62, h⟩ := h
            refine cw_iald 6 (show 6 < 11 by decide) rfl 0 rfl dX11_envyCycleMember_62 g_62 ?_
            exact cw_iret rfl dX11_envyCycleMember_63 h
          · have h := h.2 q
            refine cw_iconst (v := 0) dX11_envyCycleMember_55 (by decide) ?_
            exact cw_iret rfl dX11_envyCycleMember_56 h
abbrev bX11_envyTotal_0_4 (K : cw_K) (r : Option Value) (J0 : cw_M) (x1 : Int32) (x2 : Int32) (I : cw_M) : Prop := cw_B (cr_w K) mX11_envyTotal (cw_Z (cr_w K) r J0) 0 0 I 4 [(0, .ref (cw_a (cr_w K) 0)), (1, .int x1), (2, .int x2)] []
abbrev bX11_envyTotal_0_16 (K : cw_K) (r : Option Value) (J0 : cw_M) (x1 : Int32) (x2 : Int32) (x3 : Int32) (I : cw_M) : Prop := cw_B (cr_w K) mX11_envyTotal (cw_Z (cr_w K) r J0) 0 0 I 16 [(0, .ref (cw_a (cr_w K) 0)), (1, .int x1), (2, .int x2), (3, .int x3)] []
set_option maxRecDepth 20000 in
set_option maxHeartbeats 4000000 in
theorem eX11_envyTotal_0 {K : cw_K} {r : Option Value} {J0 I : cw_M} (h : bX11_envyTotal_0_4 K r J0 0 0 I) : cw_C (cr_w K) mX11_envyTotal [.ref (cw_a (cr_w K) 0)] I r J0 := by
  refine cw_entry okX11_envyTotal (Nat.le_of_ble_eq_true rfl) (show cw_B (cr_w K) mX11_envyTotal (cw_Z (cr_w K) r J0) 0 0 I 0 [(0, .ref (cw_a (cr_w K) 0))] [] from ?_)
  refine cw_iconst (v := 0) dX11_envyTotal_0 (by decide) ?_
  refine cw_istore_n dX11_envyTotal_1 rfl (by decide) rfl ?_
  refine cw_iconst (v := 0) dX11_envyTotal_2 (by decide) ?_
  refine cw_istore_n dX11_envyTotal_3 rfl (by decide) rfl ?_
  refine cw_sub [2, 1, 0] rfl ?_
  exact h
set_option maxRecDepth 20000 in
set_option maxHeartbeats 4000000 in
theorem tbX11_envyTotal_0_4 {K : cw_K} {r : Option Value} {J0 I : cw_M} {x1 : Int32} {x2 : Int32} (h : (((I 1 1) ≤ x2 → (r = some (.int x1) ∧ J0 = I)) ∧ (¬ (I 1 1) ≤ x2 → bX11_envyTotal_0_16 K r J0 x1 x2 0 I))) : bX11_envyTotal_0_4 K r J0 x1 x2 I := by
  refine cw_iload_n dX11_envyTotal_4 2 rfl rfl ?_
  refine cw_aload_n dX11_envyTotal_5 0 rfl rfl ?_
  refine cw_getf (C := RX11) (T := TX11) (N := 20) (ci := 9) inX11_envyTotal_RX11 0 (show 0 < 11 by decide) rfl rfl 0 (by decide) (by decide +kernel) rfl dX11_envyTotal_6 ?_
  refine cw_iconst (v := 1) dX11_envyTotal_9 (by decide) ?_
  refine cw_ialdL (j := 1) 1 (show 1 < 11 by decide) rfl 0 rfl dX11_envyTotal_10 rfl (by decide) (by decide) ?_
  refine cw_icmp_ge (tgt := 55) dX11_envyTotal_11 (by decide) (fun q => ?_) (fun q => ?_)
  · have h := h.1 q
    refine cw_iload_n dX11_envyTotal_55 1 rfl rfl ?_
    exact cw_iret rfl dX11_envyTotal_56 h
  · have h := h.2 q
    refine cw_iconst (v := 0) dX11_envyTotal_14 (by decide) ?_
    refine cw_istore_n dX11_envyTotal_15 rfl (by decide) rfl ?_
    refine cw_sub [1, 2, 3, 0] rfl ?_
    exact h
set_option maxRecDepth 20000 in
set_option maxHeartbeats 4000000 in
theorem tbX11_envyTotal_0_16 {K : cw_K} {r : Option Value} {J0 I : cw_M} {x1 : Int32} {x2 : Int32} {x3 : Int32} (h : (((I 1 1) ≤ x3 → bX11_envyTotal_0_4 K r J0 x1 (x2 + 1) I) ∧ (¬ (I 1 1) ≤ x3 → (∃ (v_30 : Int32) (J_30 : cw_M), cw_C (cr_w K) mX11_hasEnvy [.ref (cw_a (cr_w K) 0), .int x2, .int x3] I (some (.int v_30)) J_30 ∧ ((v_30 = 0 → bX11_envyTotal_0_16 K r J0 (x1 + 0) x2 (x3 + 1) J_30) ∧ (¬ v_30 = 0 → bX11_envyTotal_0_16 K r J0 (x1 + 1) x2 (x3 + 1) J_30)))))) : bX11_envyTotal_0_16 K r J0 x1 x2 x3 I := by
  refine cw_iload_n dX11_envyTotal_16 3 rfl rfl ?_
  refine cw_aload_n dX11_envyTotal_17 0 rfl rfl ?_
  refine cw_getf (C := RX11) (T := TX11) (N := 20) (ci := 9) inX11_envyTotal_RX11 0 (show 0 < 11 by decide) rfl rfl 0 (by decide) (by decide +kernel) rfl dX11_envyTotal_18 ?_
  refine cw_iconst (v := 1) dX11_envyTotal_21 (by decide) ?_
  refine cw_ialdL (j := 1) 1 (show 1 < 11 by decide) rfl 0 rfl dX11_envyTotal_22 rfl (by decide) (by decide) ?_
  refine cw_icmp_ge (tgt := 49) dX11_envyTotal_23 (by decide) (fun q => ?_) (fun q => ?_)
  · have h := h.1 q
    refine cw_iinc (v := x2 + 1) dX11_envyTotal_49 (j := 2) rfl rfl (by decide) rfl ?_
    refine cw_goto (tgt := 4) dX11_envyTotal_52 (by decide) ?_
    refine cw_sub [1, 2, 0] rfl ?_
    exact h
  · have h := h.2 q
    refine cw_iload_n dX11_envyTotal_26 1 rfl rfl ?_
    refine cw_aload_n dX11_envyTotal_27 0 rfl rfl ?_
    refine cw_iload_n dX11_envyTotal_28 2 rfl rfl ?_
    refine cw_iload_n dX11_envyTotal_29 3 rfl rfl ?_
    obtain ⟨v_30, J_30, hc_30, h⟩ := h
    refine cw_callV (o := 0) (As := [.int x2, .int x3]) hc_30 okX11_hasEnvy rfl gX11_envyTotal_X11_hasEnvy (by decide) (show 0 < 11 by decide) rfl (ci := 9) rfl rfl (Nat.le_of_ble_eq_true rfl) dX11_envyTotal_30 ?_
    refine cw_if_eq (tgt := 40) dX11_envyTotal_33 (by decide) (fun q => ?_) (fun q => ?_)
    · have h := h.1 q
      refine cw_iconst (v := 0) dX11_envyTotal_40 (by decide) ?_
      refine cw_iadd dX11_envyTotal_41 ?_
      refine cw_istore_n dX11_envyTotal_42 rfl (by decide) rfl ?_
      refine cw_iinc (v := x3 + 1) dX11_envyTotal_43 (j := 3) rfl rfl (by decide) rfl ?_
      refine cw_goto (tgt := 16) dX11_envyTotal_46 (by decide) ?_
      refine cw_sub [2, 1, 3, 0] rfl ?_
      exact h
    · have h := h.2 q
      refine cw_iconst (v := 1) dX11_envyTotal_36 (by decide) ?_
      refine cw_goto (tgt := 41) dX11_envyTotal_37 (by decide) ?_
      refine cw_iadd dX11_envyTotal_41 ?_
      refine cw_istore_n dX11_envyTotal_42 rfl (by decide) rfl ?_
      refine cw_iinc (v := x3 + 1) dX11_envyTotal_43 (j := 3) rfl rfl (by decide) rfl ?_
      refine cw_goto (tgt := 16) dX11_envyTotal_46 (by decide) ?_
      refine cw_sub [2, 1, 3, 0] rfl ?_
      exact h
set_option maxRecDepth 20000 in
set_option maxHeartbeats 4000000 in
theorem eX11_errorCode_0 {K : cw_K} {r : Option Value} {J0 I : cw_M} (h : (r = some (.int ((cw_st I 0 9 0) 0 5)) ∧ J0 = cw_st I 0 9 0)) : cw_C (cr_w K) mX11_errorCode [.ref (cw_a (cr_w K) 0)] I r J0 := by
  refine cw_entry okX11_errorCode (Nat.le_of_ble_eq_true rfl) (show cw_B (cr_w K) mX11_errorCode (cw_Z (cr_w K) r J0) 0 0 I 0 [(0, .ref (cw_a (cr_w K) 0))] [] from ?_)
  refine cw_aload_n dX11_errorCode_0 0 rfl rfl ?_
  refine cw_iconst (v := 0) dX11_errorCode_1 (by decide) ?_
  refine cw_putf (C := RX11) (T := TX11) (N := 20) (ci := 9) inX11_errorCode_RX11 tyX11 tyX11_ok nmX11 0 (show 0 < 11 by decide) rfl rfl 9 (by decide) (by decide +kernel) rfl rfl (show 9 < 20 by decide) rfl dX11_errorCode_2 ?_
  refine cw_aload_n dX11_errorCode_5 0 rfl rfl ?_
  refine cw_getf (C := RX11) (T := TX11) (N := 20) (ci := 9) inX11_errorCode_RX11 0 (show 0 < 11 by decide) rfl rfl 5 (by decide) (by decide +kernel) rfl dX11_errorCode_6 ?_
  exact cw_iret rfl dX11_errorCode_9 h
set_option maxRecDepth 20000 in
set_option maxHeartbeats 4000000 in
theorem eX11_errorPosition_0 {K : cw_K} {r : Option Value} {J0 I : cw_M} (h : (r = some (.int ((cw_st I 0 9 0) 0 6)) ∧ J0 = cw_st I 0 9 0)) : cw_C (cr_w K) mX11_errorPosition [.ref (cw_a (cr_w K) 0)] I r J0 := by
  refine cw_entry okX11_errorPosition (Nat.le_of_ble_eq_true rfl) (show cw_B (cr_w K) mX11_errorPosition (cw_Z (cr_w K) r J0) 0 0 I 0 [(0, .ref (cw_a (cr_w K) 0))] [] from ?_)
  refine cw_aload_n dX11_errorPosition_0 0 rfl rfl ?_
  refine cw_iconst (v := 0) dX11_errorPosition_1 (by decide) ?_
  refine cw_putf (C := RX11) (T := TX11) (N := 20) (ci := 9) inX11_errorPosition_RX11 tyX11 tyX11_ok nmX11 0 (show 0 < 11 by decide) rfl rfl 9 (by decide) (by decide +kernel) rfl rfl (show 9 < 20 by decide) rfl dX11_errorPosition_2 ?_
  refine cw_aload_n dX11_errorPosition_5 0 rfl rfl ?_
  refine cw_getf (C := RX11) (T := TX11) (N := 20) (ci := 9) inX11_errorPosition_RX11 0 (show 0 < 11 by decide) rfl rfl 6 (by decide) (by decide +kernel) rfl dX11_errorPosition_6 ?_
  exact cw_iret rfl dX11_errorPosition_9 h
abbrev bX11_exchange_0_2 (K : cw_K) (r : Option Value) (J0 : cw_M) (x1 : Int32) (x2 : Int32) (x3 : Int32) (I : cw_M) : Prop := cw_B (cr_w K) mX11_exchange (cw_Z (cr_w K) r J0) 0 0 I 2 [(0, .ref (cw_a (cr_w K) 0)), (1, .int x1), (2, .int x2), (3, .int x3)] []
set_option maxRecDepth 20000 in
set_option maxHeartbeats 4000000 in
theorem eX11_exchange_0 {K : cw_K} {r : Option Value} {J0 I : cw_M} {x1 : Int32} {x2 : Int32} (h : bX11_exchange_0_2 K r J0 x1 x2 0 I) : cw_C (cr_w K) mX11_exchange [.ref (cw_a (cr_w K) 0), .int x1, .int x2] I r J0 := by
  refine cw_entry okX11_exchange (Nat.le_of_ble_eq_true rfl) (show cw_B (cr_w K) mX11_exchange (cw_Z (cr_w K) r J0) 0 0 I 0 [(0, .ref (cw_a (cr_w K) 0)), (1, .int x1), (2, .int x2)] [] from ?_)
  refine cw_iconst (v := 0) dX11_exchange_0 (by decide) ?_
  refine cw_istore_n dX11_exchange_1 rfl (by decide) rfl ?_
  refine cw_sub [1, 2, 3, 0] rfl ?_
  exact h
set_option maxRecDepth 20000 in
set_option maxHeartbeats 4000000 in
theorem tbX11_exchange_0_2 {K : cw_K} {r : Option Value} {J0 I : cw_M} {x1 : Int32} {x2 : Int32} {x3 : Int32} (h : (((I 1 0) ≤ x3 → (r = none ∧ J0 = I)) ∧ (¬ (I 1 0) ≤ x3 → (∃ (v_14 : Int32) (J_14 : cw_M), cw_C (cr_w K) mX11_ownerOf [.ref (cw_a (cr_w K) 0), .int x3] I (some (.int v_14)) J_14 ∧ ((¬ v_14 = x1 → ((¬ v_14 = x2 → bX11_exchange_0_2 K r J0 x1 x2 (x3 + 1) J_14) ∧ (v_14 = x2 → (vp_in (2 + x3) 2120 ∧ bX11_exchange_0_2 K r J0 x1 x2 (x3 + 1) (cw_st J_14 1 (2 + x3).toNatClampNeg x1))))) ∧ (v_14 = x1 → (vp_in (2 + x3) 2120 ∧ ((¬ v_14 = x2 → bX11_exchange_0_2 K r J0 x1 x2 (x3 + 1) (cw_st J_14 1 (2 + x3).toNatClampNeg x2)) ∧ (v_14 = x2 → (vp_in (2 + x3) 2120 ∧ bX11_exchange_0_2 K r J0 x1 x2 (x3 + 1) (cw_st (cw_st J_14 1 (2 + x3).toNatClampNeg x2) 1 (2 + x3).toNatClampNeg x1))))))))))) : bX11_exchange_0_2 K r J0 x1 x2 x3 I := by
  refine cw_iload_n dX11_exchange_2 3 rfl rfl ?_
  refine cw_aload_n dX11_exchange_3 0 rfl rfl ?_
  refine cw_getf (C := RX11) (T := TX11) (N := 20) (ci := 9) inX11_exchange_RX11 0 (show 0 < 11 by decide) rfl rfl 0 (by decide) (by decide +kernel) rfl dX11_exchange_4 ?_
  refine cw_iconst (v := 0) dX11_exchange_7 (by decide) ?_
  refine cw_ialdL (j := 0) 1 (show 1 < 11 by decide) rfl 0 rfl dX11_exchange_8 rfl (by decide) (by decide) ?_
  refine cw_icmp_ge (tgt := 55) dX11_exchange_9 (by decide) (fun q => ?_) (fun q => ?_)
  · have h := h.1 q
    exact cw_vret rfl dX11_exchange_55 h
  · have h := h.2 q
    refine cw_aload_n dX11_exchange_12 0 rfl rfl ?_
    refine cw_iload_n dX11_exchange_13 3 rfl rfl ?_
    obtain ⟨v_14, J_14, hc_14, h⟩ := h
    refine cw_callV (o := 0) (As := [.int x3]) hc_14 okX11_ownerOf rfl gX11_exchange_X11_ownerOf (by decide) (show 0 < 11 by decide) rfl (ci := 9) rfl rfl (Nat.le_of_ble_eq_true rfl) dX11_exchange_14 ?_
    refine cw_istore dX11_exchange_17 (by decide) rfl ?_
    refine cw_iload dX11_exchange_19 0 rfl ?_
    refine cw_iload_n dX11_exchange_21 2 rfl rfl ?_
    refine cw_icmp_ne (tgt := 34) dX11_exchange_22 (by decide) (fun q => ?_) (fun q => ?_)
    · have h := h.1 q
      refine cw_iload dX11_exchange_34 0 rfl ?_
      refine cw_iload_n dX11_exchange_36 3 rfl rfl ?_
      refine cw_icmp_ne (tgt := 49) dX11_exchange_37 (by decide) (fun q => ?_) (fun q => ?_)
      · have h := h.1 q
        refine cw_iinc (v := x3 + 1) dX11_exchange_49 (j := 4) rfl rfl (by decide) rfl ?_
        refine cw_goto (tgt := 2) dX11_exchange_52 (by decide) ?_
        refine cw_sub [2, 3, 4, 0] rfl ?_
        exact h
      · have h := h.2 q
        refine cw_aload_n dX11_exchange_40 1 rfl rfl ?_
        refine cw_getf (C := RX11) (T := TX11) (N := 20) (ci := 9) inX11_exchange_RX11 0 (show 0 < 11 by decide) rfl rfl 0 (by decide) (by decide +kernel) rfl dX11_exchange_41 ?_
        refine cw_iconst (v := 2) dX11_exchange_44 (by decide) ?_
        refine cw_iload_n dX11_exchange_45 4 rfl rfl ?_
        refine cw_iadd dX11_exchange_46 ?_
        refine cw_iload_n dX11_exchange_47 2 rfl rfl ?_
        obtain ⟨g_48, h⟩ := h
        refine cw_iast 1 (show 1 < 11 by decide) (fun _ => rfl) 0 rfl dX11_exchange_48 g_48 ?_
        refine cw_iinc (v := x3 + 1) dX11_exchange_49 (j := 4) rfl rfl (by decide) rfl ?_
        refine cw_goto (tgt := 2) dX11_exchange_52 (by decide) ?_
        refine cw_sub [2, 3, 4, 0] rfl ?_
        exact h
    · have h := h.2 q
      refine cw_aload_n dX11_exchange_25 1 rfl rfl ?_
      refine cw_getf (C := RX11) (T := TX11) (N := 20) (ci := 9) inX11_exchange_RX11 0 (show 0 < 11 by decide) rfl rfl 0 (by decide) (by decide +kernel) rfl dX11_exchange_26 ?_
      refine cw_iconst (v := 2) dX11_exchange_29 (by decide) ?_
      refine cw_iload_n dX11_exchange_30 4 rfl rfl ?_
      refine cw_iadd dX11_exchange_31 ?_
      refine cw_iload_n dX11_exchange_32 3 rfl rfl ?_
      obtain ⟨g_33, h⟩ := h
      refine cw_iast 1 (show 1 < 11 by decide) (fun _ => rfl) 0 rfl dX11_exchange_33 g_33 ?_
      refine cw_iload dX11_exchange_34 0 rfl ?_
      refine cw_iload_n dX11_exchange_36 3 rfl rfl ?_
      refine cw_icmp_ne (tgt := 49) dX11_exchange_37 (by decide) (fun q => ?_) (fun q => ?_)
      · have h := h.1 q
        refine cw_iinc (v := x3 + 1) dX11_exchange_49 (j := 4) rfl rfl (by decide) rfl ?_
        refine cw_goto (tgt := 2) dX11_exchange_52 (by decide) ?_
        refine cw_sub [2, 3, 4, 0] rfl ?_
        exact h
      · have h := h.2 q
        refine cw_aload_n dX11_exchange_40 1 rfl rfl ?_
        refine cw_getf (C := RX11) (T := TX11) (N := 20) (ci := 9) inX11_exchange_RX11 0 (show 0 < 11 by decide) rfl rfl 0 (by decide) (by decide +kernel) rfl dX11_exchange_41 ?_
        refine cw_iconst (v := 2) dX11_exchange_44 (by decide) ?_
        refine cw_iload_n dX11_exchange_45 4 rfl rfl ?_
        refine cw_iadd dX11_exchange_46 ?_
        refine cw_iload_n dX11_exchange_47 2 rfl rfl ?_
        obtain ⟨g_48, h⟩ := h
        refine cw_iast 1 (show 1 < 11 by decide) (fun _ => rfl) 0 rfl dX11_exchange_48 g_48 ?_
        refine cw_iinc (v := x3 + 1) dX11_exchange_49 (j := 4) rfl rfl (by decide) rfl ?_
        refine cw_goto (tgt := 2) dX11_exchange_52 (by decide) ?_
        refine cw_sub [2, 3, 4, 0] rfl ?_
        exact h
abbrev bX11_extend_0_3 (K : cw_K) (r : Option Value) (J0 : cw_M) (x1 : Int32) (x2 : Int32) (x3 : Int32) (x4 : Int32) (I : cw_M) : Prop := cw_B (cr_w K) mX11_extend (cw_Z (cr_w K) r J0) 0 0 I 3 [(0, .ref (cw_a (cr_w K) 0)), (1, .int x1), (2, .int x2), (3, .int x3), (4, .int x4)] []
abbrev bX11_extend_0_44 (K : cw_K) (r : Option Value) (J0 : cw_M) (x1 : Int32) (x2 : Int32) (x3 : Int32) (x4 : Int32) (x5 : Int32) (x6 : Int32) (x7 : Int32) (I : cw_M) : Prop := cw_B (cr_w K) mX11_extend (cw_Z (cr_w K) r J0) 0 0 I 44 [(0, .ref (cw_a (cr_w K) 0)), (1, .int x1), (2, .int x2), (3, .int x3), (4, .int x4), (5, .int x5), (6, .int x6), (7, .int x7)] []
set_option maxRecDepth 20000 in
set_option maxHeartbeats 4000000 in
theorem eX11_extend_0 {K : cw_K} {r : Option Value} {J0 I : cw_M} {x1 : Int32} {x2 : Int32} {x3 : Int32} (h : bX11_extend_0_3 K r J0 x1 x2 x3 0 I) : cw_C (cr_w K) mX11_extend [.ref (cw_a (cr_w K) 0), .int x1, .int x2, .int x3] I r J0 := by
  refine cw_entry okX11_extend (Nat.le_of_ble_eq_true rfl) (show cw_B (cr_w K) mX11_extend (cw_Z (cr_w K) r J0) 0 0 I 0 [(0, .ref (cw_a (cr_w K) 0)), (1, .int x1), (2, .int x2), (3, .int x3)] [] from ?_)
  refine cw_iconst (v := 0) dX11_extend_0 (by decide) ?_
  refine cw_istore dX11_extend_1 (by decide) rfl ?_
  refine cw_sub [1, 2, 3, 4, 0] rfl ?_
  exact h
set_option maxRecDepth 20000 in
set_option maxHeartbeats 4000000 in
theorem tbX11_extend_0_3 {K : cw_K} {r : Option Value} {J0 I : cw_M} {x1 : Int32} {x2 : Int32} {x3 : Int32} {x4 : Int32} (h : (((I 1 0) < x4 → (r = none ∧ J0 = I)) ∧ (¬ (I 1 0) < x4 → (vp_in ((x2 * 25) + x4) 1600 ∧ ((¬ (I 8 ((x2 * 25) + x4).toNatClampNeg) = (-1) → bX11_extend_0_44 K r J0 x1 x2 x3 x4 (I 8 ((x2 * 25) + x4).toNatClampNeg) 0 x4 I) ∧ ((I 8 ((x2 * 25) + x4).toNatClampNeg) = (-1) → bX11_extend_0_3 K r J0 x1 x2 x3 (x4 + 1) I)))))) : bX11_extend_0_3 K r J0 x1 x2 x3 x4 I := by
  refine cw_iload dX11_extend_3 4 rfl ?_
  refine cw_aload_n dX11_extend_5 0 rfl rfl ?_
  refine cw_getf (C := RX11) (T := TX11) (N := 20) (ci := 9) inX11_extend_RX11 0 (show 0 < 11 by decide) rfl rfl 0 (by decide) (by decide +kernel) rfl dX11_extend_6 ?_
  refine cw_iconst (v := 0) dX11_extend_9 (by decide) ?_
  refine cw_ialdL (j := 0) 1 (show 1 < 11 by decide) rfl 0 rfl dX11_extend_10 rfl (by decide) (by decide) ?_
  refine cw_icmp_gt (tgt := 124) dX11_extend_11 (by decide) (fun q => ?_) (fun q => ?_)
  · have h := h.1 q
    exact cw_vret rfl dX11_extend_124 h
  · have h := h.2 q
    refine cw_aload_n dX11_extend_14 0 rfl rfl ?_
    refine cw_getf (C := RX11) (T := TX11) (N := 20) (ci := 9) inX11_extend_RX11 0 (show 0 < 11 by decide) rfl rfl 13 (by decide) (by decide +kernel) rfl dX11_extend_15 ?_
    refine cw_iload_n dX11_extend_18 2 rfl rfl ?_
    refine cw_bipush (v := 25) dX11_extend_19 (by decide) ?_
    refine cw_imul dX11_extend_21 ?_
    refine cw_iload dX11_extend_22 4 rfl ?_
    refine cw_iadd dX11_extend_24 ?_
    obtain ⟨g_25, h⟩ := h
    refine cw_iald 8 (show 8 < 11 by decide) rfl 0 rfl dX11_extend_25 g_25 ?_
    refine cw_istore dX11_extend_26 (by decide) rfl ?_
    refine cw_iload dX11_extend_28 0 rfl ?_
    refine cw_iconst (v := (-1)) dX11_extend_30 (by decide) ?_
    refine cw_icmp_ne (tgt := 37) dX11_extend_31 (by decide) (fun q => ?_) (fun q => ?_)
    · have h := h.1 q
      refine cw_iconst (v := 0) dX11_extend_37 (by decide) ?_
      refine cw_istore dX11_extend_38 (by decide) rfl ?_
      refine cw_iload dX11_extend_40 6 rfl ?_
      refine cw_istore dX11_extend_42 (by decide) rfl ?_
      refine cw_sub [3, 4, 5, 6, 7, 2, 1, 0] rfl ?_
      exact h
    · have h := h.2 q
      refine cw_goto (tgt := 118) dX11_extend_34 (by decide) ?_
      refine cw_iinc (v := x4 + 1) dX11_extend_118 (j := 5) rfl rfl (by decide) rfl ?_
      refine cw_goto (tgt := 3) dX11_extend_121 (by decide) ?_
      refine cw_sub [2, 3, 4, 5, 0] rfl ?_
      exact h
set_option maxRecDepth 20000 in
set_option maxHeartbeats 4000000 in
theorem tbX11_extend_0_44 {K : cw_K} {r : Option Value} {J0 I : cw_M} {x1 : Int32} {x2 : Int32} {x3 : Int32} {x4 : Int32} {x5 : Int32} {x6 : Int32} {x7 : Int32} (h : (((I 1 0) < x7 → bX11_extend_0_3 K r J0 x1 x2 x3 (x4 + 1) I) ∧ (¬ (I 1 0) < x7 → ((x7 ≤ x4 → (vp_in ((x1 * 25) + x7) 1600 ∧ (((x5 + x6) ≤ (I 8 ((x1 * 25) + x7).toNatClampNeg) → bX11_extend_0_44 K r J0 x1 x2 x3 x4 x5 x6 (x7 + 1) I) ∧ (¬ (x5 + x6) ≤ (I 8 ((x1 * 25) + x7).toNatClampNeg) → (vp_in ((x1 * 25) + x7) 1600 ∧ bX11_extend_0_44 K r J0 x1 x2 x3 x4 x5 x6 (x7 + 1) (cw_st I 8 ((x1 * 25) + x7).toNatClampNeg (x5 + x6))))))) ∧ (¬ x7 ≤ x4 → (∃ (v_70 : Int32) (J_70 : cw_M), cw_C (cr_w K) mX11_valueOf [.ref (cw_a (cr_w K) 0), .int x3, .int (x7 - 1)] I (some (.int v_70)) J_70 ∧ (vp_in ((x1 * 25) + x7) 1600 ∧ (((x5 + (x6 + v_70)) ≤ (J_70 8 ((x1 * 25) + x7).toNatClampNeg) → bX11_extend_0_44 K r J0 x1 x2 x3 x4 x5 (x6 + v_70) (x7 + 1) J_70) ∧ (¬ (x5 + (x6 + v_70)) ≤ (J_70 8 ((x1 * 25) + x7).toNatClampNeg) → (vp_in ((x1 * 25) + x7) 1600 ∧ bX11_extend_0_44 K r J0 x1 x2 x3 x4 x5 (x6 + v_70) (x7 + 1) (cw_st J_70 8 ((x1 * 25) + x7).toNatClampNeg (x5 + (x6 + v_70))))))))))))) : bX11_extend_0_44 K r J0 x1 x2 x3 x4 x5 x6 x7 I := by
  refine cw_iload dX11_extend_44 7 rfl ?_
  refine cw_aload_n dX11_extend_46 0 rfl rfl ?_
  refine cw_getf (C := RX11) (T := TX11) (N := 20) (ci := 9) inX11_extend_RX11 0 (show 0 < 11 by decide) rfl rfl 0 (by decide) (by decide +kernel) rfl dX11_extend_47 ?_
  refine cw_iconst (v := 0) dX11_extend_50 (by decide) ?_
  refine cw_ialdL (j := 0) 1 (show 1 < 11 by decide) rfl 0 rfl dX11_extend_51 rfl (by decide) (by decide) ?_
  refine cw_icmp_gt (tgt := 118) dX11_extend_52 (by decide) (fun q => ?_) (fun q => ?_)
  · have h := h.1 q
    refine cw_iinc (v := x4 + 1) dX11_extend_118 (j := 4) rfl rfl (by decide) rfl ?_
    refine cw_goto (tgt := 3) dX11_extend_121 (by decide) ?_
    refine cw_sub [1, 2, 3, 4, 0] rfl ?_
    exact h
  · have h := h.2 q
    refine cw_iload dX11_extend_55 7 rfl ?_
    refine cw_iload dX11_extend_57 4 rfl ?_
    refine cw_icmp_le (tgt := 76) dX11_extend_59 (by decide) (fun q => ?_) (fun q => ?_)
    · have h := h.1 q
      refine cw_iload_n dX11_extend_76 1 rfl rfl ?_
      refine cw_bipush (v := 25) dX11_extend_77 (by decide) ?_
      refine cw_imul dX11_extend_79 ?_
      refine cw_iload dX11_extend_80 7 rfl ?_
      refine cw_iadd dX11_extend_82 ?_
      refine cw_istore dX11_extend_83 (by decide) rfl ?_
      refine cw_iload dX11_extend_85 6 rfl ?_
      refine cw_iload dX11_extend_87 7 rfl ?_
      refine cw_iadd dX11_extend_89 ?_
      refine cw_aload_n dX11_extend_90 1 rfl rfl ?_
      refine cw_getf (C := RX11) (T := TX11) (N := 20) (ci := 9) inX11_extend_RX11 0 (show 0 < 11 by decide) rfl rfl 13 (by decide) (by decide +kernel) rfl dX11_extend_91 ?_
      refine cw_iload dX11_extend_94 0 rfl ?_
      obtain ⟨g_96, h⟩ := h
      refine cw_iald 8 (show 8 < 11 by decide) rfl 0 rfl dX11_extend_96 g_96 ?_
      refine cw_icmp_le (tgt := 112) dX11_extend_97 (by decide) (fun q => ?_) (fun q => ?_)
      · have h := h.1 q
        refine cw_iinc (v := x7 + 1) dX11_extend_112 (j := 8) rfl rfl (by decide) rfl ?_
        refine cw_goto (tgt := 44) dX11_extend_115 (by decide) ?_
        refine cw_sub [2, 3, 4, 5, 6, 7, 8, 0] rfl ?_
        exact h
      · have h := h.2 q
        refine cw_aload_n dX11_extend_100 1 rfl rfl ?_
        refine cw_getf (C := RX11) (T := TX11) (N := 20) (ci := 9) inX11_extend_RX11 0 (show 0 < 11 by decide) rfl rfl 13 (by decide) (by decide +kernel) rfl dX11_extend_101 ?_
        refine cw_iload dX11_extend_104 0 rfl ?_
        refine cw_iload dX11_extend_106 6 rfl ?_
        refine cw_iload dX11_extend_108 7 rfl ?_
        refine cw_iadd dX11_extend_110 ?_
        obtain ⟨g_111, h⟩ := h
        refine cw_iast 8 (show 8 < 11 by decide) (fun _ => rfl) 0 rfl dX11_extend_111 g_111 ?_
        refine cw_iinc (v := x7 + 1) dX11_extend_112 (j := 8) rfl rfl (by decide) rfl ?_
        refine cw_goto (tgt := 44) dX11_extend_115 (by decide) ?_
        refine cw_sub [2, 3, 4, 5, 6, 7, 8, 0] rfl ?_
        exact h
    · have h := h.2 q
      refine cw_iload dX11_extend_62 6 rfl ?_
      refine cw_aload_n dX11_extend_64 0 rfl rfl ?_
      refine cw_iload_n dX11_extend_65 3 rfl rfl ?_
      refine cw_iload dX11_extend_66 7 rfl ?_
      refine cw_iconst (v := 1) dX11_extend_68 (by decide) ?_
      refine cw_isub dX11_extend_69 ?_
      obtain ⟨v_70, J_70, hc_70, h⟩ := h
      refine cw_callV (o := 0) (As := [.int x3, .int (x7 - 1)]) hc_70 okX11_valueOf rfl gX11_extend_X11_valueOf (by decide) (show 0 < 11 by decide) rfl (ci := 9) rfl rfl (Nat.le_of_ble_eq_true rfl) dX11_extend_70 ?_
      refine cw_iadd dX11_extend_73 ?_
      refine cw_istore dX11_extend_74 (by decide) rfl ?_
      refine cw_iload_n dX11_extend_76 2 rfl rfl ?_
      refine cw_bipush (v := 25) dX11_extend_77 (by decide) ?_
      refine cw_imul dX11_extend_79 ?_
      refine cw_iload dX11_extend_80 7 rfl ?_
      refine cw_iadd dX11_extend_82 ?_
      refine cw_istore dX11_extend_83 (by decide) rfl ?_
      refine cw_iload dX11_extend_85 7 rfl ?_
      refine cw_iload dX11_extend_87 1 rfl ?_
      refine cw_iadd dX11_extend_89 ?_
      refine cw_aload_n dX11_extend_90 2 rfl rfl ?_
      refine cw_getf (C := RX11) (T := TX11) (N := 20) (ci := 9) inX11_extend_RX11 0 (show 0 < 11 by decide) rfl rfl 13 (by decide) (by decide +kernel) rfl dX11_extend_91 ?_
      refine cw_iload dX11_extend_94 0 rfl ?_
      obtain ⟨g_96, h⟩ := h
      refine cw_iald 8 (show 8 < 11 by decide) rfl 0 rfl dX11_extend_96 g_96 ?_
      refine cw_icmp_le (tgt := 112) dX11_extend_97 (by decide) (fun q => ?_) (fun q => ?_)
      · have h := h.1 q
        refine cw_iinc (v := x7 + 1) dX11_extend_112 (j := 8) rfl rfl (by decide) rfl ?_
        refine cw_goto (tgt := 44) dX11_extend_115 (by decide) ?_
        refine cw_sub [3, 4, 5, 6, 7, 8, 2, 0] rfl ?_
        exact h
      · have h := h.2 q
        refine cw_aload_n dX11_extend_100 2 rfl rfl ?_
        refine cw_getf (C := RX11) (T := TX11) (N := 20) (ci := 9) inX11_extend_RX11 0 (show 0 < 11 by decide) rfl rfl 13 (by decide) (by decide +kernel) rfl dX11_extend_101 ?_
        refine cw_iload dX11_extend_104 0 rfl ?_
        refine cw_iload dX11_extend_106 7 rfl ?_
        refine cw_iload dX11_extend_108 1 rfl ?_
        refine cw_iadd dX11_extend_110 ?_
        obtain ⟨g_111, h⟩ := h
        refine cw_iast 8 (show 8 < 11 by decide) (fun _ => rfl) 0 rfl dX11_extend_111 g_111 ?_
        refine cw_iinc (v := x7 + 1) dX11_extend_112 (j := 8) rfl rfl (by decide) rfl ?_
        refine cw_goto (tgt := 44) dX11_extend_115 (by decide) ?_
        refine cw_sub [3, 4, 5, 6, 7, 8, 2, 0] rfl ?_
        exact h
set_option maxRecDepth 20000 in
set_option maxHeartbeats 4000000 in
theorem eX11_fails_0 {K : cw_K} {r : Option Value} {J0 I : cw_M} {x1 : Int32} {x2 : Int32} {x3 : Int32} (h : ((x1 = 0 → ((x2 = 0 → ((x3 = 0 → ((((cw_st I 0 9 0) 0 9) ≤ 0 → (r = some (.int 0) ∧ J0 = cw_st I 0 9 0)) ∧ (¬ ((cw_st I 0 9 0) 0 9) ≤ 0 → (r = some (.int 1) ∧ J0 = cw_st I 0 9 0)))) ∧ (¬ x3 = 0 → ((((cw_st I 0 9 3) 0 9) ≤ 0 → (r = some (.int 0) ∧ J0 = cw_st I 0 9 3)) ∧ (¬ ((cw_st I 0 9 3) 0 9) ≤ 0 → (r = some (.int 1) ∧ J0 = cw_st I 0 9 3)))))) ∧ (¬ x2 = 0 → ((((cw_st I 0 9 2) 0 9) ≤ 0 → (r = some (.int 0) ∧ J0 = cw_st I 0 9 2)) ∧ (¬ ((cw_st I 0 9 2) 0 9) ≤ 0 → (r = some (.int 1) ∧ J0 = cw_st I 0 9 2)))))) ∧ (¬ x1 = 0 → ((((cw_st I 0 9 1) 0 9) ≤ 0 → (r = some (.int 0) ∧ J0 = cw_st I 0 9 1)) ∧ (¬ ((cw_st I 0 9 1) 0 9) ≤ 0 → (r = some (.int 1) ∧ J0 = cw_st I 0 9 1)))))) : cw_C (cr_w K) mX11_fails [.ref (cw_a (cr_w K) 0), .int x1, .int x2, .int x3] I r J0 := by
  refine cw_entry okX11_fails (Nat.le_of_ble_eq_true rfl) (show cw_B (cr_w K) mX11_fails (cw_Z (cr_w K) r J0) 0 0 I 0 [(0, .ref (cw_a (cr_w K) 0)), (1, .int x1), (2, .int x2), (3, .int x3)] [] from ?_)
  refine cw_aload_n dX11_fails_0 0 rfl rfl ?_
  refine cw_iload_n dX11_fails_1 1 rfl rfl ?_
  refine cw_if_eq (tgt := 9) dX11_fails_2 (by decide) (fun q => ?_) (fun q => ?_)
  · have h := h.1 q
    refine cw_iload_n dX11_fails_9 2 rfl rfl ?_
    refine cw_if_eq (tgt := 17) dX11_fails_10 (by decide) (fun q => ?_) (fun q => ?_)
    · have h := h.1 q
      refine cw_iload_n dX11_fails_17 3 rfl rfl ?_
      refine cw_if_eq (tgt := 25) dX11_fails_18 (by decide) (fun q => ?_) (fun q => ?_)
      · have h := h.1 q
        refine cw_iconst (v := 0) dX11_fails_25 (by decide) ?_
        refine cw_putf (C := RX11) (T := TX11) (N := 20) (ci := 9) inX11_fails_RX11 tyX11 tyX11_ok nmX11 0 (show 0 < 11 by decide) rfl rfl 9 (by decide) (by decide +kernel) rfl rfl (show 9 < 20 by decide) rfl dX11_fails_26 ?_
        refine cw_aload_n dX11_fails_29 0 rfl rfl ?_
        refine cw_getf (C := RX11) (T := TX11) (N := 20) (ci := 9) inX11_fails_RX11 0 (show 0 < 11 by decide) rfl rfl 9 (by decide) (by decide +kernel) rfl dX11_fails_30 ?_
        refine cw_if_le (tgt := 40) dX11_fails_33 (by decide) (fun q => ?_) (fun q => ?_)
        · have h := h.1 q
          refine cw_iconst (v := 0) dX11_fails_40 (by decide) ?_
          exact cw_bret rfl dX11_fails_41 (by decide) h
        · have h := h.2 q
          refine cw_iconst (v := 1) dX11_fails_36 (by decide) ?_
          refine cw_goto (tgt := 41) dX11_fails_37 (by decide) ?_
          exact cw_bret rfl dX11_fails_41 (by decide) h
      · have h := h.2 q
        refine cw_iconst (v := 3) dX11_fails_21 (by decide) ?_
        refine cw_goto (tgt := 26) dX11_fails_22 (by decide) ?_
        refine cw_putf (C := RX11) (T := TX11) (N := 20) (ci := 9) inX11_fails_RX11 tyX11 tyX11_ok nmX11 0 (show 0 < 11 by decide) rfl rfl 9 (by decide) (by decide +kernel) rfl rfl (show 9 < 20 by decide) rfl dX11_fails_26 ?_
        refine cw_aload_n dX11_fails_29 0 rfl rfl ?_
        refine cw_getf (C := RX11) (T := TX11) (N := 20) (ci := 9) inX11_fails_RX11 0 (show 0 < 11 by decide) rfl rfl 9 (by decide) (by decide +kernel) rfl dX11_fails_30 ?_
        refine cw_if_le (tgt := 40) dX11_fails_33 (by decide) (fun q => ?_) (fun q => ?_)
        · have h := h.1 q
          refine cw_iconst (v := 0) dX11_fails_40 (by decide) ?_
          exact cw_bret rfl dX11_fails_41 (by decide) h
        · have h := h.2 q
          refine cw_iconst (v := 1) dX11_fails_36 (by decide) ?_
          refine cw_goto (tgt := 41) dX11_fails_37 (by decide) ?_
          exact cw_bret rfl dX11_fails_41 (by decide) h
    · have h := h.2 q
      refine cw_iconst (v := 2) dX11_fails_13 (by decide) ?_
      refine cw_goto (tgt := 26) dX11_fails_14 (by decide) ?_
      refine cw_putf (C := RX11) (T := TX11) (N := 20) (ci := 9) inX11_fails_RX11 tyX11 tyX11_ok nmX11 0 (show 0 < 11 by decide) rfl rfl 9 (by decide) (by decide +kernel) rfl rfl (show 9 < 20 by decide) rfl dX11_fails_26 ?_
      refine cw_aload_n dX11_fails_29 0 rfl rfl ?_
      refine cw_getf (C := RX11) (T := TX11) (N := 20) (ci := 9) inX11_fails_RX11 0 (show 0 < 11 by decide) rfl rfl 9 (by decide) (by decide +kernel) rfl dX11_fails_30 ?_
      refine cw_if_le (tgt := 40) dX11_fails_33 (by decide) (fun q => ?_) (fun q => ?_)
      · have h := h.1 q
        refine cw_iconst (v := 0) dX11_fails_40 (by decide) ?_
        exact cw_bret rfl dX11_fails_41 (by decide) h
      · have h := h.2 q
        refine cw_iconst (v := 1) dX11_fails_36 (by decide) ?_
        refine cw_goto (tgt := 41) dX11_fails_37 (by decide) ?_
        exact cw_bret rfl dX11_fails_41 (by decide) h
  · have h := h.2 q
    refine cw_iconst (v := 1) dX11_fails_5 (by decide) ?_
    refine cw_goto (tgt := 26) dX11_fails_6 (by decide) ?_
    refine cw_putf (C := RX11) (T := TX11) (N := 20) (ci := 9) inX11_fails_RX11 tyX11 tyX11_ok nmX11 0 (show 0 < 11 by decide) rfl rfl 9 (by decide) (by decide +kernel) rfl rfl (show 9 < 20 by decide) rfl dX11_fails_26 ?_
    refine cw_aload_n dX11_fails_29 0 rfl rfl ?_
    refine cw_getf (C := RX11) (T := TX11) (N := 20) (ci := 9) inX11_fails_RX11 0 (show 0 < 11 by decide) rfl rfl 9 (by decide) (by decide +kernel) rfl dX11_fails_30 ?_
    refine cw_if_le (tgt := 40) dX11_fails_33 (by decide) (fun q => ?_) (fun q => ?_)
    · have h := h.1 q
      refine cw_iconst (v := 0) dX11_fails_40 (by decide) ?_
      exact cw_bret rfl dX11_fails_41 (by decide) h
    · have h := h.2 q
      refine cw_iconst (v := 1) dX11_fails_36 (by decide) ?_
      refine cw_goto (tgt := 41) dX11_fails_37 (by decide) ?_
      exact cw_bret rfl dX11_fails_41 (by decide) h
abbrev bX11_favourite_0_4 (K : cw_K) (r : Option Value) (J0 : cw_M) (x1 : Int32) (x2 : Int32) (x3 : Int32) (I : cw_M) : Prop := cw_B (cr_w K) mX11_favourite (cw_Z (cr_w K) r J0) 0 0 I 4 [(0, .ref (cw_a (cr_w K) 0)), (1, .int x1), (2, .int x2), (3, .int x3)] []
set_option maxRecDepth 20000 in
set_option maxHeartbeats 4000000 in
theorem eX11_favourite_0 {K : cw_K} {r : Option Value} {J0 I : cw_M} {x1 : Int32} (h : bX11_favourite_0_4 K r J0 x1 (-1) 0 I) : cw_C (cr_w K) mX11_favourite [.ref (cw_a (cr_w K) 0), .int x1] I r J0 := by
  refine cw_entry okX11_favourite (Nat.le_of_ble_eq_true rfl) (show cw_B (cr_w K) mX11_favourite (cw_Z (cr_w K) r J0) 0 0 I 0 [(0, .ref (cw_a (cr_w K) 0)), (1, .int x1)] [] from ?_)
  refine cw_iconst (v := (-1)) dX11_favourite_0 (by decide) ?_
  refine cw_istore_n dX11_favourite_1 rfl (by decide) rfl ?_
  refine cw_iconst (v := 0) dX11_favourite_2 (by decide) ?_
  refine cw_istore_n dX11_favourite_3 rfl (by decide) rfl ?_
  refine cw_sub [2, 3, 1, 0] rfl ?_
  exact h
set_option maxRecDepth 20000 in
set_option maxHeartbeats 4000000 in
theorem tbX11_favourite_0_4 {K : cw_K} {r : Option Value} {J0 I : cw_M} {x1 : Int32} {x2 : Int32} {x3 : Int32} (h : (((I 1 0) ≤ x3 → (r = some (.int x2) ∧ J0 = I)) ∧ (¬ (I 1 0) ≤ x3 → (∃ (v_16 : Int32) (J_16 : cw_M), cw_C (cr_w K) mX11_ownerOf [.ref (cw_a (cr_w K) 0), .int x3] I (some (.int v_16)) J_16 ∧ ((¬ v_16 = (-1) → bX11_favourite_0_4 K r J0 x1 x2 (x3 + 1) J_16) ∧ (v_16 = (-1) → ((x2 = (-1) → bX11_favourite_0_4 K r J0 x1 x3 (x3 + 1) J_16) ∧ (¬ x2 = (-1) → (∃ (v_31 : Int32) (J_31 : cw_M), cw_C (cr_w K) mX11_valueOf [.ref (cw_a (cr_w K) 0), .int x1, .int x3] J_16 (some (.int v_31)) J_31 ∧ (∃ (v_37 : Int32) (J_37 : cw_M), cw_C (cr_w K) mX11_valueOf [.ref (cw_a (cr_w K) 0), .int x1, .int x2] J_31 (some (.int v_37)) J_37 ∧ ((v_31 ≤ v_37 → bX11_favourite_0_4 K r J0 x1 x2 (x3 + 1) J_37) ∧ (¬ v_31 ≤ v_37 → bX11_favourite_0_4 K r J0 x1 x3 (x3 + 1) J_37)))))))))))) : bX11_favourite_0_4 K r J0 x1 x2 x3 I := by
  refine cw_iload_n dX11_favourite_4 3 rfl rfl ?_
  refine cw_aload_n dX11_favourite_5 0 rfl rfl ?_
  refine cw_getf (C := RX11) (T := TX11) (N := 20) (ci := 9) inX11_favourite_RX11 0 (show 0 < 11 by decide) rfl rfl 0 (by decide) (by decide +kernel) rfl dX11_favourite_6 ?_
  refine cw_iconst (v := 0) dX11_favourite_9 (by decide) ?_
  refine cw_ialdL (j := 0) 1 (show 1 < 11 by decide) rfl 0 rfl dX11_favourite_10 rfl (by decide) (by decide) ?_
  refine cw_icmp_ge (tgt := 51) dX11_favourite_11 (by decide) (fun q => ?_) (fun q => ?_)
  · have h := h.1 q
    refine cw_iload_n dX11_favourite_51 2 rfl rfl ?_
    exact cw_iret rfl dX11_favourite_52 h
  · have h := h.2 q
    refine cw_aload_n dX11_favourite_14 0 rfl rfl ?_
    refine cw_iload_n dX11_favourite_15 3 rfl rfl ?_
    obtain ⟨v_16, J_16, hc_16, h⟩ := h
    refine cw_callV (o := 0) (As := [.int x3]) hc_16 okX11_ownerOf rfl gX11_favourite_X11_ownerOf (by decide) (show 0 < 11 by decide) rfl (ci := 9) rfl rfl (Nat.le_of_ble_eq_true rfl) dX11_favourite_16 ?_
    refine cw_iconst (v := (-1)) dX11_favourite_19 (by decide) ?_
    refine cw_icmp_ne (tgt := 45) dX11_favourite_20 (by decide) (fun q => ?_) (fun q => ?_)
    · have h := h.1 q
      refine cw_iinc (v := x3 + 1) dX11_favourite_45 (j := 3) rfl rfl (by decide) rfl ?_
      refine cw_goto (tgt := 4) dX11_favourite_48 (by decide) ?_
      refine cw_sub [1, 2, 3, 0] rfl ?_
      exact h
    · have h := h.2 q
      refine cw_iload_n dX11_favourite_23 2 rfl rfl ?_
      refine cw_iconst (v := (-1)) dX11_favourite_24 (by decide) ?_
      refine cw_icmp_eq (tgt := 43) dX11_favourite_25 (by decide) (fun q => ?_) (fun q => ?_)
      · have h := h.1 q
        refine cw_iload_n dX11_favourite_43 3 rfl rfl ?_
        refine cw_istore_n dX11_favourite_44 rfl (by decide) rfl ?_
        refine cw_iinc (v := x3 + 1) dX11_favourite_45 (j := 3) rfl rfl (by decide) rfl ?_
        refine cw_goto (tgt := 4) dX11_favourite_48 (by decide) ?_
        refine cw_sub [2, 3, 1, 0] rfl ?_
        exact h
      · have h := h.2 q
        refine cw_aload_n dX11_favourite_28 0 rfl rfl ?_
        refine cw_iload_n dX11_favourite_29 1 rfl rfl ?_
        refine cw_iload_n dX11_favourite_30 3 rfl rfl ?_
        obtain ⟨v_31, J_31, hc_31, h⟩ := h
        refine cw_callV (o := 0) (As := [.int x1, .int x3]) hc_31 okX11_valueOf rfl gX11_favourite_X11_valueOf (by decide) (show 0 < 11 by decide) rfl (ci := 9) rfl rfl (Nat.le_of_ble_eq_true rfl) dX11_favourite_31 ?_
        refine cw_aload_n dX11_favourite_34 0 rfl rfl ?_
        refine cw_iload_n dX11_favourite_35 1 rfl rfl ?_
        refine cw_iload_n dX11_favourite_36 2 rfl rfl ?_
        obtain ⟨v_37, J_37, hc_37, h⟩ := h
        refine cw_callV (o := 0) (As := [.int x1, .int x2]) hc_37 okX11_valueOf rfl gX11_favourite_X11_valueOf (by decide) (show 0 < 11 by decide) rfl (ci := 9) rfl rfl (Nat.le_of_ble_eq_true rfl) dX11_favourite_37 ?_
        refine cw_icmp_le (tgt := 45) dX11_favourite_40 (by decide) (fun q => ?_) (fun q => ?_)
        · have h := h.1 q
          refine cw_iinc (v := x3 + 1) dX11_favourite_45 (j := 3) rfl rfl (by decide) rfl ?_
          refine cw_goto (tgt := 4) dX11_favourite_48 (by decide) ?_
          refine cw_sub [1, 2, 3, 0] rfl ?_
          exact h
        · have h := h.2 q
          refine cw_iload_n dX11_favourite_43 3 rfl rfl ?_
          refine cw_istore_n dX11_favourite_44 rfl (by decide) rfl ?_
          refine cw_iinc (v := x3 + 1) dX11_favourite_45 (j := 3) rfl rfl (by decide) rfl ?_
          refine cw_goto (tgt := 4) dX11_favourite_48 (by decide) ?_
          refine cw_sub [2, 3, 1, 0] rfl ?_
          exact h
set_option maxRecDepth 20000 in
set_option maxHeartbeats 4000000 in
theorem eX11_favouriteFreeCell_0 {K : cw_K} {r : Option Value} {J0 I : cw_M} {x1 : Int32} (h : (∃ (v_3 : Int32) (J_3 : cw_M), cw_C (cr_w K) mX11_isSibling [.ref (cw_a (cr_w K) 0), .int x1] I (some (.int v_3)) J_3 ∧ ((¬ v_3 = 0 → (∃ (v_16 : Int32) (J_16 : cw_M), cw_C (cr_w K) mX11_fails [.ref (cw_a (cr_w K) 0), .int 0, .int 0, .int 0] J_3 (some (.int v_16)) J_16 ∧ ((v_16 = 0 → (∃ (v_26 : Int32) (J_26 : cw_M), cw_C (cr_w K) mX11_favourite [.ref (cw_a (cr_w K) 0), .int x1] J_16 (some (.int v_26)) J_26 ∧ (r = some (.int v_26) ∧ J0 = J_26))) ∧ (¬ v_16 = 0 → (r = some (.int 0) ∧ J0 = J_16))))) ∧ (v_3 = 0 → (∃ (v_16 : Int32) (J_16 : cw_M), cw_C (cr_w K) mX11_fails [.ref (cw_a (cr_w K) 0), .int 1, .int 0, .int 0] J_3 (some (.int v_16)) J_16 ∧ ((v_16 = 0 → (∃ (v_26 : Int32) (J_26 : cw_M), cw_C (cr_w K) mX11_favourite [.ref (cw_a (cr_w K) 0), .int x1] J_16 (some (.int v_26)) J_26 ∧ (r = some (.int v_26) ∧ J0 = J_26))) ∧ (¬ v_16 = 0 → (r = some (.int 0) ∧ J0 = J_16)))))))) : cw_C (cr_w K) mX11_favouriteFreeCell [.ref (cw_a (cr_w K) 0), .int x1] I r J0 := by
  refine cw_entry okX11_favouriteFreeCell (Nat.le_of_ble_eq_true rfl) (show cw_B (cr_w K) mX11_favouriteFreeCell (cw_Z (cr_w K) r J0) 0 0 I 0 [(0, .ref (cw_a (cr_w K) 0)), (1, .int x1)] [] from ?_)
  refine cw_aload_n dX11_favouriteFreeCell_0 0 rfl rfl ?_
  refine cw_aload_n dX11_favouriteFreeCell_1 0 rfl rfl ?_
  refine cw_iload_n dX11_favouriteFreeCell_2 1 rfl rfl ?_
  obtain ⟨v_3, J_3, hc_3, h⟩ := h
  refine cw_callV (o := 0) (As := [.int x1]) hc_3 okX11_isSibling rfl gX11_favouriteFreeCell_X11_isSibling (by decide) (show 0 < 11 by decide) rfl (ci := 9) rfl rfl (Nat.le_of_ble_eq_true rfl) dX11_favouriteFreeCell_3 ?_
  refine cw_if_ne (tgt := 13) dX11_favouriteFreeCell_6 (by decide) (fun q => ?_) (fun q => ?_)
  · have h := h.1 q
    refine cw_iconst (v := 0) dX11_favouriteFreeCell_13 (by decide) ?_
    refine cw_iconst (v := 0) dX11_favouriteFreeCell_14 (by decide) ?_
    refine cw_iconst (v := 0) dX11_favouriteFreeCell_15 (by decide) ?_
    obtain ⟨v_16, J_16, hc_16, h⟩ := h
    refine cw_callV (o := 0) (As := [.int 0, .int 0, .int 0]) hc_16 okX11_fails rfl gX11_favouriteFreeCell_X11_fails (by decide) (show 0 < 11 by decide) rfl (ci := 9) rfl rfl (Nat.le_of_ble_eq_true rfl) dX11_favouriteFreeCell_16 ?_
    refine cw_if_eq (tgt := 24) dX11_favouriteFreeCell_19 (by decide) (fun q => ?_) (fun q => ?_)
    · have h := h.1 q
      refine cw_aload_n dX11_favouriteFreeCell_24 0 rfl rfl ?_
      refine cw_iload_n dX11_favouriteFreeCell_25 1 rfl rfl ?_
      obtain ⟨v_26, J_26, hc_26, h⟩ := h
      refine cw_callV (o := 0) (As := [.int x1]) hc_26 okX11_favourite rfl gX11_favouriteFreeCell_X11_favourite (by decide) (show 0 < 11 by decide) rfl (ci := 9) rfl rfl (Nat.le_of_ble_eq_true rfl) dX11_favouriteFreeCell_26 ?_
      exact cw_iret rfl dX11_favouriteFreeCell_29 h
    · have h := h.2 q
      refine cw_iconst (v := 0) dX11_favouriteFreeCell_22 (by decide) ?_
      exact cw_iret rfl dX11_favouriteFreeCell_23 h
  · have h := h.2 q
    refine cw_iconst (v := 1) dX11_favouriteFreeCell_9 (by decide) ?_
    refine cw_goto (tgt := 14) dX11_favouriteFreeCell_10 (by decide) ?_
    refine cw_iconst (v := 0) dX11_favouriteFreeCell_14 (by decide) ?_
    refine cw_iconst (v := 0) dX11_favouriteFreeCell_15 (by decide) ?_
    obtain ⟨v_16, J_16, hc_16, h⟩ := h
    refine cw_callV (o := 0) (As := [.int 1, .int 0, .int 0]) hc_16 okX11_fails rfl gX11_favouriteFreeCell_X11_fails (by decide) (show 0 < 11 by decide) rfl (ci := 9) rfl rfl (Nat.le_of_ble_eq_true rfl) dX11_favouriteFreeCell_16 ?_
    refine cw_if_eq (tgt := 24) dX11_favouriteFreeCell_19 (by decide) (fun q => ?_) (fun q => ?_)
    · have h := h.1 q
      refine cw_aload_n dX11_favouriteFreeCell_24 0 rfl rfl ?_
      refine cw_iload_n dX11_favouriteFreeCell_25 1 rfl rfl ?_
      obtain ⟨v_26, J_26, hc_26, h⟩ := h
      refine cw_callV (o := 0) (As := [.int x1]) hc_26 okX11_favourite rfl gX11_favouriteFreeCell_X11_favourite (by decide) (show 0 < 11 by decide) rfl (ci := 9) rfl rfl (Nat.le_of_ble_eq_true rfl) dX11_favouriteFreeCell_26 ?_
      exact cw_iret rfl dX11_favouriteFreeCell_29 h
    · have h := h.2 q
      refine cw_iconst (v := 0) dX11_favouriteFreeCell_22 (by decide) ?_
      exact cw_iret rfl dX11_favouriteFreeCell_23 h
abbrev bX11_findCycle_0_28 (K : cw_K) (r : Option Value) (J0 : cw_M) (x1 : Int32) (x2 : Int32) (x3 : Int32) (I : cw_M) : Prop := cw_B (cr_w K) mX11_findCycle (cw_Z (cr_w K) r J0) 0 0 I 28 [(0, .ref (cw_a (cr_w K) 0)), (1, .int x1), (2, .int x2), (3, .int x3)] []
abbrev bX11_findCycle_0_36 (K : cw_K) (r : Option Value) (J0 : cw_M) (x1 : Int32) (x2 : Int32) (x3 : Int32) (x4 : Int32) (I : cw_M) : Prop := cw_B (cr_w K) mX11_findCycle (cw_Z (cr_w K) r J0) 0 0 I 36 [(0, .ref (cw_a (cr_w K) 0)), (1, .int x1), (2, .int x2), (3, .int x3), (4, .int x4)] []
set_option maxRecDepth 20000 in
set_option maxHeartbeats 4000000 in
theorem eX11_findCycle_0 {K : cw_K} {r : Option Value} {J0 I : cw_M} {x1 : Int32} (h : (∃ J_2 : cw_M, cw_C (cr_w K) mX11_walkTo [.ref (cw_a (cr_w K) 0), .int x1] I none J_2 ∧ (vp_in x1 6 ∧ ((¬ (J_2 5 x1.toNatClampNeg) = (-1) → bX11_findCycle_0_28 K r J0 x1 (J_2 5 x1.toNatClampNeg) 1 (cw_st J_2 6 0 x1)) ∧ ((J_2 5 x1.toNatClampNeg) = (-1) → (r = some (.int (-1)) ∧ J0 = J_2)))))) : cw_C (cr_w K) mX11_findCycle [.ref (cw_a (cr_w K) 0), .int x1] I r J0 := by
  refine cw_entry okX11_findCycle (Nat.le_of_ble_eq_true rfl) (show cw_B (cr_w K) mX11_findCycle (cw_Z (cr_w K) r J0) 0 0 I 0 [(0, .ref (cw_a (cr_w K) 0)), (1, .int x1)] [] from ?_)
  refine cw_aload_n dX11_findCycle_0 0 rfl rfl ?_
  refine cw_iload_n dX11_findCycle_1 1 rfl rfl ?_
  obtain ⟨J_2, hc_2, h⟩ := h
  refine cw_callV (o := 0) (As := [.int x1]) hc_2 okX11_walkTo rfl gX11_findCycle_X11_walkTo (by decide) (show 0 < 11 by decide) rfl (ci := 9) rfl rfl (Nat.le_of_ble_eq_true rfl) dX11_findCycle_2 ?_
  refine cw_aload_n dX11_findCycle_5 0 rfl rfl ?_
  refine cw_getf (C := RX11) (T := TX11) (N := 20) (ci := 9) inX11_findCycle_RX11 0 (show 0 < 11 by decide) rfl rfl 10 (by decide) (by decide +kernel) rfl dX11_findCycle_6 ?_
  refine cw_iload_n dX11_findCycle_9 1 rfl rfl ?_
  obtain ⟨g_10, h⟩ := h
  refine cw_iald 5 (show 5 < 11 by decide) rfl 0 rfl dX11_findCycle_10 g_10 ?_
  refine cw_istore_n dX11_findCycle_11 rfl (by decide) rfl ?_
  refine cw_iload_n dX11_findCycle_12 0 rfl rfl ?_
  refine cw_iconst (v := (-1)) dX11_findCycle_13 (by decide) ?_
  refine cw_icmp_ne (tgt := 19) dX11_findCycle_14 (by decide) (fun q => ?_) (fun q => ?_)
  · have h := h.1 q
    refine cw_aload_n dX11_findCycle_19 1 rfl rfl ?_
    refine cw_getf (C := RX11) (T := TX11) (N := 20) (ci := 9) inX11_findCycle_RX11 0 (show 0 < 11 by decide) rfl rfl 11 (by decide) (by decide +kernel) rfl dX11_findCycle_20 ?_
    refine cw_iconst (v := 0) dX11_findCycle_23 (by decide) ?_
    refine cw_iload_n dX11_findCycle_24 2 rfl rfl ?_
    refine cw_iastL (j := 0) 6 (show 6 < 11 by decide) (fun _ => rfl) 0 rfl dX11_findCycle_25 rfl (by decide) (by decide) ?_
    refine cw_iconst (v := 1) dX11_findCycle_26 (by decide) ?_
    refine cw_istore_n dX11_findCycle_27 rfl (by decide) rfl ?_
    refine cw_sub [2, 3, 1, 0] rfl ?_
    exact h
  · have h := h.2 q
    refine cw_iconst (v := (-1)) dX11_findCycle_17 (by decide) ?_
    exact cw_iret rfl dX11_findCycle_18 h
set_option maxRecDepth 20000 in
set_option maxHeartbeats 4000000 in
theorem tbX11_findCycle_0_28 {K : cw_K} {r : Option Value} {J0 I : cw_M} {x1 : Int32} {x2 : Int32} {x3 : Int32} (h : ((x2 ≤ x3 → (r = some (.int x2) ∧ J0 = I)) ∧ (¬ x2 ≤ x3 → bX11_findCycle_0_36 K r J0 x1 x2 x3 0 I))) : bX11_findCycle_0_28 K r J0 x1 x2 x3 I := by
  refine cw_iload_n dX11_findCycle_28 3 rfl rfl ?_
  refine cw_iload_n dX11_findCycle_29 2 rfl rfl ?_
  refine cw_icmp_ge (tgt := 92) dX11_findCycle_30 (by decide) (fun q => ?_) (fun q => ?_)
  · have h := h.1 q
    refine cw_iload_n dX11_findCycle_92 2 rfl rfl ?_
    exact cw_iret rfl dX11_findCycle_93 h
  · have h := h.2 q
    refine cw_iconst (v := 0) dX11_findCycle_33 (by decide) ?_
    refine cw_istore dX11_findCycle_34 (by decide) rfl ?_
    refine cw_sub [1, 2, 3, 4, 0] rfl ?_
    exact h
set_option maxRecDepth 20000 in
set_option maxHeartbeats 4000000 in
theorem tbX11_findCycle_0_36 {K : cw_K} {r : Option Value} {J0 I : cw_M} {x1 : Int32} {x2 : Int32} {x3 : Int32} {x4 : Int32} (h : ((x4 = x1 → bX11_findCycle_0_36 K r J0 x1 x2 x3 (x4 + 1) I) ∧ (¬ x4 = x1 → (vp_in x4 6 ∧ ((¬ (I 5 x4.toNatClampNeg) = (x2 - x3) → bX11_findCycle_0_36 K r J0 x1 x2 x3 (x4 + 1) I) ∧ ((I 5 x4.toNatClampNeg) = (x2 - x3) → (vp_in (x3 - 1) 6 ∧ (∃ (v_66 : Int32) (J_66 : cw_M), cw_C (cr_w K) mX11_hasEnvy [.ref (cw_a (cr_w K) 0), .int (I 6 (x3 - 1).toNatClampNeg), .int x4] I (some (.int v_66)) J_66 ∧ ((¬ v_66 = 0 → (vp_in x3 6 ∧ bX11_findCycle_0_28 K r J0 x1 x2 (x3 + 1) (cw_st J_66 6 x3.toNatClampNeg x4))) ∧ (v_66 = 0 → bX11_findCycle_0_36 K r J0 x1 x2 x3 (x4 + 1) J_66)))))))))) : bX11_findCycle_0_36 K r J0 x1 x2 x3 x4 I := by
  refine cw_iload dX11_findCycle_36 4 rfl ?_
  refine cw_iload_n dX11_findCycle_38 1 rfl rfl ?_
  refine cw_icmp_eq (tgt := 72) dX11_findCycle_39 (by decide) (fun q => ?_) (fun q => ?_)
  · have h := h.1 q
    refine cw_iinc (v := x4 + 1) dX11_findCycle_72 (j := 4) rfl rfl (by decide) rfl ?_
    refine cw_goto (tgt := 36) dX11_findCycle_75 (by decide) ?_
    refine cw_sub [1, 2, 3, 4, 0] rfl ?_
    exact h
  · have h := h.2 q
    refine cw_aload_n dX11_findCycle_42 0 rfl rfl ?_
    refine cw_getf (C := RX11) (T := TX11) (N := 20) (ci := 9) inX11_findCycle_RX11 0 (show 0 < 11 by decide) rfl rfl 10 (by decide) (by decide +kernel) rfl dX11_findCycle_43 ?_
    refine cw_iload dX11_findCycle_46 4 rfl ?_
    obtain ⟨g_48, h⟩ := h
    refine cw_iald 5 (show 5 < 11 by decide) rfl 0 rfl dX11_findCycle_48 g_48 ?_
    refine cw_iload_n dX11_findCycle_49 2 rfl rfl ?_
    refine cw_iload_n dX11_findCycle_50 3 rfl rfl ?_
    refine cw_isub dX11_findCycle_51 ?_
    refine cw_icmp_ne (tgt := 72) dX11_findCycle_52 (by decide) (fun q => ?_) (fun q => ?_)
    · have h := h.1 q
      refine cw_iinc (v := x4 + 1) dX11_findCycle_72 (j := 4) rfl rfl (by decide) rfl ?_
      refine cw_goto (tgt := 36) dX11_findCycle_75 (by decide) ?_
      refine cw_sub [1, 2, 3, 4, 0] rfl ?_
      exact h
    · have h := h.2 q
      refine cw_aload_n dX11_findCycle_55 0 rfl rfl ?_
      refine cw_aload_n dX11_findCycle_56 0 rfl rfl ?_
      refine cw_getf (C := RX11) (T := TX11) (N := 20) (ci := 9) inX11_findCycle_RX11 0 (show 0 < 11 by decide) rfl rfl 11 (by decide) (by decide +kernel) rfl dX11_findCycle_57 ?_
      refine cw_iload_n dX11_findCycle_60 3 rfl rfl ?_
      refine cw_iconst (v := 1) dX11_findCycle_61 (by decide) ?_
      refine cw_isub dX11_findCycle_62 ?_
      obtain ⟨g_63, h⟩ := h
      refine cw_iald 6 (show 6 < 11 by decide) rfl 0 rfl dX11_findCycle_63 g_63 ?_
      refine cw_iload dX11_findCycle_64 4 rfl ?_
      obtain ⟨v_66, J_66, hc_66, h⟩ := h
      refine cw_callV (o := 0) (As := [.int (I 6 (x3 - 1).toNatClampNeg), .int x4]) hc_66 okX11_hasEnvy rfl gX11_findCycle_X11_hasEnvy (by decide) (show 0 < 11 by decide) rfl (ci := 9) rfl rfl (Nat.le_of_ble_eq_true rfl) dX11_findCycle_66 ?_
      refine cw_if_ne (tgt := 78) dX11_findCycle_69 (by decide) (fun q => ?_) (fun q => ?_)
      · have h := h.1 q
        refine cw_aload_n dX11_findCycle_78 0 rfl rfl ?_
        refine cw_getf (C := RX11) (T := TX11) (N := 20) (ci := 9) inX11_findCycle_RX11 0 (show 0 < 11 by decide) rfl rfl 11 (by decide) (by decide +kernel) rfl dX11_findCycle_79 ?_
        refine cw_iload_n dX11_findCycle_82 3 rfl rfl ?_
        refine cw_iload dX11_findCycle_83 4 rfl ?_
        obtain ⟨g_85, h⟩ := h
        refine cw_iast 6 (show 6 < 11 by decide) (fun _ => rfl) 0 rfl dX11_findCycle_85 g_85 ?_
        refine cw_iinc (v := x3 + 1) dX11_findCycle_86 (j := 3) rfl rfl (by decide) rfl ?_
        refine cw_goto (tgt := 28) dX11_findCycle_89 (by decide) ?_
        refine cw_sub [1, 2, 3, 0] rfl ?_
        exact h
      · have h := h.2 q
        refine cw_iinc (v := x4 + 1) dX11_findCycle_72 (j := 4) rfl rfl (by decide) rfl ?_
        refine cw_goto (tgt := 36) dX11_findCycle_75 (by decide) ?_
        refine cw_sub [1, 2, 3, 4, 0] rfl ?_
        exact h
set_option maxRecDepth 20000 in
set_option maxHeartbeats 4000000 in
theorem eX11_findSibling_0 {K : cw_K} {r : Option Value} {J0 I : cw_M} (h : (∃ (v_6 : Int32) (J_6 : cw_M), cw_C (cr_w K) mX11_siblingNamed [.ref (cw_a (cr_w K) 0), .int 0, .int (I 0 4)] I (some (.int v_6)) J_6 ∧ ((¬ v_6 = (-1) → (∃ (v_23 : Int32) (J_23 : cw_M), cw_C (cr_w K) mX11_fails [.ref (cw_a (cr_w K) 0), .int 0, .int 0, .int 0] J_6 (some (.int v_23)) J_23 ∧ ((v_23 = 0 → (r = some (.int v_6) ∧ J0 = J_23)) ∧ (¬ v_23 = 0 → (r = some (.int 0) ∧ J0 = J_23))))) ∧ (v_6 = (-1) → (∃ (v_23 : Int32) (J_23 : cw_M), cw_C (cr_w K) mX11_fails [.ref (cw_a (cr_w K) 0), .int 1, .int 0, .int 0] J_6 (some (.int v_23)) J_23 ∧ ((v_23 = 0 → (r = some (.int v_6) ∧ J0 = J_23)) ∧ (¬ v_23 = 0 → (r = some (.int 0) ∧ J0 = J_23)))))))) : cw_C (cr_w K) mX11_findSibling [.ref (cw_a (cr_w K) 0)] I r J0 := by
  refine cw_entry okX11_findSibling (Nat.le_of_ble_eq_true rfl) (show cw_B (cr_w K) mX11_findSibling (cw_Z (cr_w K) r J0) 0 0 I 0 [(0, .ref (cw_a (cr_w K) 0))] [] from ?_)
  refine cw_aload_n dX11_findSibling_0 0 rfl rfl ?_
  refine cw_iconst (v := 0) dX11_findSibling_1 (by decide) ?_
  refine cw_aload_n dX11_findSibling_2 0 rfl rfl ?_
  refine cw_getf (C := RX11) (T := TX11) (N := 20) (ci := 9) inX11_findSibling_RX11 0 (show 0 < 11 by decide) rfl rfl 4 (by decide) (by decide +kernel) rfl dX11_findSibling_3 ?_
  obtain ⟨v_6, J_6, hc_6, h⟩ := h
  refine cw_callV (o := 0) (As := [.int 0, .int (I 0 4)]) hc_6 okX11_siblingNamed rfl gX11_findSibling_X11_siblingNamed (by decide) (show 0 < 11 by decide) rfl (ci := 9) rfl rfl (Nat.le_of_ble_eq_true rfl) dX11_findSibling_6 ?_
  refine cw_istore_n dX11_findSibling_9 rfl (by decide) rfl ?_
  refine cw_aload_n dX11_findSibling_10 1 rfl rfl ?_
  refine cw_iload_n dX11_findSibling_11 0 rfl rfl ?_
  refine cw_iconst (v := (-1)) dX11_findSibling_12 (by decide) ?_
  refine cw_icmp_ne (tgt := 20) dX11_findSibling_13 (by decide) (fun q => ?_) (fun q => ?_)
  · have h := h.1 q
    refine cw_iconst (v := 0) dX11_findSibling_20 (by decide) ?_
    refine cw_iconst (v := 0) dX11_findSibling_21 (by decide) ?_
    refine cw_iconst (v := 0) dX11_findSibling_22 (by decide) ?_
    obtain ⟨v_23, J_23, hc_23, h⟩ := h
    refine cw_callV (o := 0) (As := [.int 0, .int 0, .int 0]) hc_23 okX11_fails rfl gX11_findSibling_X11_fails (by decide) (show 0 < 11 by decide) rfl (ci := 9) rfl rfl (Nat.le_of_ble_eq_true rfl) dX11_findSibling_23 ?_
    refine cw_if_eq (tgt := 31) dX11_findSibling_26 (by decide) (fun q => ?_) (fun q => ?_)
    · have h := h.1 q
      refine cw_iload_n dX11_findSibling_31 0 rfl rfl ?_
      exact cw_iret rfl dX11_findSibling_32 h
    · have h := h.2 q
      refine cw_iconst (v := 0) dX11_findSibling_29 (by decide) ?_
      exact cw_iret rfl dX11_findSibling_30 h
  · have h := h.2 q
    refine cw_iconst (v := 1) dX11_findSibling_16 (by decide) ?_
    refine cw_goto (tgt := 21) dX11_findSibling_17 (by decide) ?_
    refine cw_iconst (v := 0) dX11_findSibling_21 (by decide) ?_
    refine cw_iconst (v := 0) dX11_findSibling_22 (by decide) ?_
    obtain ⟨v_23, J_23, hc_23, h⟩ := h
    refine cw_callV (o := 0) (As := [.int 1, .int 0, .int 0]) hc_23 okX11_fails rfl gX11_findSibling_X11_fails (by decide) (show 0 < 11 by decide) rfl (ci := 9) rfl rfl (Nat.le_of_ble_eq_true rfl) dX11_findSibling_23 ?_
    refine cw_if_eq (tgt := 31) dX11_findSibling_26 (by decide) (fun q => ?_) (fun q => ?_)
    · have h := h.1 q
      refine cw_iload_n dX11_findSibling_31 0 rfl rfl ?_
      exact cw_iret rfl dX11_findSibling_32 h
    · have h := h.2 q
      refine cw_iconst (v := 0) dX11_findSibling_29 (by decide) ?_
      exact cw_iret rfl dX11_findSibling_30 h
set_option maxRecDepth 20000 in
set_option maxHeartbeats 4000000 in
theorem eX11_freeCount_0 {K : cw_K} {r : Option Value} {J0 I : cw_M} (h : (∃ (v_3 : Int32) (J_3 : cw_M), cw_C (cr_w K) mX11_sizeOf [.ref (cw_a (cr_w K) 0), .int (-1)] I (some (.int v_3)) J_3 ∧ (∃ (v_6 : Int32) (J_6 : cw_M), cw_C (cr_w K) mX11_plain [.ref (cw_a (cr_w K) 0), .int v_3] J_3 (some (.int v_6)) J_6 ∧ (r = some (.int v_6) ∧ J0 = J_6)))) : cw_C (cr_w K) mX11_freeCount [.ref (cw_a (cr_w K) 0)] I r J0 := by
  refine cw_entry okX11_freeCount (Nat.le_of_ble_eq_true rfl) (show cw_B (cr_w K) mX11_freeCount (cw_Z (cr_w K) r J0) 0 0 I 0 [(0, .ref (cw_a (cr_w K) 0))] [] from ?_)
  refine cw_aload_n dX11_freeCount_0 0 rfl rfl ?_
  refine cw_aload_n dX11_freeCount_1 0 rfl rfl ?_
  refine cw_iconst (v := (-1)) dX11_freeCount_2 (by decide) ?_
  obtain ⟨v_3, J_3, hc_3, h⟩ := h
  refine cw_callV (o := 0) (As := [.int (-1)]) hc_3 okX11_sizeOf rfl gX11_freeCount_X11_sizeOf (by decide) (show 0 < 11 by decide) rfl (ci := 9) rfl rfl (Nat.le_of_ble_eq_true rfl) dX11_freeCount_3 ?_
  obtain ⟨v_6, J_6, hc_6, h⟩ := h
  refine cw_callV (o := 0) (As := [.int v_3]) hc_6 okX11_plain rfl gX11_freeCount_X11_plain (by decide) (show 0 < 11 by decide) rfl (ci := 9) rfl rfl (Nat.le_of_ble_eq_true rfl) dX11_freeCount_6 ?_
  exact cw_iret rfl dX11_freeCount_9 h
set_option maxRecDepth 20000 in
set_option maxHeartbeats 4000000 in
theorem eX11_give_0 {K : cw_K} {r : Option Value} {J0 I : cw_M} {x1 : Int32} {x2 : Int32} {x3 : Int32} (h : (∃ (v_3 : Int32) (J_3 : cw_M), cw_C (cr_w K) mX11_isSibling [.ref (cw_a (cr_w K) 0), .int x1] I (some (.int v_3)) J_3 ∧ ((¬ v_3 = 0 → (∃ (v_17 : Int32) (J_17 : cw_M), cw_C (cr_w K) mX11_isRange [.ref (cw_a (cr_w K) 0), .int x2, .int x3] J_3 (some (.int v_17)) J_17 ∧ ((¬ v_17 = 0 → (∃ (v_29 : Int32) (J_29 : cw_M), cw_C (cr_w K) mX11_fails [.ref (cw_a (cr_w K) 0), .int 0, .int 0, .int 0] J_17 (some (.int v_29)) J_29 ∧ ((v_29 = 0 → (∃ J_39 : cw_M, cw_C (cr_w K) mX11_remember [.ref (cw_a (cr_w K) 0), .int 0] J_29 none J_39 ∧ (∃ J_46 : cw_M, cw_C (cr_w K) mX11_own [.ref (cw_a (cr_w K) 0), .int x1, .int x2, .int x3] J_39 none J_46 ∧ (∃ (v_51 : Int32) (J_51 : cw_M), cw_C (cr_w K) mX11_welfareOf [.ref (cw_a (cr_w K) 0), .int x1] J_46 (some (.int v_51)) J_51 ∧ (r = some (.int v_51) ∧ J0 = J_51))))) ∧ (¬ v_29 = 0 → (r = some (.int 0) ∧ J0 = J_29))))) ∧ (v_17 = 0 → (∃ (v_29 : Int32) (J_29 : cw_M), cw_C (cr_w K) mX11_fails [.ref (cw_a (cr_w K) 0), .int 0, .int 1, .int 0] J_17 (some (.int v_29)) J_29 ∧ ((v_29 = 0 → (∃ J_39 : cw_M, cw_C (cr_w K) mX11_remember [.ref (cw_a (cr_w K) 0), .int 0] J_29 none J_39 ∧ (∃ J_46 : cw_M, cw_C (cr_w K) mX11_own [.ref (cw_a (cr_w K) 0), .int x1, .int x2, .int x3] J_39 none J_46 ∧ (∃ (v_51 : Int32) (J_51 : cw_M), cw_C (cr_w K) mX11_welfareOf [.ref (cw_a (cr_w K) 0), .int x1] J_46 (some (.int v_51)) J_51 ∧ (r = some (.int v_51) ∧ J0 = J_51))))) ∧ (¬ v_29 = 0 → (r = some (.int 0) ∧ J0 = J_29)))))))) ∧ (v_3 = 0 → (∃ (v_17 : Int32) (J_17 : cw_M), cw_C (cr_w K) mX11_isRange [.ref (cw_a (cr_w K) 0), .int x2, .int x3] J_3 (some (.int v_17)) J_17 ∧ ((¬ v_17 = 0 → (∃ (v_29 : Int32) (J_29 : cw_M), cw_C (cr_w K) mX11_fails [.ref (cw_a (cr_w K) 0), .int 1, .int 0, .int 0] J_17 (some (.int v_29)) J_29 ∧ ((v_29 = 0 → (∃ J_39 : cw_M, cw_C (cr_w K) mX11_remember [.ref (cw_a (cr_w K) 0), .int 0] J_29 none J_39 ∧ (∃ J_46 : cw_M, cw_C (cr_w K) mX11_own [.ref (cw_a (cr_w K) 0), .int x1, .int x2, .int x3] J_39 none J_46 ∧ (∃ (v_51 : Int32) (J_51 : cw_M), cw_C (cr_w K) mX11_welfareOf [.ref (cw_a (cr_w K) 0), .int x1] J_46 (some (.int v_51)) J_51 ∧ (r = some (.int v_51) ∧ J0 = J_51))))) ∧ (¬ v_29 = 0 → (r = some (.int 0) ∧ J0 = J_29))))) ∧ (v_17 = 0 → (∃ (v_29 : Int32) (J_29 : cw_M), cw_C (cr_w K) mX11_fails [.ref (cw_a (cr_w K) 0), .int 1, .int 1, .int 0] J_17 (some (.int v_29)) J_29 ∧ ((v_29 = 0 → (∃ J_39 : cw_M, cw_C (cr_w K) mX11_remember [.ref (cw_a (cr_w K) 0), .int 0] J_29 none J_39 ∧ (∃ J_46 : cw_M, cw_C (cr_w K) mX11_own [.ref (cw_a (cr_w K) 0), .int x1, .int x2, .int x3] J_39 none J_46 ∧ (∃ (v_51 : Int32) (J_51 : cw_M), cw_C (cr_w K) mX11_welfareOf [.ref (cw_a (cr_w K) 0), .int x1] J_46 (some (.int v_51)) J_51 ∧ (r = some (.int v_51) ∧ J0 = J_51))))) ∧ (¬ v_29 = 0 → (r = some (.int 0) ∧ J0 = J_29))))))))))) : cw_C (cr_w K) mX11_give [.ref (cw_a (cr_w K) 0), .int x1, .int x2, .int x3] I r J0 := by
  refine cw_entry okX11_give (Nat.le_of_ble_eq_true rfl) (show cw_B (cr_w K) mX11_give (cw_Z (cr_w K) r J0) 0 0 I 0 [(0, .ref (cw_a (cr_w K) 0)), (1, .int x1), (2, .int x2), (3, .int x3)] [] from ?_)
  refine cw_aload_n dX11_give_0 0 rfl rfl ?_
  refine cw_aload_n dX11_give_1 0 rfl rfl ?_
  refine cw_iload_n dX11_give_2 1 rfl rfl ?_
  obtain ⟨v_3, J_3, hc_3, h⟩ := h
  refine cw_callV (o := 0) (As := [.int x1]) hc_3 okX11_isSibling rfl gX11_give_X11_isSibling (by decide) (show 0 < 11 by decide) rfl (ci := 9) rfl rfl (Nat.le_of_ble_eq_true rfl) dX11_give_3 ?_
  refine cw_if_ne (tgt := 13) dX11_give_6 (by decide) (fun q => ?_) (fun q => ?_)
  · have h := h.1 q
    refine cw_iconst (v := 0) dX11_give_13 (by decide) ?_
    refine cw_aload_n dX11_give_14 0 rfl rfl ?_
    refine cw_iload_n dX11_give_15 2 rfl rfl ?_
    refine cw_iload_n dX11_give_16 3 rfl rfl ?_
    obtain ⟨v_17, J_17, hc_17, h⟩ := h
    refine cw_callV (o := 0) (As := [.int x2, .int x3]) hc_17 okX11_isRange rfl gX11_give_X11_isRange (by decide) (show 0 < 11 by decide) rfl (ci := 9) rfl rfl (Nat.le_of_ble_eq_true rfl) dX11_give_17 ?_
    refine cw_if_ne (tgt := 27) dX11_give_20 (by decide) (fun q => ?_) (fun q => ?_)
    · have h := h.1 q
      refine cw_iconst (v := 0) dX11_give_27 (by decide) ?_
      refine cw_iconst (v := 0) dX11_give_28 (by decide) ?_
      obtain ⟨v_29, J_29, hc_29, h⟩ := h
      refine cw_callV (o := 0) (As := [.int 0, .int 0, .int 0]) hc_29 okX11_fails rfl gX11_give_X11_fails (by decide) (show 0 < 11 by decide) rfl (ci := 9) rfl rfl (Nat.le_of_ble_eq_true rfl) dX11_give_29 ?_
      refine cw_if_eq (tgt := 37) dX11_give_32 (by decide) (fun q => ?_) (fun q => ?_)
      · have h := h.1 q
        refine cw_aload_n dX11_give_37 0 rfl rfl ?_
        refine cw_iconst (v := 0) dX11_give_38 (by decide) ?_
        obtain ⟨J_39, hc_39, h⟩ := h
        refine cw_callV (o := 0) (As := [.int 0]) hc_39 okX11_remember rfl gX11_give_X11_remember (by decide) (show 0 < 11 by decide) rfl (ci := 9) rfl rfl (Nat.le_of_ble_eq_true rfl) dX11_give_39 ?_
        refine cw_aload_n dX11_give_42 0 rfl rfl ?_
        refine cw_iload_n dX11_give_43 1 rfl rfl ?_
        refine cw_iload_n dX11_give_44 2 rfl rfl ?_
        refine cw_iload_n dX11_give_45 3 rfl rfl ?_
        obtain ⟨J_46, hc_46, h⟩ := h
        refine cw_callV (o := 0) (As := [.int x1, .int x2, .int x3]) hc_46 okX11_own rfl gX11_give_X11_own (by decide) (show 0 < 11 by decide) rfl (ci := 9) rfl rfl (Nat.le_of_ble_eq_true rfl) dX11_give_46 ?_
        refine cw_aload_n dX11_give_49 0 rfl rfl ?_
        refine cw_iload_n dX11_give_50 1 rfl rfl ?_
        obtain ⟨v_51, J_51, hc_51, h⟩ := h
        refine cw_callV (o := 0) (As := [.int x1]) hc_51 okX11_welfareOf rfl gX11_give_X11_welfareOf (by decide) (show 0 < 11 by decide) rfl (ci := 9) rfl rfl (Nat.le_of_ble_eq_true rfl) dX11_give_51 ?_
        exact cw_iret rfl dX11_give_54 h
      · have h := h.2 q
        refine cw_iconst (v := 0) dX11_give_35 (by decide) ?_
        exact cw_iret rfl dX11_give_36 h
    · have h := h.2 q
      refine cw_iconst (v := 1) dX11_give_23 (by decide) ?_
      refine cw_goto (tgt := 28) dX11_give_24 (by decide) ?_
      refine cw_iconst (v := 0) dX11_give_28 (by decide) ?_
      obtain ⟨v_29, J_29, hc_29, h⟩ := h
      refine cw_callV (o := 0) (As := [.int 0, .int 1, .int 0]) hc_29 okX11_fails rfl gX11_give_X11_fails (by decide) (show 0 < 11 by decide) rfl (ci := 9) rfl rfl (Nat.le_of_ble_eq_true rfl) dX11_give_29 ?_
      refine cw_if_eq (tgt := 37) dX11_give_32 (by decide) (fun q => ?_) (fun q => ?_)
      · have h := h.1 q
        refine cw_aload_n dX11_give_37 0 rfl rfl ?_
        refine cw_iconst (v := 0) dX11_give_38 (by decide) ?_
        obtain ⟨J_39, hc_39, h⟩ := h
        refine cw_callV (o := 0) (As := [.int 0]) hc_39 okX11_remember rfl gX11_give_X11_remember (by decide) (show 0 < 11 by decide) rfl (ci := 9) rfl rfl (Nat.le_of_ble_eq_true rfl) dX11_give_39 ?_
        refine cw_aload_n dX11_give_42 0 rfl rfl ?_
        refine cw_iload_n dX11_give_43 1 rfl rfl ?_
        refine cw_iload_n dX11_give_44 2 rfl rfl ?_
        refine cw_iload_n dX11_give_45 3 rfl rfl ?_
        obtain ⟨J_46, hc_46, h⟩ := h
        refine cw_callV (o := 0) (As := [.int x1, .int x2, .int x3]) hc_46 okX11_own rfl gX11_give_X11_own (by decide) (show 0 < 11 by decide) rfl (ci := 9) rfl rfl (Nat.le_of_ble_eq_true rfl) dX11_give_46 ?_
        refine cw_aload_n dX11_give_49 0 rfl rfl ?_
        refine cw_iload_n dX11_give_50 1 rfl rfl ?_
        obtain ⟨v_51, J_51, hc_51, h⟩ := h
        refine cw_callV (o := 0) (As := [.int x1]) hc_51 okX11_welfareOf rfl gX11_give_X11_welfareOf (by decide) (show 0 < 11 by decide) rfl (ci := 9) rfl rfl (Nat.le_of_ble_eq_true rfl) dX11_give_51 ?_
        exact cw_iret rfl dX11_give_54 h
      · have h := h.2 q
        refine cw_iconst (v := 0) dX11_give_35 (by decide) ?_
        exact cw_iret rfl dX11_give_36 h
  · have h := h.2 q
    refine cw_iconst (v := 1) dX11_give_9 (by decide) ?_
    refine cw_goto (tgt := 14) dX11_give_10 (by decide) ?_
    refine cw_aload_n dX11_give_14 0 rfl rfl ?_
    refine cw_iload_n dX11_give_15 2 rfl rfl ?_
    refine cw_iload_n dX11_give_16 3 rfl rfl ?_
    obtain ⟨v_17, J_17, hc_17, h⟩ := h
    refine cw_callV (o := 0) (As := [.int x2, .int x3]) hc_17 okX11_isRange rfl gX11_give_X11_isRange (by decide) (show 0 < 11 by decide) rfl (ci := 9) rfl rfl (Nat.le_of_ble_eq_true rfl) dX11_give_17 ?_
    refine cw_if_ne (tgt := 27) dX11_give_20 (by decide) (fun q => ?_) (fun q => ?_)
    · have h := h.1 q
      refine cw_iconst (v := 0) dX11_give_27 (by decide) ?_
      refine cw_iconst (v := 0) dX11_give_28 (by decide) ?_
      obtain ⟨v_29, J_29, hc_29, h⟩ := h
      refine cw_callV (o := 0) (As := [.int 1, .int 0, .int 0]) hc_29 okX11_fails rfl gX11_give_X11_fails (by decide) (show 0 < 11 by decide) rfl (ci := 9) rfl rfl (Nat.le_of_ble_eq_true rfl) dX11_give_29 ?_
      refine cw_if_eq (tgt := 37) dX11_give_32 (by decide) (fun q => ?_) (fun q => ?_)
      · have h := h.1 q
        refine cw_aload_n dX11_give_37 0 rfl rfl ?_
        refine cw_iconst (v := 0) dX11_give_38 (by decide) ?_
        obtain ⟨J_39, hc_39, h⟩ := h
        refine cw_callV (o := 0) (As := [.int 0]) hc_39 okX11_remember rfl gX11_give_X11_remember (by decide) (show 0 < 11 by decide) rfl (ci := 9) rfl rfl (Nat.le_of_ble_eq_true rfl) dX11_give_39 ?_
        refine cw_aload_n dX11_give_42 0 rfl rfl ?_
        refine cw_iload_n dX11_give_43 1 rfl rfl ?_
        refine cw_iload_n dX11_give_44 2 rfl rfl ?_
        refine cw_iload_n dX11_give_45 3 rfl rfl ?_
        obtain ⟨J_46, hc_46, h⟩ := h
        refine cw_callV (o := 0) (As := [.int x1, .int x2, .int x3]) hc_46 okX11_own rfl gX11_give_X11_own (by decide) (show 0 < 11 by decide) rfl (ci := 9) rfl rfl (Nat.le_of_ble_eq_true rfl) dX11_give_46 ?_
        refine cw_aload_n dX11_give_49 0 rfl rfl ?_
        refine cw_iload_n dX11_give_50 1 rfl rfl ?_
        obtain ⟨v_51, J_51, hc_51, h⟩ := h
        refine cw_callV (o := 0) (As := [.int x1]) hc_51 okX11_welfareOf rfl gX11_give_X11_welfareOf (by decide) (show 0 < 11 by decide) rfl (ci := 9) rfl rfl (Nat.le_of_ble_eq_true rfl) dX11_give_51 ?_
        exact cw_iret rfl dX11_give_54 h
      · have h := h.2 q
        refine cw_iconst (v := 0) dX11_give_35 (by decide) ?_
        exact cw_iret rfl dX11_give_36 h
    · have h := h.2 q
      refine cw_iconst (v := 1) dX11_give_23 (by decide) ?_
      refine cw_goto (tgt := 28) dX11_give_24 (by decide) ?_
      refine cw_iconst (v := 0) dX11_give_28 (by decide) ?_
      obtain ⟨v_29, J_29, hc_29, h⟩ := h
      refine cw_callV (o := 0) (As := [.int 1, .int 1, .int 0]) hc_29 okX11_fails rfl gX11_give_X11_fails (by decide) (show 0 < 11 by decide) rfl (ci := 9) rfl rfl (Nat.le_of_ble_eq_true rfl) dX11_give_29 ?_
      refine cw_if_eq (tgt := 37) dX11_give_32 (by decide) (fun q => ?_) (fun q => ?_)
      · have h := h.1 q
        refine cw_aload_n dX11_give_37 0 rfl rfl ?_
        refine cw_iconst (v := 0) dX11_give_38 (by decide) ?_
        obtain ⟨J_39, hc_39, h⟩ := h
        refine cw_callV (o := 0) (As := [.int 0]) hc_39 okX11_remember rfl gX11_give_X11_remember (by decide) (show 0 < 11 by decide) rfl (ci := 9) rfl rfl (Nat.le_of_ble_eq_true rfl) dX11_give_39 ?_
        refine cw_aload_n dX11_give_42 0 rfl rfl ?_
        refine cw_iload_n dX11_give_43 1 rfl rfl ?_
        refine cw_iload_n dX11_give_44 2 rfl rfl ?_
        refine cw_iload_n dX11_give_45 3 rfl rfl ?_
        obtain ⟨J_46, hc_46, h⟩ := h
        refine cw_callV (o := 0) (As := [.int x1, .int x2, .int x3]) hc_46 okX11_own rfl gX11_give_X11_own (by decide) (show 0 < 11 by decide) rfl (ci := 9) rfl rfl (Nat.le_of_ble_eq_true rfl) dX11_give_46 ?_
        refine cw_aload_n dX11_give_49 0 rfl rfl ?_
        refine cw_iload_n dX11_give_50 1 rfl rfl ?_
        obtain ⟨v_51, J_51, hc_51, h⟩ := h
        refine cw_callV (o := 0) (As := [.int x1]) hc_51 okX11_welfareOf rfl gX11_give_X11_welfareOf (by decide) (show 0 < 11 by decide) rfl (ci := 9) rfl rfl (Nat.le_of_ble_eq_true rfl) dX11_give_51 ?_
        exact cw_iret rfl dX11_give_54 h
      · have h := h.2 q
        refine cw_iconst (v := 0) dX11_give_35 (by decide) ?_
        exact cw_iret rfl dX11_give_36 h
set_option maxRecDepth 20000 in
set_option maxHeartbeats 4000000 in
theorem eX11_greatestContiguousWelfare_0 {K : cw_K} {r : Option Value} {J0 I : cw_M} (h : (∃ (v_2 : Int32) (J_2 : cw_M), cw_C (cr_w K) mX11_contiguousWelfare [.ref (cw_a (cr_w K) 0)] I (some (.int v_2)) J_2 ∧ (∃ (v_5 : Int32) (J_5 : cw_M), cw_C (cr_w K) mX11_plain [.ref (cw_a (cr_w K) 0), .int v_2] J_2 (some (.int v_5)) J_5 ∧ (r = some (.int v_5) ∧ J0 = J_5)))) : cw_C (cr_w K) mX11_greatestContiguousWelfare [.ref (cw_a (cr_w K) 0)] I r J0 := by
  refine cw_entry okX11_greatestContiguousWelfare (Nat.le_of_ble_eq_true rfl) (show cw_B (cr_w K) mX11_greatestContiguousWelfare (cw_Z (cr_w K) r J0) 0 0 I 0 [(0, .ref (cw_a (cr_w K) 0))] [] from ?_)
  refine cw_aload_n dX11_greatestContiguousWelfare_0 0 rfl rfl ?_
  refine cw_aload_n dX11_greatestContiguousWelfare_1 0 rfl rfl ?_
  obtain ⟨v_2, J_2, hc_2, h⟩ := h
  refine cw_callV (o := 0) (As := []) hc_2 okX11_contiguousWelfare rfl gX11_greatestContiguousWelfare_X11_contiguousWelfare (by decide) (show 0 < 11 by decide) rfl (ci := 9) rfl rfl (Nat.le_of_ble_eq_true rfl) dX11_greatestContiguousWelfare_2 ?_
  obtain ⟨v_5, J_5, hc_5, h⟩ := h
  refine cw_callV (o := 0) (As := [.int v_2]) hc_5 okX11_plain rfl gX11_greatestContiguousWelfare_X11_plain (by decide) (show 0 < 11 by decide) rfl (ci := 9) rfl rfl (Nat.le_of_ble_eq_true rfl) dX11_greatestContiguousWelfare_5 ?_
  exact cw_iret rfl dX11_greatestContiguousWelfare_8 h
abbrev bX11_greatestTotalWelfare_0_9 (K : cw_K) (r : Option Value) (J0 : cw_M) (x1 : Int32) (x2 : Int32) (I : cw_M) : Prop := cw_B (cr_w K) mX11_greatestTotalWelfare (cw_Z (cr_w K) r J0) 0 0 I 9 [(0, .ref (cw_a (cr_w K) 0)), (1, .int x1), (2, .int x2)] []
abbrev bX11_greatestTotalWelfare_0_24 (K : cw_K) (r : Option Value) (J0 : cw_M) (x1 : Int32) (x2 : Int32) (x3 : Int32) (x4 : Int32) (I : cw_M) : Prop := cw_B (cr_w K) mX11_greatestTotalWelfare (cw_Z (cr_w K) r J0) 0 0 I 24 [(0, .ref (cw_a (cr_w K) 0)), (1, .int x1), (2, .int x2), (3, .int x3), (4, .int x4)] []
set_option maxRecDepth 20000 in
set_option maxHeartbeats 4000000 in
theorem eX11_greatestTotalWelfare_0 {K : cw_K} {r : Option Value} {J0 I : cw_M} (h : bX11_greatestTotalWelfare_0_9 K r J0 0 0 (cw_st I 0 9 0)) : cw_C (cr_w K) mX11_greatestTotalWelfare [.ref (cw_a (cr_w K) 0)] I r J0 := by
  refine cw_entry okX11_greatestTotalWelfare (Nat.le_of_ble_eq_true rfl) (show cw_B (cr_w K) mX11_greatestTotalWelfare (cw_Z (cr_w K) r J0) 0 0 I 0 [(0, .ref (cw_a (cr_w K) 0))] [] from ?_)
  refine cw_aload_n dX11_greatestTotalWelfare_0 0 rfl rfl ?_
  refine cw_iconst (v := 0) dX11_greatestTotalWelfare_1 (by decide) ?_
  refine cw_putf (C := RX11) (T := TX11) (N := 20) (ci := 9) inX11_greatestTotalWelfare_RX11 tyX11 tyX11_ok nmX11 0 (show 0 < 11 by decide) rfl rfl 9 (by decide) (by decide +kernel) rfl rfl (show 9 < 20 by decide) rfl dX11_greatestTotalWelfare_2 ?_
  refine cw_iconst (v := 0) dX11_greatestTotalWelfare_5 (by decide) ?_
  refine cw_istore_n dX11_greatestTotalWelfare_6 rfl (by decide) rfl ?_
  refine cw_iconst (v := 0) dX11_greatestTotalWelfare_7 (by decide) ?_
  refine cw_istore_n dX11_greatestTotalWelfare_8 rfl (by decide) rfl ?_
  refine cw_sub [2, 1, 0] rfl ?_
  exact h
set_option maxRecDepth 20000 in
set_option maxHeartbeats 4000000 in
theorem tbX11_greatestTotalWelfare_0_9 {K : cw_K} {r : Option Value} {J0 I : cw_M} {x1 : Int32} {x2 : Int32} (h : (((I 1 0) ≤ x2 → (r = some (.int x1) ∧ J0 = I)) ∧ (¬ (I 1 0) ≤ x2 → bX11_greatestTotalWelfare_0_24 K r J0 x1 x2 0 0 I))) : bX11_greatestTotalWelfare_0_9 K r J0 x1 x2 I := by
  refine cw_iload_n dX11_greatestTotalWelfare_9 2 rfl rfl ?_
  refine cw_aload_n dX11_greatestTotalWelfare_10 0 rfl rfl ?_
  refine cw_getf (C := RX11) (T := TX11) (N := 20) (ci := 9) inX11_greatestTotalWelfare_RX11 0 (show 0 < 11 by decide) rfl rfl 0 (by decide) (by decide +kernel) rfl dX11_greatestTotalWelfare_11 ?_
  refine cw_iconst (v := 0) dX11_greatestTotalWelfare_14 (by decide) ?_
  refine cw_ialdL (j := 0) 1 (show 1 < 11 by decide) rfl 0 rfl dX11_greatestTotalWelfare_15 rfl (by decide) (by decide) ?_
  refine cw_icmp_ge (tgt := 74) dX11_greatestTotalWelfare_16 (by decide) (fun q => ?_) (fun q => ?_)
  · have h := h.1 q
    refine cw_iload_n dX11_greatestTotalWelfare_74 1 rfl rfl ?_
    exact cw_iret rfl dX11_greatestTotalWelfare_75 h
  · have h := h.2 q
    refine cw_iconst (v := 0) dX11_greatestTotalWelfare_19 (by decide) ?_
    refine cw_istore_n dX11_greatestTotalWelfare_20 rfl (by decide) rfl ?_
    refine cw_iconst (v := 0) dX11_greatestTotalWelfare_21 (by decide) ?_
    refine cw_istore dX11_greatestTotalWelfare_22 (by decide) rfl ?_
    refine cw_sub [2, 3, 4, 1, 0] rfl ?_
    exact h
set_option maxRecDepth 20000 in
set_option maxHeartbeats 4000000 in
theorem tbX11_greatestTotalWelfare_0_24 {K : cw_K} {r : Option Value} {J0 I : cw_M} {x1 : Int32} {x2 : Int32} {x3 : Int32} {x4 : Int32} (h : (((I 1 1) ≤ x4 → bX11_greatestTotalWelfare_0_9 K r J0 (x1 + x3) (x2 + 1) I) ∧ (¬ (I 1 1) ≤ x4 → (∃ (v_39 : Int32) (J_39 : cw_M), cw_C (cr_w K) mX11_valueOf [.ref (cw_a (cr_w K) 0), .int x4, .int x2] I (some (.int v_39)) J_39 ∧ ((v_39 ≤ x3 → bX11_greatestTotalWelfare_0_24 K r J0 x1 x2 x3 (x4 + 1) J_39) ∧ (¬ v_39 ≤ x3 → (∃ (v_50 : Int32) (J_50 : cw_M), cw_C (cr_w K) mX11_valueOf [.ref (cw_a (cr_w K) 0), .int x4, .int x2] J_39 (some (.int v_50)) J_50 ∧ bX11_greatestTotalWelfare_0_24 K r J0 x1 x2 v_50 (x4 + 1) J_50))))))) : bX11_greatestTotalWelfare_0_24 K r J0 x1 x2 x3 x4 I := by
  refine cw_iload dX11_greatestTotalWelfare_24 4 rfl ?_
  refine cw_aload_n dX11_greatestTotalWelfare_26 0 rfl rfl ?_
  refine cw_getf (C := RX11) (T := TX11) (N := 20) (ci := 9) inX11_greatestTotalWelfare_RX11 0 (show 0 < 11 by decide) rfl rfl 0 (by decide) (by decide +kernel) rfl dX11_greatestTotalWelfare_27 ?_
  refine cw_iconst (v := 1) dX11_greatestTotalWelfare_30 (by decide) ?_
  refine cw_ialdL (j := 1) 1 (show 1 < 11 by decide) rfl 0 rfl dX11_greatestTotalWelfare_31 rfl (by decide) (by decide) ?_
  refine cw_icmp_ge (tgt := 64) dX11_greatestTotalWelfare_32 (by decide) (fun q => ?_) (fun q => ?_)
  · have h := h.1 q
    refine cw_iload_n dX11_greatestTotalWelfare_64 1 rfl rfl ?_
    refine cw_iload_n dX11_greatestTotalWelfare_65 3 rfl rfl ?_
    refine cw_iadd dX11_greatestTotalWelfare_66 ?_
    refine cw_istore_n dX11_greatestTotalWelfare_67 rfl (by decide) rfl ?_
    refine cw_iinc (v := x2 + 1) dX11_greatestTotalWelfare_68 (j := 2) rfl rfl (by decide) rfl ?_
    refine cw_goto (tgt := 9) dX11_greatestTotalWelfare_71 (by decide) ?_
    refine cw_sub [2, 1, 0] rfl ?_
    exact h
  · have h := h.2 q
    refine cw_aload_n dX11_greatestTotalWelfare_35 0 rfl rfl ?_
    refine cw_iload dX11_greatestTotalWelfare_36 4 rfl ?_
    refine cw_iload_n dX11_greatestTotalWelfare_38 2 rfl rfl ?_
    obtain ⟨v_39, J_39, hc_39, h⟩ := h
    refine cw_callV (o := 0) (As := [.int x4, .int x2]) hc_39 okX11_valueOf rfl gX11_greatestTotalWelfare_X11_valueOf (by decide) (show 0 < 11 by decide) rfl (ci := 9) rfl rfl (Nat.le_of_ble_eq_true rfl) dX11_greatestTotalWelfare_39 ?_
    refine cw_iload_n dX11_greatestTotalWelfare_42 3 rfl rfl ?_
    refine cw_icmp_le (tgt := 56) dX11_greatestTotalWelfare_43 (by decide) (fun q => ?_) (fun q => ?_)
    · have h := h.1 q
      refine cw_iload_n dX11_greatestTotalWelfare_56 3 rfl rfl ?_
      refine cw_istore_n dX11_greatestTotalWelfare_57 rfl (by decide) rfl ?_
      refine cw_iinc (v := x4 + 1) dX11_greatestTotalWelfare_58 (j := 4) rfl rfl (by decide) rfl ?_
      refine cw_goto (tgt := 24) dX11_greatestTotalWelfare_61 (by decide) ?_
      refine cw_sub [2, 3, 4, 1, 0] rfl ?_
      exact h
    · have h := h.2 q
      refine cw_aload_n dX11_greatestTotalWelfare_46 0 rfl rfl ?_
      refine cw_iload dX11_greatestTotalWelfare_47 4 rfl ?_
      refine cw_iload_n dX11_greatestTotalWelfare_49 2 rfl rfl ?_
      obtain ⟨v_50, J_50, hc_50, h⟩ := h
      refine cw_callV (o := 0) (As := [.int x4, .int x2]) hc_50 okX11_valueOf rfl gX11_greatestTotalWelfare_X11_valueOf (by decide) (show 0 < 11 by decide) rfl (ci := 9) rfl rfl (Nat.le_of_ble_eq_true rfl) dX11_greatestTotalWelfare_50 ?_
      refine cw_goto (tgt := 57) dX11_greatestTotalWelfare_53 (by decide) ?_
      refine cw_istore_n dX11_greatestTotalWelfare_57 rfl (by decide) rfl ?_
      refine cw_iinc (v := x4 + 1) dX11_greatestTotalWelfare_58 (j := 4) rfl rfl (by decide) rfl ?_
      refine cw_goto (tgt := 24) dX11_greatestTotalWelfare_61 (by decide) ?_
      refine cw_sub [2, 3, 4, 1, 0] rfl ?_
      exact h
set_option maxRecDepth 20000 in
set_option maxHeartbeats 4000000 in
theorem eX11_hasEnvy_0 {K : cw_K} {r : Option Value} {J0 I : cw_M} {x1 : Int32} {x2 : Int32} (h : (∃ (v_3 : Int32) (J_3 : cw_M), cw_C (cr_w K) mX11_worthShare [.ref (cw_a (cr_w K) 0), .int x1, .int x2] I (some (.int v_3)) J_3 ∧ (∃ (v_8 : Int32) (J_8 : cw_M), cw_C (cr_w K) mX11_welfareOf [.ref (cw_a (cr_w K) 0), .int x1] J_3 (some (.int v_8)) J_8 ∧ ((v_3 ≤ v_8 → (r = some (.int 0) ∧ J0 = J_8)) ∧ (¬ v_3 ≤ v_8 → (r = some (.int 1) ∧ J0 = J_8)))))) : cw_C (cr_w K) mX11_hasEnvy [.ref (cw_a (cr_w K) 0), .int x1, .int x2] I r J0 := by
  refine cw_entry okX11_hasEnvy (Nat.le_of_ble_eq_true rfl) (show cw_B (cr_w K) mX11_hasEnvy (cw_Z (cr_w K) r J0) 0 0 I 0 [(0, .ref (cw_a (cr_w K) 0)), (1, .int x1), (2, .int x2)] [] from ?_)
  refine cw_aload_n dX11_hasEnvy_0 0 rfl rfl ?_
  refine cw_iload_n dX11_hasEnvy_1 1 rfl rfl ?_
  refine cw_iload_n dX11_hasEnvy_2 2 rfl rfl ?_
  obtain ⟨v_3, J_3, hc_3, h⟩ := h
  refine cw_callV (o := 0) (As := [.int x1, .int x2]) hc_3 okX11_worthShare rfl gX11_hasEnvy_X11_worthShare (by decide) (show 0 < 11 by decide) rfl (ci := 9) rfl rfl (Nat.le_of_ble_eq_true rfl) dX11_hasEnvy_3 ?_
  refine cw_aload_n dX11_hasEnvy_6 0 rfl rfl ?_
  refine cw_iload_n dX11_hasEnvy_7 1 rfl rfl ?_
  obtain ⟨v_8, J_8, hc_8, h⟩ := h
  refine cw_callV (o := 0) (As := [.int x1]) hc_8 okX11_welfareOf rfl gX11_hasEnvy_X11_welfareOf (by decide) (show 0 < 11 by decide) rfl (ci := 9) rfl rfl (Nat.le_of_ble_eq_true rfl) dX11_hasEnvy_8 ?_
  refine cw_icmp_le (tgt := 18) dX11_hasEnvy_11 (by decide) (fun q => ?_) (fun q => ?_)
  · have h := h.1 q
    refine cw_iconst (v := 0) dX11_hasEnvy_18 (by decide) ?_
    exact cw_bret rfl dX11_hasEnvy_19 (by decide) h
  · have h := h.2 q
    refine cw_iconst (v := 1) dX11_hasEnvy_14 (by decide) ?_
    refine cw_goto (tgt := 19) dX11_hasEnvy_15 (by decide) ?_
    exact cw_bret rfl dX11_hasEnvy_19 (by decide) h
abbrev bX11_hasMildEnvy_0_5 (K : cw_K) (r : Option Value) (J0 : cw_M) (x1 : Int32) (x2 : Int32) (x3 : Int32) (x4 : Int32) (I : cw_M) : Prop := cw_B (cr_w K) mX11_hasMildEnvy (cw_Z (cr_w K) r J0) 0 0 I 5 [(0, .ref (cw_a (cr_w K) 0)), (1, .int x1), (2, .int x2), (3, .int x3), (4, .int x4)] []
set_option maxRecDepth 20000 in
set_option maxHeartbeats 4000000 in
theorem eX11_hasMildEnvy_0 {K : cw_K} {r : Option Value} {J0 I : cw_M} {x1 : Int32} {x2 : Int32} (h : bX11_hasMildEnvy_0_5 K r J0 x1 x2 0 0 I) : cw_C (cr_w K) mX11_hasMildEnvy [.ref (cw_a (cr_w K) 0), .int x1, .int x2] I r J0 := by
  refine cw_entry okX11_hasMildEnvy (Nat.le_of_ble_eq_true rfl) (show cw_B (cr_w K) mX11_hasMildEnvy (cw_Z (cr_w K) r J0) 0 0 I 0 [(0, .ref (cw_a (cr_w K) 0)), (1, .int x1), (2, .int x2)] [] from ?_)
  refine cw_iconst (v := 0) dX11_hasMildEnvy_0 (by decide) ?_
  refine cw_istore_n dX11_hasMildEnvy_1 rfl (by decide) rfl ?_
  refine cw_iconst (v := 0) dX11_hasMildEnvy_2 (by decide) ?_
  refine cw_istore dX11_hasMildEnvy_3 (by decide) rfl ?_
  refine cw_sub [2, 3, 4, 1, 0] rfl ?_
  exact h
set_option maxRecDepth 20000 in
set_option maxHeartbeats 4000000 in
theorem tbX11_hasMildEnvy_0_5 {K : cw_K} {r : Option Value} {J0 I : cw_M} {x1 : Int32} {x2 : Int32} {x3 : Int32} {x4 : Int32} (h : (((I 1 0) ≤ x4 → (∃ (v_54 : Int32) (J_54 : cw_M), cw_C (cr_w K) mX11_worthShare [.ref (cw_a (cr_w K) 0), .int x1, .int x2] I (some (.int v_54)) J_54 ∧ (∃ (v_61 : Int32) (J_61 : cw_M), cw_C (cr_w K) mX11_welfareOf [.ref (cw_a (cr_w K) 0), .int x1] J_54 (some (.int v_61)) J_61 ∧ ((v_61 < (v_54 - x3) → (r = some (.int 0) ∧ J0 = J_61)) ∧ (¬ v_61 < (v_54 - x3) → (r = some (.int 1) ∧ J0 = J_61)))))) ∧ (¬ (I 1 0) ≤ x4 → (∃ (v_19 : Int32) (J_19 : cw_M), cw_C (cr_w K) mX11_ownerOf [.ref (cw_a (cr_w K) 0), .int x4] I (some (.int v_19)) J_19 ∧ ((¬ v_19 = x2 → bX11_hasMildEnvy_0_5 K r J0 x1 x2 x3 (x4 + 1) J_19) ∧ (v_19 = x2 → (∃ (v_30 : Int32) (J_30 : cw_M), cw_C (cr_w K) mX11_valueOf [.ref (cw_a (cr_w K) 0), .int x1, .int x4] J_19 (some (.int v_30)) J_30 ∧ ((v_30 ≤ x3 → bX11_hasMildEnvy_0_5 K r J0 x1 x2 x3 (x4 + 1) J_30) ∧ (¬ v_30 ≤ x3 → (∃ (v_41 : Int32) (J_41 : cw_M), cw_C (cr_w K) mX11_valueOf [.ref (cw_a (cr_w K) 0), .int x1, .int x4] J_30 (some (.int v_41)) J_41 ∧ bX11_hasMildEnvy_0_5 K r J0 x1 x2 v_41 (x4 + 1) J_41)))))))))) : bX11_hasMildEnvy_0_5 K r J0 x1 x2 x3 x4 I := by
  refine cw_iload dX11_hasMildEnvy_5 4 rfl ?_
  refine cw_aload_n dX11_hasMildEnvy_7 0 rfl rfl ?_
  refine cw_getf (C := RX11) (T := TX11) (N := 20) (ci := 9) inX11_hasMildEnvy_RX11 0 (show 0 < 11 by decide) rfl rfl 0 (by decide) (by decide +kernel) rfl dX11_hasMildEnvy_8 ?_
  refine cw_iconst (v := 0) dX11_hasMildEnvy_11 (by decide) ?_
  refine cw_ialdL (j := 0) 1 (show 1 < 11 by decide) rfl 0 rfl dX11_hasMildEnvy_12 rfl (by decide) (by decide) ?_
  refine cw_icmp_ge (tgt := 51) dX11_hasMildEnvy_13 (by decide) (fun q => ?_) (fun q => ?_)
  · have h := h.1 q
    refine cw_aload_n dX11_hasMildEnvy_51 0 rfl rfl ?_
    refine cw_iload_n dX11_hasMildEnvy_52 1 rfl rfl ?_
    refine cw_iload_n dX11_hasMildEnvy_53 2 rfl rfl ?_
    obtain ⟨v_54, J_54, hc_54, h⟩ := h
    refine cw_callV (o := 0) (As := [.int x1, .int x2]) hc_54 okX11_worthShare rfl gX11_hasMildEnvy_X11_worthShare (by decide) (show 0 < 11 by decide) rfl (ci := 9) rfl rfl (Nat.le_of_ble_eq_true rfl) dX11_hasMildEnvy_54 ?_
    refine cw_iload_n dX11_hasMildEnvy_57 3 rfl rfl ?_
    refine cw_isub dX11_hasMildEnvy_58 ?_
    refine cw_aload_n dX11_hasMildEnvy_59 0 rfl rfl ?_
    refine cw_iload_n dX11_hasMildEnvy_60 1 rfl rfl ?_
    obtain ⟨v_61, J_61, hc_61, h⟩ := h
    refine cw_callV (o := 0) (As := [.int x1]) hc_61 okX11_welfareOf rfl gX11_hasMildEnvy_X11_welfareOf (by decide) (show 0 < 11 by decide) rfl (ci := 9) rfl rfl (Nat.le_of_ble_eq_true rfl) dX11_hasMildEnvy_61 ?_
    refine cw_icmp_gt (tgt := 71) dX11_hasMildEnvy_64 (by decide) (fun q => ?_) (fun q => ?_)
    · have h := h.1 q
      refine cw_iconst (v := 0) dX11_hasMildEnvy_71 (by decide) ?_
      exact cw_bret rfl dX11_hasMildEnvy_72 (by decide) h
    · have h := h.2 q
      refine cw_iconst (v := 1) dX11_hasMildEnvy_67 (by decide) ?_
      refine cw_goto (tgt := 72) dX11_hasMildEnvy_68 (by decide) ?_
      exact cw_bret rfl dX11_hasMildEnvy_72 (by decide) h
  · have h := h.2 q
    refine cw_aload_n dX11_hasMildEnvy_16 0 rfl rfl ?_
    refine cw_iload dX11_hasMildEnvy_17 4 rfl ?_
    obtain ⟨v_19, J_19, hc_19, h⟩ := h
    refine cw_callV (o := 0) (As := [.int x4]) hc_19 okX11_ownerOf rfl gX11_hasMildEnvy_X11_ownerOf (by decide) (show 0 < 11 by decide) rfl (ci := 9) rfl rfl (Nat.le_of_ble_eq_true rfl) dX11_hasMildEnvy_19 ?_
    refine cw_iload_n dX11_hasMildEnvy_22 2 rfl rfl ?_
    refine cw_icmp_ne (tgt := 45) dX11_hasMildEnvy_23 (by decide) (fun q => ?_) (fun q => ?_)
    · have h := h.1 q
      refine cw_iinc (v := x4 + 1) dX11_hasMildEnvy_45 (j := 4) rfl rfl (by decide) rfl ?_
      refine cw_goto (tgt := 5) dX11_hasMildEnvy_48 (by decide) ?_
      refine cw_sub [1, 2, 3, 4, 0] rfl ?_
      exact h
    · have h := h.2 q
      refine cw_aload_n dX11_hasMildEnvy_26 0 rfl rfl ?_
      refine cw_iload_n dX11_hasMildEnvy_27 1 rfl rfl ?_
      refine cw_iload dX11_hasMildEnvy_28 4 rfl ?_
      obtain ⟨v_30, J_30, hc_30, h⟩ := h
      refine cw_callV (o := 0) (As := [.int x1, .int x4]) hc_30 okX11_valueOf rfl gX11_hasMildEnvy_X11_valueOf (by decide) (show 0 < 11 by decide) rfl (ci := 9) rfl rfl (Nat.le_of_ble_eq_true rfl) dX11_hasMildEnvy_30 ?_
      refine cw_iload_n dX11_hasMildEnvy_33 3 rfl rfl ?_
      refine cw_icmp_le (tgt := 45) dX11_hasMildEnvy_34 (by decide) (fun q => ?_) (fun q => ?_)
      · have h := h.1 q
        refine cw_iinc (v := x4 + 1) dX11_hasMildEnvy_45 (j := 4) rfl rfl (by decide) rfl ?_
        refine cw_goto (tgt := 5) dX11_hasMildEnvy_48 (by decide) ?_
        refine cw_sub [1, 2, 3, 4, 0] rfl ?_
        exact h
      · have h := h.2 q
        refine cw_aload_n dX11_hasMildEnvy_37 0 rfl rfl ?_
        refine cw_iload_n dX11_hasMildEnvy_38 1 rfl rfl ?_
        refine cw_iload dX11_hasMildEnvy_39 4 rfl ?_
        obtain ⟨v_41, J_41, hc_41, h⟩ := h
        refine cw_callV (o := 0) (As := [.int x1, .int x4]) hc_41 okX11_valueOf rfl gX11_hasMildEnvy_X11_valueOf (by decide) (show 0 < 11 by decide) rfl (ci := 9) rfl rfl (Nat.le_of_ble_eq_true rfl) dX11_hasMildEnvy_41 ?_
        refine cw_istore_n dX11_hasMildEnvy_44 rfl (by decide) rfl ?_
        refine cw_iinc (v := x4 + 1) dX11_hasMildEnvy_45 (j := 4) rfl rfl (by decide) rfl ?_
        refine cw_goto (tgt := 5) dX11_hasMildEnvy_48 (by decide) ?_
        refine cw_sub [2, 3, 4, 1, 0] rfl ?_
        exact h
set_option maxRecDepth 20000 in
set_option maxHeartbeats 4000000 in
theorem eX11_in {K : cw_K} {r : Option Value} {J0 I : cw_M} {x0 : Int32} {x1 : Int32} {x2 : Int32} (h : ((x0 < x1 → (r = some (.int 0) ∧ J0 = I)) ∧ (¬ x0 < x1 → ((x2 < x0 → (r = some (.int 0) ∧ J0 = I)) ∧ (¬ x2 < x0 → (r = some (.int 1) ∧ J0 = I)))))) : cw_C (cr_w K) mX11_in [.int x0, .int x1, .int x2] I r J0 := by
  refine cw_entry okX11_in (Nat.le_of_ble_eq_true rfl) (show cw_B (cr_w K) mX11_in (cw_Z (cr_w K) r J0) 0 0 I 0 [(0, .int x0), (1, .int x1), (2, .int x2)] [] from ?_)
  refine cw_iload_n dX11_in_0 0 rfl rfl ?_
  refine cw_iload_n dX11_in_1 1 rfl rfl ?_
  refine cw_icmp_lt (tgt := 14) dX11_in_2 (by decide) (fun q => ?_) (fun q => ?_)
  · have h := h.1 q
    refine cw_iconst (v := 0) dX11_in_14 (by decide) ?_
    exact cw_bret rfl dX11_in_15 (by decide) h
  · have h := h.2 q
    refine cw_iload_n dX11_in_5 0 rfl rfl ?_
    refine cw_iload_n dX11_in_6 2 rfl rfl ?_
    refine cw_icmp_gt (tgt := 14) dX11_in_7 (by decide) (fun q => ?_) (fun q => ?_)
    · have h := h.1 q
      refine cw_iconst (v := 0) dX11_in_14 (by decide) ?_
      exact cw_bret rfl dX11_in_15 (by decide) h
    · have h := h.2 q
      refine cw_iconst (v := 1) dX11_in_10 (by decide) ?_
      refine cw_goto (tgt := 15) dX11_in_11 (by decide) ?_
      exact cw_bret rfl dX11_in_15 (by decide) h
abbrev bX11_inconsistencies_0_20 (K : cw_K) (r : Option Value) (J0 : cw_M) (x1 : Int32) (x2 : Int32) (I : cw_M) : Prop := cw_B (cr_w K) mX11_inconsistencies (cw_Z (cr_w K) r J0) 0 0 I 20 [(0, .ref (cw_a (cr_w K) 0)), (1, .int x1), (2, .int x2)] []
set_option maxRecDepth 20000 in
set_option maxHeartbeats 4000000 in
theorem eX11_inconsistencies_0 {K : cw_K} {r : Option Value} {J0 I : cw_M} (h : (∃ (v_13 : Int32) (J_13 : cw_M), cw_C (cr_w K) mX11_sizeOf [.ref (cw_a (cr_w K) 0), .int (-1)] (cw_st I 0 9 0) (some (.int v_13)) J_13 ∧ bX11_inconsistencies_0_20 K r J0 (((cw_st I 0 9 0) 1 0) - v_13) 0 J_13)) : cw_C (cr_w K) mX11_inconsistencies [.ref (cw_a (cr_w K) 0)] I r J0 := by
  refine cw_entry okX11_inconsistencies (Nat.le_of_ble_eq_true rfl) (show cw_B (cr_w K) mX11_inconsistencies (cw_Z (cr_w K) r J0) 0 0 I 0 [(0, .ref (cw_a (cr_w K) 0))] [] from ?_)
  refine cw_aload_n dX11_inconsistencies_0 0 rfl rfl ?_
  refine cw_iconst (v := 0) dX11_inconsistencies_1 (by decide) ?_
  refine cw_putf (C := RX11) (T := TX11) (N := 20) (ci := 9) inX11_inconsistencies_RX11 tyX11 tyX11_ok nmX11 0 (show 0 < 11 by decide) rfl rfl 9 (by decide) (by decide +kernel) rfl rfl (show 9 < 20 by decide) rfl dX11_inconsistencies_2 ?_
  refine cw_aload_n dX11_inconsistencies_5 0 rfl rfl ?_
  refine cw_getf (C := RX11) (T := TX11) (N := 20) (ci := 9) inX11_inconsistencies_RX11 0 (show 0 < 11 by decide) rfl rfl 0 (by decide) (by decide +kernel) rfl dX11_inconsistencies_6 ?_
  refine cw_iconst (v := 0) dX11_inconsistencies_9 (by decide) ?_
  refine cw_ialdL (j := 0) 1 (show 1 < 11 by decide) rfl 0 rfl dX11_inconsistencies_10 rfl (by decide) (by decide) ?_
  refine cw_aload_n dX11_inconsistencies_11 0 rfl rfl ?_
  refine cw_iconst (v := (-1)) dX11_inconsistencies_12 (by decide) ?_
  obtain ⟨v_13, J_13, hc_13, h⟩ := h
  refine cw_callV (o := 0) (As := [.int (-1)]) hc_13 okX11_sizeOf rfl gX11_inconsistencies_X11_sizeOf (by decide) (show 0 < 11 by decide) rfl (ci := 9) rfl rfl (Nat.le_of_ble_eq_true rfl) dX11_inconsistencies_13 ?_
  refine cw_isub dX11_inconsistencies_16 ?_
  refine cw_istore_n dX11_inconsistencies_17 rfl (by decide) rfl ?_
  refine cw_iconst (v := 0) dX11_inconsistencies_18 (by decide) ?_
  refine cw_istore_n dX11_inconsistencies_19 rfl (by decide) rfl ?_
  refine cw_sub [2, 1, 0] rfl ?_
  exact h
set_option maxRecDepth 20000 in
set_option maxHeartbeats 4000000 in
theorem tbX11_inconsistencies_0_20 {K : cw_K} {r : Option Value} {J0 I : cw_M} {x1 : Int32} {x2 : Int32} (h : (((I 1 1) ≤ x2 → (r = some (.int x1) ∧ J0 = I)) ∧ (¬ (I 1 1) ≤ x2 → (∃ (v_34 : Int32) (J_34 : cw_M), cw_C (cr_w K) mX11_hasEnvy [.ref (cw_a (cr_w K) 0), .int x2, .int x2] I (some (.int v_34)) J_34 ∧ ((v_34 = 0 → (∃ (v_47 : Int32) (J_47 : cw_M), cw_C (cr_w K) mX11_sizeOf [.ref (cw_a (cr_w K) 0), .int x2] J_34 (some (.int v_47)) J_47 ∧ bX11_inconsistencies_0_20 K r J0 (x1 + (0 - v_47)) (x2 + 1) J_47)) ∧ (¬ v_34 = 0 → (∃ (v_47 : Int32) (J_47 : cw_M), cw_C (cr_w K) mX11_sizeOf [.ref (cw_a (cr_w K) 0), .int x2] J_34 (some (.int v_47)) J_47 ∧ bX11_inconsistencies_0_20 K r J0 (x1 + (1 - v_47)) (x2 + 1) J_47))))))) : bX11_inconsistencies_0_20 K r J0 x1 x2 I := by
  refine cw_iload_n dX11_inconsistencies_20 2 rfl rfl ?_
  refine cw_aload_n dX11_inconsistencies_21 0 rfl rfl ?_
  refine cw_getf (C := RX11) (T := TX11) (N := 20) (ci := 9) inX11_inconsistencies_RX11 0 (show 0 < 11 by decide) rfl rfl 0 (by decide) (by decide +kernel) rfl dX11_inconsistencies_22 ?_
  refine cw_iconst (v := 1) dX11_inconsistencies_25 (by decide) ?_
  refine cw_ialdL (j := 1) 1 (show 1 < 11 by decide) rfl 0 rfl dX11_inconsistencies_26 rfl (by decide) (by decide) ?_
  refine cw_icmp_ge (tgt := 59) dX11_inconsistencies_27 (by decide) (fun q => ?_) (fun q => ?_)
  · have h := h.1 q
    refine cw_iload_n dX11_inconsistencies_59 1 rfl rfl ?_
    exact cw_iret rfl dX11_inconsistencies_60 h
  · have h := h.2 q
    refine cw_iload_n dX11_inconsistencies_30 1 rfl rfl ?_
    refine cw_aload_n dX11_inconsistencies_31 0 rfl rfl ?_
    refine cw_iload_n dX11_inconsistencies_32 2 rfl rfl ?_
    refine cw_iload_n dX11_inconsistencies_33 2 rfl rfl ?_
    obtain ⟨v_34, J_34, hc_34, h⟩ := h
    refine cw_callV (o := 0) (As := [.int x2, .int x2]) hc_34 okX11_hasEnvy rfl gX11_inconsistencies_X11_hasEnvy (by decide) (show 0 < 11 by decide) rfl (ci := 9) rfl rfl (Nat.le_of_ble_eq_true rfl) dX11_inconsistencies_34 ?_
    refine cw_if_eq (tgt := 44) dX11_inconsistencies_37 (by decide) (fun q => ?_) (fun q => ?_)
    · have h := h.1 q
      refine cw_iconst (v := 0) dX11_inconsistencies_44 (by decide) ?_
      refine cw_aload_n dX11_inconsistencies_45 0 rfl rfl ?_
      refine cw_iload_n dX11_inconsistencies_46 2 rfl rfl ?_
      obtain ⟨v_47, J_47, hc_47, h⟩ := h
      refine cw_callV (o := 0) (As := [.int x2]) hc_47 okX11_sizeOf rfl gX11_inconsistencies_X11_sizeOf (by decide) (show 0 < 11 by decide) rfl (ci := 9) rfl rfl (Nat.le_of_ble_eq_true rfl) dX11_inconsistencies_47 ?_
      refine cw_isub dX11_inconsistencies_50 ?_
      refine cw_iadd dX11_inconsistencies_51 ?_
      refine cw_istore_n dX11_inconsistencies_52 rfl (by decide) rfl ?_
      refine cw_iinc (v := x2 + 1) dX11_inconsistencies_53 (j := 2) rfl rfl (by decide) rfl ?_
      refine cw_goto (tgt := 20) dX11_inconsistencies_56 (by decide) ?_
      refine cw_sub [2, 1, 0] rfl ?_
      exact h
    · have h := h.2 q
      refine cw_iconst (v := 1) dX11_inconsistencies_40 (by decide) ?_
      refine cw_goto (tgt := 45) dX11_inconsistencies_41 (by decide) ?_
      refine cw_aload_n dX11_inconsistencies_45 0 rfl rfl ?_
      refine cw_iload_n dX11_inconsistencies_46 2 rfl rfl ?_
      obtain ⟨v_47, J_47, hc_47, h⟩ := h
      refine cw_callV (o := 0) (As := [.int x2]) hc_47 okX11_sizeOf rfl gX11_inconsistencies_X11_sizeOf (by decide) (show 0 < 11 by decide) rfl (ci := 9) rfl rfl (Nat.le_of_ble_eq_true rfl) dX11_inconsistencies_47 ?_
      refine cw_isub dX11_inconsistencies_50 ?_
      refine cw_iadd dX11_inconsistencies_51 ?_
      refine cw_istore_n dX11_inconsistencies_52 rfl (by decide) rfl ?_
      refine cw_iinc (v := x2 + 1) dX11_inconsistencies_53 (j := 2) rfl rfl (by decide) rfl ?_
      refine cw_goto (tgt := 20) dX11_inconsistencies_56 (by decide) ?_
      refine cw_sub [2, 1, 0] rfl ?_
      exact h
set_option maxRecDepth 20000 in
set_option maxHeartbeats 4000000 in
theorem eX11_isCell_0 {K : cw_K} {r : Option Value} {J0 I : cw_M} {x1 : Int32} (h : (∃ (v_10 : Int32) (J_10 : cw_M), cw_C (cr_w K) mX11_in [.int x1, .int 0, .int ((I 1 0) - 1)] I (some (.int v_10)) J_10 ∧ ((v_10 = 0 ∨ v_10 = 1) ∧ (r = some (.int v_10) ∧ J0 = J_10)))) : cw_C (cr_w K) mX11_isCell [.ref (cw_a (cr_w K) 0), .int x1] I r J0 := by
  refine cw_entry okX11_isCell (Nat.le_of_ble_eq_true rfl) (show cw_B (cr_w K) mX11_isCell (cw_Z (cr_w K) r J0) 0 0 I 0 [(0, .ref (cw_a (cr_w K) 0)), (1, .int x1)] [] from ?_)
  refine cw_iload_n dX11_isCell_0 1 rfl rfl ?_
  refine cw_iconst (v := 0) dX11_isCell_1 (by decide) ?_
  refine cw_aload_n dX11_isCell_2 0 rfl rfl ?_
  refine cw_getf (C := RX11) (T := TX11) (N := 20) (ci := 9) inX11_isCell_RX11 0 (show 0 < 11 by decide) rfl rfl 0 (by decide) (by decide +kernel) rfl dX11_isCell_3 ?_
  refine cw_iconst (v := 0) dX11_isCell_6 (by decide) ?_
  refine cw_ialdL (j := 0) 1 (show 1 < 11 by decide) rfl 0 rfl dX11_isCell_7 rfl (by decide) (by decide) ?_
  refine cw_iconst (v := 1) dX11_isCell_8 (by decide) ?_
  refine cw_isub dX11_isCell_9 ?_
  obtain ⟨v_10, J_10, hc_10, h⟩ := h
  refine cw_callS (As := [.int x1, .int 0, .int ((I 1 0) - 1)]) hc_10 okX11_in rfl gX11_isCell_X11_in (by decide) rfl rfl (Nat.le_of_ble_eq_true rfl) dX11_isCell_10 ?_
  exact cw_bret rfl dX11_isCell_13 h.1 h.2
set_option maxRecDepth 20000 in
set_option maxHeartbeats 4000000 in
theorem eX11_isContent_0 {K : cw_K} {r : Option Value} {J0 I : cw_M} {x1 : Int32} (h : (∃ (v_2 : Int32) (J_2 : cw_M), cw_C (cr_w K) mX11_welfareOf [.ref (cw_a (cr_w K) 0), .int x1] I (some (.int v_2)) J_2 ∧ (∃ (v_14 : Int32) (J_14 : cw_M), cw_C (cr_w K) mX11_totalOf [.ref (cw_a (cr_w K) 0), .int x1] J_2 (some (.int v_14)) J_14 ∧ (((v_2 * (J_2 1 1)) < v_14 → (r = some (.int 0) ∧ J0 = J_14)) ∧ (¬ (v_2 * (J_2 1 1)) < v_14 → (r = some (.int 1) ∧ J0 = J_14)))))) : cw_C (cr_w K) mX11_isContent [.ref (cw_a (cr_w K) 0), .int x1] I r J0 := by
  refine cw_entry okX11_isContent (Nat.le_of_ble_eq_true rfl) (show cw_B (cr_w K) mX11_isContent (cw_Z (cr_w K) r J0) 0 0 I 0 [(0, .ref (cw_a (cr_w K) 0)), (1, .int x1)] [] from ?_)
  refine cw_aload_n dX11_isContent_0 0 rfl rfl ?_
  refine cw_iload_n dX11_isContent_1 1 rfl rfl ?_
  obtain ⟨v_2, J_2, hc_2, h⟩ := h
  refine cw_callV (o := 0) (As := [.int x1]) hc_2 okX11_welfareOf rfl gX11_isContent_X11_welfareOf (by decide) (show 0 < 11 by decide) rfl (ci := 9) rfl rfl (Nat.le_of_ble_eq_true rfl) dX11_isContent_2 ?_
  refine cw_aload_n dX11_isContent_5 0 rfl rfl ?_
  refine cw_getf (C := RX11) (T := TX11) (N := 20) (ci := 9) inX11_isContent_RX11 0 (show 0 < 11 by decide) rfl rfl 0 (by decide) (by decide +kernel) rfl dX11_isContent_6 ?_
  refine cw_iconst (v := 1) dX11_isContent_9 (by decide) ?_
  refine cw_ialdL (j := 1) 1 (show 1 < 11 by decide) rfl 0 rfl dX11_isContent_10 rfl (by decide) (by decide) ?_
  refine cw_imul dX11_isContent_11 ?_
  refine cw_aload_n dX11_isContent_12 0 rfl rfl ?_
  refine cw_iload_n dX11_isContent_13 1 rfl rfl ?_
  obtain ⟨v_14, J_14, hc_14, h⟩ := h
  refine cw_callV (o := 0) (As := [.int x1]) hc_14 okX11_totalOf rfl gX11_isContent_X11_totalOf (by decide) (show 0 < 11 by decide) rfl (ci := 9) rfl rfl (Nat.le_of_ble_eq_true rfl) dX11_isContent_14 ?_
  refine cw_icmp_lt (tgt := 24) dX11_isContent_17 (by decide) (fun q => ?_) (fun q => ?_)
  · have h := h.1 q
    refine cw_iconst (v := 0) dX11_isContent_24 (by decide) ?_
    exact cw_bret rfl dX11_isContent_25 (by decide) h
  · have h := h.2 q
    refine cw_iconst (v := 1) dX11_isContent_20 (by decide) ?_
    refine cw_goto (tgt := 25) dX11_isContent_21 (by decide) ?_
    exact cw_bret rfl dX11_isContent_25 (by decide) h
set_option maxRecDepth 20000 in
set_option maxHeartbeats 4000000 in
theorem eX11_isDigit {K : cw_K} {r : Option Value} {J0 I : cw_M} {x0 : Int32} (h : ((x0 < 48 → (r = some (.int 0) ∧ J0 = I)) ∧ (¬ x0 < 48 → ((57 < x0 → (r = some (.int 0) ∧ J0 = I)) ∧ (¬ 57 < x0 → (r = some (.int 1) ∧ J0 = I)))))) : cw_C (cr_w K) mX11_isDigit [.int x0] I r J0 := by
  refine cw_entry okX11_isDigit (Nat.le_of_ble_eq_true rfl) (show cw_B (cr_w K) mX11_isDigit (cw_Z (cr_w K) r J0) 0 0 I 0 [(0, .int x0)] [] from ?_)
  refine cw_iload_n dX11_isDigit_0 0 rfl rfl ?_
  refine cw_bipush (v := 48) dX11_isDigit_1 (by decide) ?_
  refine cw_icmp_lt (tgt := 16) dX11_isDigit_3 (by decide) (fun q => ?_) (fun q => ?_)
  · have h := h.1 q
    refine cw_iconst (v := 0) dX11_isDigit_16 (by decide) ?_
    exact cw_bret rfl dX11_isDigit_17 (by decide) h
  · have h := h.2 q
    refine cw_iload_n dX11_isDigit_6 0 rfl rfl ?_
    refine cw_bipush (v := 57) dX11_isDigit_7 (by decide) ?_
    refine cw_icmp_gt (tgt := 16) dX11_isDigit_9 (by decide) (fun q => ?_) (fun q => ?_)
    · have h := h.1 q
      refine cw_iconst (v := 0) dX11_isDigit_16 (by decide) ?_
      exact cw_bret rfl dX11_isDigit_17 (by decide) h
    · have h := h.2 q
      refine cw_iconst (v := 1) dX11_isDigit_12 (by decide) ?_
      refine cw_goto (tgt := 17) dX11_isDigit_13 (by decide) ?_
      exact cw_bret rfl dX11_isDigit_17 (by decide) h
set_option maxRecDepth 20000 in
set_option maxHeartbeats 4000000 in
theorem eX11_isMild_0 {K : cw_K} {r : Option Value} {J0 I : cw_M} {x1 : Int32} {x2 : Int32} (h : (∃ (v_3 : Int32) (J_3 : cw_M), cw_C (cr_w K) mX11_areSiblings [.ref (cw_a (cr_w K) 0), .int x1, .int x2] I (some (.int v_3)) J_3 ∧ ((¬ v_3 = 0 → ((v_3 = 0 → (∃ (v_36 : Int32) (J_36 : cw_M), cw_C (cr_w K) mX11_fails [.ref (cw_a (cr_w K) 0), .int 0, .int 0, .int 0] J_3 (some (.int v_36)) J_36 ∧ ((v_36 = 0 → (∃ (v_47 : Int32) (J_47 : cw_M), cw_C (cr_w K) mX11_hasMildEnvy [.ref (cw_a (cr_w K) 0), .int x1, .int x2] J_36 (some (.int v_47)) J_47 ∧ ((v_47 = 0 ∨ v_47 = 1) ∧ (r = some (.int v_47) ∧ J0 = J_47)))) ∧ (¬ v_36 = 0 → (r = some (.int 0) ∧ J0 = J_36))))) ∧ (¬ v_3 = 0 → (∃ (v_24 : Int32) (J_24 : cw_M), cw_C (cr_w K) mX11_hasEnvy [.ref (cw_a (cr_w K) 0), .int x1, .int x2] J_3 (some (.int v_24)) J_24 ∧ ((¬ v_24 = 0 → (∃ (v_36 : Int32) (J_36 : cw_M), cw_C (cr_w K) mX11_fails [.ref (cw_a (cr_w K) 0), .int 0, .int 0, .int 0] J_24 (some (.int v_36)) J_36 ∧ ((v_36 = 0 → (∃ (v_47 : Int32) (J_47 : cw_M), cw_C (cr_w K) mX11_hasMildEnvy [.ref (cw_a (cr_w K) 0), .int x1, .int x2] J_36 (some (.int v_47)) J_47 ∧ ((v_47 = 0 ∨ v_47 = 1) ∧ (r = some (.int v_47) ∧ J0 = J_47)))) ∧ (¬ v_36 = 0 → (r = some (.int 0) ∧ J0 = J_36))))) ∧ (v_24 = 0 → (∃ (v_36 : Int32) (J_36 : cw_M), cw_C (cr_w K) mX11_fails [.ref (cw_a (cr_w K) 0), .int 0, .int 1, .int 0] J_24 (some (.int v_36)) J_36 ∧ ((v_36 = 0 → (∃ (v_47 : Int32) (J_47 : cw_M), cw_C (cr_w K) mX11_hasMildEnvy [.ref (cw_a (cr_w K) 0), .int x1, .int x2] J_36 (some (.int v_47)) J_47 ∧ ((v_47 = 0 ∨ v_47 = 1) ∧ (r = some (.int v_47) ∧ J0 = J_47)))) ∧ (¬ v_36 = 0 → (r = some (.int 0) ∧ J0 = J_36)))))))))) ∧ (v_3 = 0 → ((v_3 = 0 → (∃ (v_36 : Int32) (J_36 : cw_M), cw_C (cr_w K) mX11_fails [.ref (cw_a (cr_w K) 0), .int 1, .int 0, .int 0] J_3 (some (.int v_36)) J_36 ∧ ((v_36 = 0 → (∃ (v_47 : Int32) (J_47 : cw_M), cw_C (cr_w K) mX11_hasMildEnvy [.ref (cw_a (cr_w K) 0), .int x1, .int x2] J_36 (some (.int v_47)) J_47 ∧ ((v_47 = 0 ∨ v_47 = 1) ∧ (r = some (.int v_47) ∧ J0 = J_47)))) ∧ (¬ v_36 = 0 → (r = some (.int 0) ∧ J0 = J_36))))) ∧ (¬ v_3 = 0 → (∃ (v_24 : Int32) (J_24 : cw_M), cw_C (cr_w K) mX11_hasEnvy [.ref (cw_a (cr_w K) 0), .int x1, .int x2] J_3 (some (.int v_24)) J_24 ∧ ((¬ v_24 = 0 → (∃ (v_36 : Int32) (J_36 : cw_M), cw_C (cr_w K) mX11_fails [.ref (cw_a (cr_w K) 0), .int 1, .int 0, .int 0] J_24 (some (.int v_36)) J_36 ∧ ((v_36 = 0 → (∃ (v_47 : Int32) (J_47 : cw_M), cw_C (cr_w K) mX11_hasMildEnvy [.ref (cw_a (cr_w K) 0), .int x1, .int x2] J_36 (some (.int v_47)) J_47 ∧ ((v_47 = 0 ∨ v_47 = 1) ∧ (r = some (.int v_47) ∧ J0 = J_47)))) ∧ (¬ v_36 = 0 → (r = some (.int 0) ∧ J0 = J_36))))) ∧ (v_24 = 0 → (∃ (v_36 : Int32) (J_36 : cw_M), cw_C (cr_w K) mX11_fails [.ref (cw_a (cr_w K) 0), .int 1, .int 1, .int 0] J_24 (some (.int v_36)) J_36 ∧ ((v_36 = 0 → (∃ (v_47 : Int32) (J_47 : cw_M), cw_C (cr_w K) mX11_hasMildEnvy [.ref (cw_a (cr_w K) 0), .int x1, .int x2] J_36 (some (.int v_47)) J_47 ∧ ((v_47 = 0 ∨ v_47 = 1) ∧ (r = some (.int v_47) ∧ J0 = J_47)))) ∧ (¬ v_36 = 0 → (r = some (.int 0) ∧ J0 = J_36))))))))))))) : cw_C (cr_w K) mX11_isMild [.ref (cw_a (cr_w K) 0), .int x1, .int x2] I r J0 := by
  refine cw_entry okX11_isMild (Nat.le_of_ble_eq_true rfl) (show cw_B (cr_w K) mX11_isMild (cw_Z (cr_w K) r J0) 0 0 I 0 [(0, .ref (cw_a (cr_w K) 0)), (1, .int x1), (2, .int x2)] [] from ?_)
  refine cw_aload_n dX11_isMild_0 0 rfl rfl ?_
  refine cw_iload_n dX11_isMild_1 1 rfl rfl ?_
  refine cw_iload_n dX11_isMild_2 2 rfl rfl ?_
  obtain ⟨v_3, J_3, hc_3, h⟩ := h
  refine cw_callV (o := 0) (As := [.int x1, .int x2]) hc_3 okX11_areSiblings rfl gX11_isMild_X11_areSiblings (by decide) (show 0 < 11 by decide) rfl (ci := 9) rfl rfl (Nat.le_of_ble_eq_true rfl) dX11_isMild_3 ?_
  refine cw_istore_n dX11_isMild_6 rfl (by decide) rfl ?_
  refine cw_aload_n dX11_isMild_7 1 rfl rfl ?_
  refine cw_iload_n dX11_isMild_8 0 rfl rfl ?_
  refine cw_if_ne (tgt := 16) dX11_isMild_9 (by decide) (fun q => ?_) (fun q => ?_)
  · have h := h.1 q
    refine cw_iconst (v := 0) dX11_isMild_16 (by decide) ?_
    refine cw_iload_n dX11_isMild_17 0 rfl rfl ?_
    refine cw_if_eq (tgt := 34) dX11_isMild_18 (by decide) (fun q => ?_) (fun q => ?_)
    · have h := h.1 q
      refine cw_iconst (v := 0) dX11_isMild_34 (by decide) ?_
      refine cw_iconst (v := 0) dX11_isMild_35 (by decide) ?_
      obtain ⟨v_36, J_36, hc_36, h⟩ := h
      refine cw_callV (o := 0) (As := [.int 0, .int 0, .int 0]) hc_36 okX11_fails rfl gX11_isMild_X11_fails (by decide) (show 0 < 11 by decide) rfl (ci := 9) rfl rfl (Nat.le_of_ble_eq_true rfl) dX11_isMild_36 ?_
      refine cw_if_eq (tgt := 44) dX11_isMild_39 (by decide) (fun q => ?_) (fun q => ?_)
      · have h := h.1 q
        refine cw_aload_n dX11_isMild_44 1 rfl rfl ?_
        refine cw_iload_n dX11_isMild_45 2 rfl rfl ?_
        refine cw_iload_n dX11_isMild_46 3 rfl rfl ?_
        obtain ⟨v_47, J_47, hc_47, h⟩ := h
        refine cw_callV (o := 0) (As := [.int x1, .int x2]) hc_47 okX11_hasMildEnvy rfl gX11_isMild_X11_hasMildEnvy (by decide) (show 0 < 11 by decide) rfl (ci := 9) rfl rfl (Nat.le_of_ble_eq_true rfl) dX11_isMild_47 ?_
        exact cw_bret rfl dX11_isMild_50 h.1 h.2
      · have h := h.2 q
        refine cw_iconst (v := 0) dX11_isMild_42 (by decide) ?_
        exact cw_bret rfl dX11_isMild_43 (by decide) h
    · have h := h.2 q
      refine cw_aload_n dX11_isMild_21 1 rfl rfl ?_
      refine cw_iload_n dX11_isMild_22 2 rfl rfl ?_
      refine cw_iload_n dX11_isMild_23 3 rfl rfl ?_
      obtain ⟨v_24, J_24, hc_24, h⟩ := h
      refine cw_callV (o := 0) (As := [.int x1, .int x2]) hc_24 okX11_hasEnvy rfl gX11_isMild_X11_hasEnvy (by decide) (show 0 < 11 by decide) rfl (ci := 9) rfl rfl (Nat.le_of_ble_eq_true rfl) dX11_isMild_24 ?_
      refine cw_if_ne (tgt := 34) dX11_isMild_27 (by decide) (fun q => ?_) (fun q => ?_)
      · have h := h.1 q
        refine cw_iconst (v := 0) dX11_isMild_34 (by decide) ?_
        refine cw_iconst (v := 0) dX11_isMild_35 (by decide) ?_
        obtain ⟨v_36, J_36, hc_36, h⟩ := h
        refine cw_callV (o := 0) (As := [.int 0, .int 0, .int 0]) hc_36 okX11_fails rfl gX11_isMild_X11_fails (by decide) (show 0 < 11 by decide) rfl (ci := 9) rfl rfl (Nat.le_of_ble_eq_true rfl) dX11_isMild_36 ?_
        refine cw_if_eq (tgt := 44) dX11_isMild_39 (by decide) (fun q => ?_) (fun q => ?_)
        · have h := h.1 q
          refine cw_aload_n dX11_isMild_44 1 rfl rfl ?_
          refine cw_iload_n dX11_isMild_45 2 rfl rfl ?_
          refine cw_iload_n dX11_isMild_46 3 rfl rfl ?_
          obtain ⟨v_47, J_47, hc_47, h⟩ := h
          refine cw_callV (o := 0) (As := [.int x1, .int x2]) hc_47 okX11_hasMildEnvy rfl gX11_isMild_X11_hasMildEnvy (by decide) (show 0 < 11 by decide) rfl (ci := 9) rfl rfl (Nat.le_of_ble_eq_true rfl) dX11_isMild_47 ?_
          exact cw_bret rfl dX11_isMild_50 h.1 h.2
        · have h := h.2 q
          refine cw_iconst (v := 0) dX11_isMild_42 (by decide) ?_
          exact cw_bret rfl dX11_isMild_43 (by decide) h
      · have h := h.2 q
        refine cw_iconst (v := 1) dX11_isMild_30 (by decide) ?_
        refine cw_goto (tgt := 35) dX11_isMild_31 (by decide) ?_
        refine cw_iconst (v := 0) dX11_isMild_35 (by decide) ?_
        obtain ⟨v_36, J_36, hc_36, h⟩ := h
        refine cw_callV (o := 0) (As := [.int 0, .int 1, .int 0]) hc_36 okX11_fails rfl gX11_isMild_X11_fails (by decide) (show 0 < 11 by decide) rfl (ci := 9) rfl rfl (Nat.le_of_ble_eq_true rfl) dX11_isMild_36 ?_
        refine cw_if_eq (tgt := 44) dX11_isMild_39 (by decide) (fun q => ?_) (fun q => ?_)
        · have h := h.1 q
          refine cw_aload_n dX11_isMild_44 1 rfl rfl ?_
          refine cw_iload_n dX11_isMild_45 2 rfl rfl ?_
          refine cw_iload_n dX11_isMild_46 3 rfl rfl ?_
          obtain ⟨v_47, J_47, hc_47, h⟩ := h
          refine cw_callV (o := 0) (As := [.int x1, .int x2]) hc_47 okX11_hasMildEnvy rfl gX11_isMild_X11_hasMildEnvy (by decide) (show 0 < 11 by decide) rfl (ci := 9) rfl rfl (Nat.le_of_ble_eq_true rfl) dX11_isMild_47 ?_
          exact cw_bret rfl dX11_isMild_50 h.1 h.2
        · have h := h.2 q
          refine cw_iconst (v := 0) dX11_isMild_42 (by decide) ?_
          exact cw_bret rfl dX11_isMild_43 (by decide) h
  · have h := h.2 q
    refine cw_iconst (v := 1) dX11_isMild_12 (by decide) ?_
    refine cw_goto (tgt := 17) dX11_isMild_13 (by decide) ?_
    refine cw_iload_n dX11_isMild_17 0 rfl rfl ?_
    refine cw_if_eq (tgt := 34) dX11_isMild_18 (by decide) (fun q => ?_) (fun q => ?_)
    · have h := h.1 q
      refine cw_iconst (v := 0) dX11_isMild_34 (by decide) ?_
      refine cw_iconst (v := 0) dX11_isMild_35 (by decide) ?_
      obtain ⟨v_36, J_36, hc_36, h⟩ := h
      refine cw_callV (o := 0) (As := [.int 1, .int 0, .int 0]) hc_36 okX11_fails rfl gX11_isMild_X11_fails (by decide) (show 0 < 11 by decide) rfl (ci := 9) rfl rfl (Nat.le_of_ble_eq_true rfl) dX11_isMild_36 ?_
      refine cw_if_eq (tgt := 44) dX11_isMild_39 (by decide) (fun q => ?_) (fun q => ?_)
      · have h := h.1 q
        refine cw_aload_n dX11_isMild_44 1 rfl rfl ?_
        refine cw_iload_n dX11_isMild_45 2 rfl rfl ?_
        refine cw_iload_n dX11_isMild_46 3 rfl rfl ?_
        obtain ⟨v_47, J_47, hc_47, h⟩ := h
        refine cw_callV (o := 0) (As := [.int x1, .int x2]) hc_47 okX11_hasMildEnvy rfl gX11_isMild_X11_hasMildEnvy (by decide) (show 0 < 11 by decide) rfl (ci := 9) rfl rfl (Nat.le_of_ble_eq_true rfl) dX11_isMild_47 ?_
        exact cw_bret rfl dX11_isMild_50 h.1 h.2
      · have h := h.2 q
        refine cw_iconst (v := 0) dX11_isMild_42 (by decide) ?_
        exact cw_bret rfl dX11_isMild_43 (by decide) h
    · have h := h.2 q
      refine cw_aload_n dX11_isMild_21 1 rfl rfl ?_
      refine cw_iload_n dX11_isMild_22 2 rfl rfl ?_
      refine cw_iload_n dX11_isMild_23 3 rfl rfl ?_
      obtain ⟨v_24, J_24, hc_24, h⟩ := h
      refine cw_callV (o := 0) (As := [.int x1, .int x2]) hc_24 okX11_hasEnvy rfl gX11_isMild_X11_hasEnvy (by decide) (show 0 < 11 by decide) rfl (ci := 9) rfl rfl (Nat.le_of_ble_eq_true rfl) dX11_isMild_24 ?_
      refine cw_if_ne (tgt := 34) dX11_isMild_27 (by decide) (fun q => ?_) (fun q => ?_)
      · have h := h.1 q
        refine cw_iconst (v := 0) dX11_isMild_34 (by decide) ?_
        refine cw_iconst (v := 0) dX11_isMild_35 (by decide) ?_
        obtain ⟨v_36, J_36, hc_36, h⟩ := h
        refine cw_callV (o := 0) (As := [.int 1, .int 0, .int 0]) hc_36 okX11_fails rfl gX11_isMild_X11_fails (by decide) (show 0 < 11 by decide) rfl (ci := 9) rfl rfl (Nat.le_of_ble_eq_true rfl) dX11_isMild_36 ?_
        refine cw_if_eq (tgt := 44) dX11_isMild_39 (by decide) (fun q => ?_) (fun q => ?_)
        · have h := h.1 q
          refine cw_aload_n dX11_isMild_44 1 rfl rfl ?_
          refine cw_iload_n dX11_isMild_45 2 rfl rfl ?_
          refine cw_iload_n dX11_isMild_46 3 rfl rfl ?_
          obtain ⟨v_47, J_47, hc_47, h⟩ := h
          refine cw_callV (o := 0) (As := [.int x1, .int x2]) hc_47 okX11_hasMildEnvy rfl gX11_isMild_X11_hasMildEnvy (by decide) (show 0 < 11 by decide) rfl (ci := 9) rfl rfl (Nat.le_of_ble_eq_true rfl) dX11_isMild_47 ?_
          exact cw_bret rfl dX11_isMild_50 h.1 h.2
        · have h := h.2 q
          refine cw_iconst (v := 0) dX11_isMild_42 (by decide) ?_
          exact cw_bret rfl dX11_isMild_43 (by decide) h
      · have h := h.2 q
        refine cw_iconst (v := 1) dX11_isMild_30 (by decide) ?_
        refine cw_goto (tgt := 35) dX11_isMild_31 (by decide) ?_
        refine cw_iconst (v := 0) dX11_isMild_35 (by decide) ?_
        obtain ⟨v_36, J_36, hc_36, h⟩ := h
        refine cw_callV (o := 0) (As := [.int 1, .int 1, .int 0]) hc_36 okX11_fails rfl gX11_isMild_X11_fails (by decide) (show 0 < 11 by decide) rfl (ci := 9) rfl rfl (Nat.le_of_ble_eq_true rfl) dX11_isMild_36 ?_
        refine cw_if_eq (tgt := 44) dX11_isMild_39 (by decide) (fun q => ?_) (fun q => ?_)
        · have h := h.1 q
          refine cw_aload_n dX11_isMild_44 1 rfl rfl ?_
          refine cw_iload_n dX11_isMild_45 2 rfl rfl ?_
          refine cw_iload_n dX11_isMild_46 3 rfl rfl ?_
          obtain ⟨v_47, J_47, hc_47, h⟩ := h
          refine cw_callV (o := 0) (As := [.int x1, .int x2]) hc_47 okX11_hasMildEnvy rfl gX11_isMild_X11_hasMildEnvy (by decide) (show 0 < 11 by decide) rfl (ci := 9) rfl rfl (Nat.le_of_ble_eq_true rfl) dX11_isMild_47 ?_
          exact cw_bret rfl dX11_isMild_50 h.1 h.2
        · have h := h.2 q
          refine cw_iconst (v := 0) dX11_isMild_42 (by decide) ?_
          exact cw_bret rfl dX11_isMild_43 (by decide) h
set_option maxRecDepth 20000 in
set_option maxHeartbeats 4000000 in
theorem eX11_isRange_0 {K : cw_K} {r : Option Value} {J0 I : cw_M} {x1 : Int32} {x2 : Int32} (h : (∃ (v_2 : Int32) (J_2 : cw_M), cw_C (cr_w K) mX11_isCell [.ref (cw_a (cr_w K) 0), .int x1] I (some (.int v_2)) J_2 ∧ ((v_2 = 0 → (r = some (.int 0) ∧ J0 = J_2)) ∧ (¬ v_2 = 0 → (∃ (v_10 : Int32) (J_10 : cw_M), cw_C (cr_w K) mX11_isCell [.ref (cw_a (cr_w K) 0), .int x2] J_2 (some (.int v_10)) J_10 ∧ ((v_10 = 0 → (r = some (.int 0) ∧ J0 = J_10)) ∧ (¬ v_10 = 0 → ((x2 < x1 → (r = some (.int 0) ∧ J0 = J_10)) ∧ (¬ x2 < x1 → (r = some (.int 1) ∧ J0 = J_10)))))))))) : cw_C (cr_w K) mX11_isRange [.ref (cw_a (cr_w K) 0), .int x1, .int x2] I r J0 := by
  refine cw_entry okX11_isRange (Nat.le_of_ble_eq_true rfl) (show cw_B (cr_w K) mX11_isRange (cw_Z (cr_w K) r J0) 0 0 I 0 [(0, .ref (cw_a (cr_w K) 0)), (1, .int x1), (2, .int x2)] [] from ?_)
  refine cw_aload_n dX11_isRange_0 0 rfl rfl ?_
  refine cw_iload_n dX11_isRange_1 1 rfl rfl ?_
  obtain ⟨v_2, J_2, hc_2, h⟩ := h
  refine cw_callV (o := 0) (As := [.int x1]) hc_2 okX11_isCell rfl gX11_isRange_X11_isCell (by decide) (show 0 < 11 by decide) rfl (ci := 9) rfl rfl (Nat.le_of_ble_eq_true rfl) dX11_isRange_2 ?_
  refine cw_if_eq (tgt := 25) dX11_isRange_5 (by decide) (fun q => ?_) (fun q => ?_)
  · have h := h.1 q
    refine cw_iconst (v := 0) dX11_isRange_25 (by decide) ?_
    exact cw_bret rfl dX11_isRange_26 (by decide) h
  · have h := h.2 q
    refine cw_aload_n dX11_isRange_8 0 rfl rfl ?_
    refine cw_iload_n dX11_isRange_9 2 rfl rfl ?_
    obtain ⟨v_10, J_10, hc_10, h⟩ := h
    refine cw_callV (o := 0) (As := [.int x2]) hc_10 okX11_isCell rfl gX11_isRange_X11_isCell (by decide) (show 0 < 11 by decide) rfl (ci := 9) rfl rfl (Nat.le_of_ble_eq_true rfl) dX11_isRange_10 ?_
    refine cw_if_eq (tgt := 25) dX11_isRange_13 (by decide) (fun q => ?_) (fun q => ?_)
    · have h := h.1 q
      refine cw_iconst (v := 0) dX11_isRange_25 (by decide) ?_
      exact cw_bret rfl dX11_isRange_26 (by decide) h
    · have h := h.2 q
      refine cw_iload_n dX11_isRange_16 1 rfl rfl ?_
      refine cw_iload_n dX11_isRange_17 2 rfl rfl ?_
      refine cw_icmp_gt (tgt := 25) dX11_isRange_18 (by decide) (fun q => ?_) (fun q => ?_)
      · have h := h.1 q
        refine cw_iconst (v := 0) dX11_isRange_25 (by decide) ?_
        exact cw_bret rfl dX11_isRange_26 (by decide) h
      · have h := h.2 q
        refine cw_iconst (v := 1) dX11_isRange_21 (by decide) ?_
        refine cw_goto (tgt := 26) dX11_isRange_22 (by decide) ?_
        exact cw_bret rfl dX11_isRange_26 (by decide) h
set_option maxRecDepth 20000 in
set_option maxHeartbeats 4000000 in
theorem eX11_isSatisfied_0 {K : cw_K} {r : Option Value} {J0 I : cw_M} {x1 : Int32} (h : (∃ (v_3 : Int32) (J_3 : cw_M), cw_C (cr_w K) mX11_isSibling [.ref (cw_a (cr_w K) 0), .int x1] I (some (.int v_3)) J_3 ∧ ((¬ v_3 = 0 → (∃ (v_16 : Int32) (J_16 : cw_M), cw_C (cr_w K) mX11_fails [.ref (cw_a (cr_w K) 0), .int 0, .int 0, .int 0] J_3 (some (.int v_16)) J_16 ∧ ((v_16 = 0 → (∃ (v_26 : Int32) (J_26 : cw_M), cw_C (cr_w K) mX11_isContent [.ref (cw_a (cr_w K) 0), .int x1] J_16 (some (.int v_26)) J_26 ∧ ((v_26 = 0 ∨ v_26 = 1) ∧ (r = some (.int v_26) ∧ J0 = J_26)))) ∧ (¬ v_16 = 0 → (r = some (.int 0) ∧ J0 = J_16))))) ∧ (v_3 = 0 → (∃ (v_16 : Int32) (J_16 : cw_M), cw_C (cr_w K) mX11_fails [.ref (cw_a (cr_w K) 0), .int 1, .int 0, .int 0] J_3 (some (.int v_16)) J_16 ∧ ((v_16 = 0 → (∃ (v_26 : Int32) (J_26 : cw_M), cw_C (cr_w K) mX11_isContent [.ref (cw_a (cr_w K) 0), .int x1] J_16 (some (.int v_26)) J_26 ∧ ((v_26 = 0 ∨ v_26 = 1) ∧ (r = some (.int v_26) ∧ J0 = J_26)))) ∧ (¬ v_16 = 0 → (r = some (.int 0) ∧ J0 = J_16)))))))) : cw_C (cr_w K) mX11_isSatisfied [.ref (cw_a (cr_w K) 0), .int x1] I r J0 := by
  refine cw_entry okX11_isSatisfied (Nat.le_of_ble_eq_true rfl) (show cw_B (cr_w K) mX11_isSatisfied (cw_Z (cr_w K) r J0) 0 0 I 0 [(0, .ref (cw_a (cr_w K) 0)), (1, .int x1)] [] from ?_)
  refine cw_aload_n dX11_isSatisfied_0 0 rfl rfl ?_
  refine cw_aload_n dX11_isSatisfied_1 0 rfl rfl ?_
  refine cw_iload_n dX11_isSatisfied_2 1 rfl rfl ?_
  obtain ⟨v_3, J_3, hc_3, h⟩ := h
  refine cw_callV (o := 0) (As := [.int x1]) hc_3 okX11_isSibling rfl gX11_isSatisfied_X11_isSibling (by decide) (show 0 < 11 by decide) rfl (ci := 9) rfl rfl (Nat.le_of_ble_eq_true rfl) dX11_isSatisfied_3 ?_
  refine cw_if_ne (tgt := 13) dX11_isSatisfied_6 (by decide) (fun q => ?_) (fun q => ?_)
  · have h := h.1 q
    refine cw_iconst (v := 0) dX11_isSatisfied_13 (by decide) ?_
    refine cw_iconst (v := 0) dX11_isSatisfied_14 (by decide) ?_
    refine cw_iconst (v := 0) dX11_isSatisfied_15 (by decide) ?_
    obtain ⟨v_16, J_16, hc_16, h⟩ := h
    refine cw_callV (o := 0) (As := [.int 0, .int 0, .int 0]) hc_16 okX11_fails rfl gX11_isSatisfied_X11_fails (by decide) (show 0 < 11 by decide) rfl (ci := 9) rfl rfl (Nat.le_of_ble_eq_true rfl) dX11_isSatisfied_16 ?_
    refine cw_if_eq (tgt := 24) dX11_isSatisfied_19 (by decide) (fun q => ?_) (fun q => ?_)
    · have h := h.1 q
      refine cw_aload_n dX11_isSatisfied_24 0 rfl rfl ?_
      refine cw_iload_n dX11_isSatisfied_25 1 rfl rfl ?_
      obtain ⟨v_26, J_26, hc_26, h⟩ := h
      refine cw_callV (o := 0) (As := [.int x1]) hc_26 okX11_isContent rfl gX11_isSatisfied_X11_isContent (by decide) (show 0 < 11 by decide) rfl (ci := 9) rfl rfl (Nat.le_of_ble_eq_true rfl) dX11_isSatisfied_26 ?_
      exact cw_bret rfl dX11_isSatisfied_29 h.1 h.2
    · have h := h.2 q
      refine cw_iconst (v := 0) dX11_isSatisfied_22 (by decide) ?_
      exact cw_bret rfl dX11_isSatisfied_23 (by decide) h
  · have h := h.2 q
    refine cw_iconst (v := 1) dX11_isSatisfied_9 (by decide) ?_
    refine cw_goto (tgt := 14) dX11_isSatisfied_10 (by decide) ?_
    refine cw_iconst (v := 0) dX11_isSatisfied_14 (by decide) ?_
    refine cw_iconst (v := 0) dX11_isSatisfied_15 (by decide) ?_
    obtain ⟨v_16, J_16, hc_16, h⟩ := h
    refine cw_callV (o := 0) (As := [.int 1, .int 0, .int 0]) hc_16 okX11_fails rfl gX11_isSatisfied_X11_fails (by decide) (show 0 < 11 by decide) rfl (ci := 9) rfl rfl (Nat.le_of_ble_eq_true rfl) dX11_isSatisfied_16 ?_
    refine cw_if_eq (tgt := 24) dX11_isSatisfied_19 (by decide) (fun q => ?_) (fun q => ?_)
    · have h := h.1 q
      refine cw_aload_n dX11_isSatisfied_24 0 rfl rfl ?_
      refine cw_iload_n dX11_isSatisfied_25 1 rfl rfl ?_
      obtain ⟨v_26, J_26, hc_26, h⟩ := h
      refine cw_callV (o := 0) (As := [.int x1]) hc_26 okX11_isContent rfl gX11_isSatisfied_X11_isContent (by decide) (show 0 < 11 by decide) rfl (ci := 9) rfl rfl (Nat.le_of_ble_eq_true rfl) dX11_isSatisfied_26 ?_
      exact cw_bret rfl dX11_isSatisfied_29 h.1 h.2
    · have h := h.2 q
      refine cw_iconst (v := 0) dX11_isSatisfied_22 (by decide) ?_
      exact cw_bret rfl dX11_isSatisfied_23 (by decide) h
set_option maxRecDepth 20000 in
set_option maxHeartbeats 4000000 in
theorem eX11_isShortWord_0 {K : cw_K} {r : Option Value} {J0 I : cw_M} (h : (((I 0 16) = 1 → ((((I 0 15) - (I 0 17)) ≤ 6 → (r = some (.int 1) ∧ J0 = I)) ∧ (¬ ((I 0 15) - (I 0 17)) ≤ 6 → (∃ (v_30 : Int32) (J_30 : cw_M), cw_C (cr_w K) mX11_wrong [.ref (cw_a (cr_w K) 0), .int 3] I (some (.int v_30)) J_30 ∧ ((v_30 = 0 → (r = some (.int 0) ∧ J0 = J_30)) ∧ (¬ v_30 = 0 → (r = some (.int 1) ∧ J0 = J_30))))))) ∧ (¬ (I 0 16) = 1 → (∃ (v_10 : Int32) (J_10 : cw_M), cw_C (cr_w K) mX11_wrong [.ref (cw_a (cr_w K) 0), .int 1] I (some (.int v_10)) J_10 ∧ ((v_10 = 0 ∨ v_10 = 1) ∧ (r = some (.int v_10) ∧ J0 = J_10)))))) : cw_C (cr_w K) mX11_isShortWord [.ref (cw_a (cr_w K) 0)] I r J0 := by
  refine cw_entry okX11_isShortWord (Nat.le_of_ble_eq_true rfl) (show cw_B (cr_w K) mX11_isShortWord (cw_Z (cr_w K) r J0) 0 0 I 0 [(0, .ref (cw_a (cr_w K) 0))] [] from ?_)
  refine cw_aload_n dX11_isShortWord_0 0 rfl rfl ?_
  refine cw_getf (C := RX11) (T := TX11) (N := 20) (ci := 9) inX11_isShortWord_RX11 0 (show 0 < 11 by decide) rfl rfl 16 (by decide) (by decide +kernel) rfl dX11_isShortWord_1 ?_
  refine cw_iconst (v := 1) dX11_isShortWord_4 (by decide) ?_
  refine cw_icmp_eq (tgt := 14) dX11_isShortWord_5 (by decide) (fun q => ?_) (fun q => ?_)
  · have h := h.1 q
    refine cw_aload_n dX11_isShortWord_14 0 rfl rfl ?_
    refine cw_getf (C := RX11) (T := TX11) (N := 20) (ci := 9) inX11_isShortWord_RX11 0 (show 0 < 11 by decide) rfl rfl 15 (by decide) (by decide +kernel) rfl dX11_isShortWord_15 ?_
    refine cw_aload_n dX11_isShortWord_18 0 rfl rfl ?_
    refine cw_getf (C := RX11) (T := TX11) (N := 20) (ci := 9) inX11_isShortWord_RX11 0 (show 0 < 11 by decide) rfl rfl 17 (by decide) (by decide +kernel) rfl dX11_isShortWord_19 ?_
    refine cw_isub dX11_isShortWord_22 ?_
    refine cw_bipush (v := 6) dX11_isShortWord_23 (by decide) ?_
    refine cw_icmp_le (tgt := 36) dX11_isShortWord_25 (by decide) (fun q => ?_) (fun q => ?_)
    · have h := h.1 q
      refine cw_iconst (v := 1) dX11_isShortWord_36 (by decide) ?_
      refine cw_goto (tgt := 41) dX11_isShortWord_37 (by decide) ?_
      exact cw_bret rfl dX11_isShortWord_41 (by decide) h
    · have h := h.2 q
      refine cw_aload_n dX11_isShortWord_28 0 rfl rfl ?_
      refine cw_iconst (v := 3) dX11_isShortWord_29 (by decide) ?_
      obtain ⟨v_30, J_30, hc_30, h⟩ := h
      refine cw_callV (o := 0) (As := [.int 3]) hc_30 okX11_wrong rfl gX11_isShortWord_X11_wrong (by decide) (show 0 < 11 by decide) rfl (ci := 9) rfl rfl (Nat.le_of_ble_eq_true rfl) dX11_isShortWord_30 ?_
      refine cw_if_eq (tgt := 40) dX11_isShortWord_33 (by decide) (fun q => ?_) (fun q => ?_)
      · have h := h.1 q
        refine cw_iconst (v := 0) dX11_isShortWord_40 (by decide) ?_
        exact cw_bret rfl dX11_isShortWord_41 (by decide) h
      · have h := h.2 q
        refine cw_iconst (v := 1) dX11_isShortWord_36 (by decide) ?_
        refine cw_goto (tgt := 41) dX11_isShortWord_37 (by decide) ?_
        exact cw_bret rfl dX11_isShortWord_41 (by decide) h
  · have h := h.2 q
    refine cw_aload_n dX11_isShortWord_8 0 rfl rfl ?_
    refine cw_iconst (v := 1) dX11_isShortWord_9 (by decide) ?_
    obtain ⟨v_10, J_10, hc_10, h⟩ := h
    refine cw_callV (o := 0) (As := [.int 1]) hc_10 okX11_wrong rfl gX11_isShortWord_X11_wrong (by decide) (show 0 < 11 by decide) rfl (ci := 9) rfl rfl (Nat.le_of_ble_eq_true rfl) dX11_isShortWord_10 ?_
    exact cw_bret rfl dX11_isShortWord_13 h.1 h.2
set_option maxRecDepth 20000 in
set_option maxHeartbeats 4000000 in
theorem eX11_isSibling_0 {K : cw_K} {r : Option Value} {J0 I : cw_M} {x1 : Int32} (h : (∃ (v_10 : Int32) (J_10 : cw_M), cw_C (cr_w K) mX11_in [.int x1, .int 0, .int ((I 1 1) - 1)] I (some (.int v_10)) J_10 ∧ ((v_10 = 0 ∨ v_10 = 1) ∧ (r = some (.int v_10) ∧ J0 = J_10)))) : cw_C (cr_w K) mX11_isSibling [.ref (cw_a (cr_w K) 0), .int x1] I r J0 := by
  refine cw_entry okX11_isSibling (Nat.le_of_ble_eq_true rfl) (show cw_B (cr_w K) mX11_isSibling (cw_Z (cr_w K) r J0) 0 0 I 0 [(0, .ref (cw_a (cr_w K) 0)), (1, .int x1)] [] from ?_)
  refine cw_iload_n dX11_isSibling_0 1 rfl rfl ?_
  refine cw_iconst (v := 0) dX11_isSibling_1 (by decide) ?_
  refine cw_aload_n dX11_isSibling_2 0 rfl rfl ?_
  refine cw_getf (C := RX11) (T := TX11) (N := 20) (ci := 9) inX11_isSibling_RX11 0 (show 0 < 11 by decide) rfl rfl 0 (by decide) (by decide +kernel) rfl dX11_isSibling_3 ?_
  refine cw_iconst (v := 1) dX11_isSibling_6 (by decide) ?_
  refine cw_ialdL (j := 1) 1 (show 1 < 11 by decide) rfl 0 rfl dX11_isSibling_7 rfl (by decide) (by decide) ?_
  refine cw_iconst (v := 1) dX11_isSibling_8 (by decide) ?_
  refine cw_isub dX11_isSibling_9 ?_
  obtain ⟨v_10, J_10, hc_10, h⟩ := h
  refine cw_callS (As := [.int x1, .int 0, .int ((I 1 1) - 1)]) hc_10 okX11_in rfl gX11_isSibling_X11_in (by decide) rfl rfl (Nat.le_of_ble_eq_true rfl) dX11_isSibling_10 ?_
  exact cw_bret rfl dX11_isSibling_13 h.1 h.2
set_option maxRecDepth 20000 in
set_option maxHeartbeats 4000000 in
theorem eX11_isSmall {K : cw_K} {r : Option Value} {J0 I : cw_M} {x0 : Int32} (h : ((x0 < 97 → (r = some (.int 0) ∧ J0 = I)) ∧ (¬ x0 < 97 → ((122 < x0 → (r = some (.int 0) ∧ J0 = I)) ∧ (¬ 122 < x0 → (r = some (.int 1) ∧ J0 = I)))))) : cw_C (cr_w K) mX11_isSmall [.int x0] I r J0 := by
  refine cw_entry okX11_isSmall (Nat.le_of_ble_eq_true rfl) (show cw_B (cr_w K) mX11_isSmall (cw_Z (cr_w K) r J0) 0 0 I 0 [(0, .int x0)] [] from ?_)
  refine cw_iload_n dX11_isSmall_0 0 rfl rfl ?_
  refine cw_bipush (v := 97) dX11_isSmall_1 (by decide) ?_
  refine cw_icmp_lt (tgt := 16) dX11_isSmall_3 (by decide) (fun q => ?_) (fun q => ?_)
  · have h := h.1 q
    refine cw_iconst (v := 0) dX11_isSmall_16 (by decide) ?_
    exact cw_bret rfl dX11_isSmall_17 (by decide) h
  · have h := h.2 q
    refine cw_iload_n dX11_isSmall_6 0 rfl rfl ?_
    refine cw_bipush (v := 122) dX11_isSmall_7 (by decide) ?_
    refine cw_icmp_gt (tgt := 16) dX11_isSmall_9 (by decide) (fun q => ?_) (fun q => ?_)
    · have h := h.1 q
      refine cw_iconst (v := 0) dX11_isSmall_16 (by decide) ?_
      exact cw_bret rfl dX11_isSmall_17 (by decide) h
    · have h := h.2 q
      refine cw_iconst (v := 1) dX11_isSmall_12 (by decide) ?_
      refine cw_goto (tgt := 17) dX11_isSmall_13 (by decide) ?_
      exact cw_bret rfl dX11_isSmall_17 (by decide) h
abbrev bX11_knife_0_6 (K : cw_K) (r : Option Value) (J0 : cw_M) (x1 : Int32) (I : cw_M) : Prop := cw_B (cr_w K) mX11_knife (cw_Z (cr_w K) r J0) 0 0 I 6 [(0, .ref (cw_a (cr_w K) 0)), (1, .int x1)] []
abbrev bX11_knife_0_34 (K : cw_K) (r : Option Value) (J0 : cw_M) (x1 : Int32) (x2 : Int32) (I : cw_M) : Prop := cw_B (cr_w K) mX11_knife (cw_Z (cr_w K) r J0) 0 0 I 34 [(0, .ref (cw_a (cr_w K) 0)), (1, .int x1), (2, .int x2)] []
abbrev bX11_knife_0_63 (K : cw_K) (r : Option Value) (J0 : cw_M) (x1 : Int32) (x2 : Int32) (x3 : Int32) (x4 : Int32) (x5 : Int32) (I : cw_M) : Prop := cw_B (cr_w K) mX11_knife (cw_Z (cr_w K) r J0) 0 0 I 63 [(0, .ref (cw_a (cr_w K) 0)), (1, .int x1), (2, .int x2), (3, .int x3), (4, .int x4), (5, .int x5)] []
set_option maxRecDepth 20000 in
set_option maxHeartbeats 4000000 in
theorem eX11_knife_0 {K : cw_K} {r : Option Value} {J0 I : cw_M} (h : (∃ J_1 : cw_M, cw_C (cr_w K) mX11_clear [.ref (cw_a (cr_w K) 0)] I none J_1 ∧ bX11_knife_0_6 K r J0 0 J_1)) : cw_C (cr_w K) mX11_knife [.ref (cw_a (cr_w K) 0)] I r J0 := by
  refine cw_entry okX11_knife (Nat.le_of_ble_eq_true rfl) (show cw_B (cr_w K) mX11_knife (cw_Z (cr_w K) r J0) 0 0 I 0 [(0, .ref (cw_a (cr_w K) 0))] [] from ?_)
  refine cw_aload_n dX11_knife_0 0 rfl rfl ?_
  obtain ⟨J_1, hc_1, h⟩ := h
  refine cw_callV (o := 0) (As := []) hc_1 okX11_clear rfl gX11_knife_X11_clear (by decide) (show 0 < 11 by decide) rfl (ci := 9) rfl rfl (Nat.le_of_ble_eq_true rfl) dX11_knife_1 ?_
  refine cw_iconst (v := 0) dX11_knife_4 (by decide) ?_
  refine cw_istore_n dX11_knife_5 rfl (by decide) rfl ?_
  refine cw_sub [1, 0] rfl ?_
  exact h
set_option maxRecDepth 20000 in
set_option maxHeartbeats 4000000 in
theorem tbX11_knife_0_6 {K : cw_K} {r : Option Value} {J0 I : cw_M} {x1 : Int32} (h : ((6 ≤ x1 → bX11_knife_0_34 K r J0 0 (I 1 1) I) ∧ (¬ 6 ≤ x1 → (vp_in x1 6 ∧ bX11_knife_0_6 K r J0 (x1 + 1) (cw_st I 7 x1.toNatClampNeg (vp_nar .boolean 0)))))) : bX11_knife_0_6 K r J0 x1 I := by
  refine cw_iload_n dX11_knife_6 1 rfl rfl ?_
  refine cw_bipush (v := 6) dX11_knife_7 (by decide) ?_
  refine cw_icmp_ge (tgt := 25) dX11_knife_9 (by decide) (fun q => ?_) (fun q => ?_)
  · have h := h.1 q
    refine cw_iconst (v := 0) dX11_knife_25 (by decide) ?_
    refine cw_istore_n dX11_knife_26 rfl (by decide) rfl ?_
    refine cw_aload_n dX11_knife_27 1 rfl rfl ?_
    refine cw_getf (C := RX11) (T := TX11) (N := 20) (ci := 9) inX11_knife_RX11 0 (show 0 < 11 by decide) rfl rfl 0 (by decide) (by decide +kernel) rfl dX11_knife_28 ?_
    refine cw_iconst (v := 1) dX11_knife_31 (by decide) ?_
    refine cw_ialdL (j := 1) 1 (show 1 < 11 by decide) rfl 0 rfl dX11_knife_32 rfl (by decide) (by decide) ?_
    refine cw_istore_n dX11_knife_33 rfl (by decide) rfl ?_
    refine cw_sub [2, 1, 0] rfl ?_
    exact h
  · have h := h.2 q
    refine cw_aload_n dX11_knife_12 0 rfl rfl ?_
    refine cw_getf (C := RX11) (T := TX11) (N := 20) (ci := 9) inX11_knife_RX11 0 (show 0 < 11 by decide) rfl rfl 12 (by decide) (by decide +kernel) rfl dX11_knife_13 ?_
    refine cw_iload_n dX11_knife_16 1 rfl rfl ?_
    refine cw_iconst (v := 0) dX11_knife_17 (by decide) ?_
    obtain ⟨g_18, h⟩ := h
    refine cw_zast 7 (show 7 < 11 by decide) (fun _ => rfl) 1 rfl dX11_knife_18 g_18 ?_
    refine cw_iinc (v := x1 + 1) dX11_knife_19 (j := 1) rfl rfl (by decide) rfl ?_
    refine cw_goto (tgt := 6) dX11_knife_22 (by decide) ?_
    refine cw_sub [1, 0] rfl ?_
    exact h
set_option maxRecDepth 20000 in
set_option maxHeartbeats 4000000 in
theorem tbX11_knife_0_34 {K : cw_K} {r : Option Value} {J0 I : cw_M} {x1 : Int32} {x2 : Int32} (h : ((x2 ≤ 0 → (∃ (v_168 : Int32) (J_168 : cw_M), cw_C (cr_w K) mX11_contentCount [.ref (cw_a (cr_w K) 0)] I (some (.int v_168)) J_168 ∧ (r = some (.int v_168) ∧ J0 = J_168))) ∧ (¬ x2 ≤ 0 → (((I 1 0) ≤ x1 → (∃ (v_168 : Int32) (J_168 : cw_M), cw_C (cr_w K) mX11_contentCount [.ref (cw_a (cr_w K) 0)] I (some (.int v_168)) J_168 ∧ (r = some (.int v_168) ∧ J0 = J_168))) ∧ (¬ (I 1 0) ≤ x1 → bX11_knife_0_63 K r J0 x1 x2 (-1) ((I 1 0) - 1) 0 I))))) : bX11_knife_0_34 K r J0 x1 x2 I := by
  refine cw_iload_n dX11_knife_34 2 rfl rfl ?_
  refine cw_if_le (tgt := 167) dX11_knife_35 (by decide) (fun q => ?_) (fun q => ?_)
  · have h := h.1 q
    refine cw_aload_n dX11_knife_167 0 rfl rfl ?_
    obtain ⟨v_168, J_168, hc_168, h⟩ := h
    refine cw_callV (o := 0) (As := []) hc_168 okX11_contentCount rfl gX11_knife_X11_contentCount (by decide) (show 0 < 11 by decide) rfl (ci := 9) rfl rfl (Nat.le_of_ble_eq_true rfl) dX11_knife_168 ?_
    exact cw_iret rfl dX11_knife_171 h
  · have h := h.2 q
    refine cw_iload_n dX11_knife_38 1 rfl rfl ?_
    refine cw_aload_n dX11_knife_39 0 rfl rfl ?_
    refine cw_getf (C := RX11) (T := TX11) (N := 20) (ci := 9) inX11_knife_RX11 0 (show 0 < 11 by decide) rfl rfl 0 (by decide) (by decide +kernel) rfl dX11_knife_40 ?_
    refine cw_iconst (v := 0) dX11_knife_43 (by decide) ?_
    refine cw_ialdL (j := 0) 1 (show 1 < 11 by decide) rfl 0 rfl dX11_knife_44 rfl (by decide) (by decide) ?_
    refine cw_icmp_ge (tgt := 167) dX11_knife_45 (by decide) (fun q => ?_) (fun q => ?_)
    · have h := h.1 q
      refine cw_aload_n dX11_knife_167 0 rfl rfl ?_
      obtain ⟨v_168, J_168, hc_168, h⟩ := h
      refine cw_callV (o := 0) (As := []) hc_168 okX11_contentCount rfl gX11_knife_X11_contentCount (by decide) (show 0 < 11 by decide) rfl (ci := 9) rfl rfl (Nat.le_of_ble_eq_true rfl) dX11_knife_168 ?_
      exact cw_iret rfl dX11_knife_171 h
    · have h := h.2 q
      refine cw_iconst (v := (-1)) dX11_knife_48 (by decide) ?_
      refine cw_istore_n dX11_knife_49 rfl (by decide) rfl ?_
      refine cw_aload_n dX11_knife_50 1 rfl rfl ?_
      refine cw_getf (C := RX11) (T := TX11) (N := 20) (ci := 9) inX11_knife_RX11 0 (show 0 < 11 by decide) rfl rfl 0 (by decide) (by decide +kernel) rfl dX11_knife_51 ?_
      refine cw_iconst (v := 0) dX11_knife_54 (by decide) ?_
      refine cw_ialdL (j := 0) 1 (show 1 < 11 by decide) rfl 0 rfl dX11_knife_55 rfl (by decide) (by decide) ?_
      refine cw_iconst (v := 1) dX11_knife_56 (by decide) ?_
      refine cw_isub dX11_knife_57 ?_
      refine cw_istore dX11_knife_58 (by decide) rfl ?_
      refine cw_iconst (v := 0) dX11_knife_60 (by decide) ?_
      refine cw_istore dX11_knife_61 (by decide) rfl ?_
      refine cw_sub [3, 4, 5, 2, 1, 0] rfl ?_
      exact h
set_option maxRecDepth 20000 in
set_option maxHeartbeats 4000000 in
theorem tbX11_knife_0_63 {K : cw_K} {r : Option Value} {J0 I : cw_M} {x1 : Int32} {x2 : Int32} {x3 : Int32} {x4 : Int32} {x5 : Int32} (h : (((I 1 1) ≤ x5 → (∃ J_146 : cw_M, cw_C (cr_w K) mX11_own [.ref (cw_a (cr_w K) 0), .int x3, .int x1, .int x4] I none J_146 ∧ (vp_in x3 6 ∧ bX11_knife_0_34 K r J0 (x4 + 1) (x2 + (-1)) (cw_st J_146 7 x3.toNatClampNeg (vp_nar .boolean 1))))) ∧ (¬ (I 1 1) ≤ x5 → (vp_in x5 6 ∧ (((I 7 x5.toNatClampNeg) = 0 → ((¬ x2 = 1 → (∃ (v_108 : Int32) (J_108 : cw_M), cw_C (cr_w K) mX11_markOf [.ref (cw_a (cr_w K) 0), .int x5, .int x1, .int x2] I (some (.int v_108)) J_108 ∧ ((x3 = (-1) → bX11_knife_0_63 K r J0 x1 x2 x5 v_108 (x5 + 1) J_108) ∧ (¬ x3 = (-1) → ((v_108 < x4 → bX11_knife_0_63 K r J0 x1 x2 x5 v_108 (x5 + 1) J_108) ∧ (¬ v_108 < x4 → bX11_knife_0_63 K r J0 x1 x2 x3 x4 (x5 + 1) J_108)))))) ∧ (x2 = 1 → ((x3 = (-1) → bX11_knife_0_63 K r J0 x1 x2 x5 ((I 1 0) - 1) (x5 + 1) I) ∧ (¬ x3 = (-1) → ((((I 1 0) - 1) < x4 → bX11_knife_0_63 K r J0 x1 x2 x5 ((I 1 0) - 1) (x5 + 1) I) ∧ (¬ ((I 1 0) - 1) < x4 → bX11_knife_0_63 K r J0 x1 x2 x3 x4 (x5 + 1) I))))))) ∧ (¬ (I 7 x5.toNatClampNeg) = 0 → bX11_knife_0_63 K r J0 x1 x2 x3 x4 (x5 + 1) I)))))) : bX11_knife_0_63 K r J0 x1 x2 x3 x4 x5 I := by
  refine cw_iload dX11_knife_63 5 rfl ?_
  refine cw_aload_n dX11_knife_65 0 rfl rfl ?_
  refine cw_getf (C := RX11) (T := TX11) (N := 20) (ci := 9) inX11_knife_RX11 0 (show 0 < 11 by decide) rfl rfl 0 (by decide) (by decide +kernel) rfl dX11_knife_66 ?_
  refine cw_iconst (v := 1) dX11_knife_69 (by decide) ?_
  refine cw_ialdL (j := 1) 1 (show 1 < 11 by decide) rfl 0 rfl dX11_knife_70 rfl (by decide) (by decide) ?_
  refine cw_icmp_ge (tgt := 141) dX11_knife_71 (by decide) (fun q => ?_) (fun q => ?_)
  · have h := h.1 q
    refine cw_aload_n dX11_knife_141 0 rfl rfl ?_
    refine cw_iload_n dX11_knife_142 3 rfl rfl ?_
    refine cw_iload_n dX11_knife_143 1 rfl rfl ?_
    refine cw_iload dX11_knife_144 4 rfl ?_
    obtain ⟨J_146, hc_146, h⟩ := h
    refine cw_callV (o := 0) (As := [.int x3, .int x1, .int x4]) hc_146 okX11_own rfl gX11_knife_X11_own (by decide) (show 0 < 11 by decide) rfl (ci := 9) rfl rfl (Nat.le_of_ble_eq_true rfl) dX11_knife_146 ?_
    refine cw_aload_n dX11_knife_149 0 rfl rfl ?_
    refine cw_getf (C := RX11) (T := TX11) (N := 20) (ci := 9) inX11_knife_RX11 0 (show 0 < 11 by decide) rfl rfl 12 (by decide) (by decide +kernel) rfl dX11_knife_150 ?_
    refine cw_iload_n dX11_knife_153 3 rfl rfl ?_
    refine cw_iconst (v := 1) dX11_knife_154 (by decide) ?_
    obtain ⟨g_155, h⟩ := h
    refine cw_zast 7 (show 7 < 11 by decide) (fun _ => rfl) 1 rfl dX11_knife_155 g_155 ?_
    refine cw_iload dX11_knife_156 4 rfl ?_
    refine cw_iconst (v := 1) dX11_knife_158 (by decide) ?_
    refine cw_iadd dX11_knife_159 ?_
    refine cw_istore_n dX11_knife_160 rfl (by decide) rfl ?_
    refine cw_iinc (v := x2 + (-1)) dX11_knife_161 (j := 2) rfl rfl (by decide) rfl ?_
    refine cw_goto (tgt := 34) dX11_knife_164 (by decide) ?_
    refine cw_sub [2, 1, 0] rfl ?_
    exact h
  · have h := h.2 q
    refine cw_aload_n dX11_knife_74 0 rfl rfl ?_
    refine cw_getf (C := RX11) (T := TX11) (N := 20) (ci := 9) inX11_knife_RX11 0 (show 0 < 11 by decide) rfl rfl 12 (by decide) (by decide +kernel) rfl dX11_knife_75 ?_
    refine cw_iload dX11_knife_78 5 rfl ?_
    obtain ⟨g_80, h⟩ := h
    refine cw_zald 7 (show 7 < 11 by decide) rfl 1 rfl dX11_knife_80 g_80 ?_
    refine cw_if_eq (tgt := 87) dX11_knife_81 (by decide) (fun q => ?_) (fun q => ?_)
    · have h := h.1 q
      refine cw_iload_n dX11_knife_87 2 rfl rfl ?_
      refine cw_iconst (v := 1) dX11_knife_88 (by decide) ?_
      refine cw_icmp_ne (tgt := 103) dX11_knife_89 (by decide) (fun q => ?_) (fun q => ?_)
      · have h := h.1 q
        refine cw_aload_n dX11_knife_103 0 rfl rfl ?_
        refine cw_iload dX11_knife_104 5 rfl ?_
        refine cw_iload_n dX11_knife_106 1 rfl rfl ?_
        refine cw_iload_n dX11_knife_107 2 rfl rfl ?_
        obtain ⟨v_108, J_108, hc_108, h⟩ := h
        refine cw_callV (o := 0) (As := [.int x5, .int x1, .int x2]) hc_108 okX11_markOf rfl gX11_knife_X11_markOf (by decide) (show 0 < 11 by decide) rfl (ci := 9) rfl rfl (Nat.le_of_ble_eq_true rfl) dX11_knife_108 ?_
        refine cw_istore dX11_knife_111 (by decide) rfl ?_
        refine cw_iload_n dX11_knife_113 4 rfl rfl ?_
        refine cw_iconst (v := (-1)) dX11_knife_114 (by decide) ?_
        refine cw_icmp_eq (tgt := 128) dX11_knife_115 (by decide) (fun q => ?_) (fun q => ?_)
        · have h := h.1 q
          refine cw_iload dX11_knife_128 6 rfl ?_
          refine cw_istore_n dX11_knife_130 rfl (by decide) rfl ?_
          refine cw_iload dX11_knife_131 1 rfl ?_
          refine cw_istore dX11_knife_133 (by decide) rfl ?_
          refine cw_iinc (v := x5 + 1) dX11_knife_135 (j := 6) rfl rfl (by decide) rfl ?_
          refine cw_goto (tgt := 63) dX11_knife_138 (by decide) ?_
          refine cw_sub [4, 5, 6, 2, 1, 0] rfl ?_
          exact h
        · have h := h.2 q
          refine cw_iload dX11_knife_118 0 rfl ?_
          refine cw_iload dX11_knife_120 5 rfl ?_
          refine cw_icmp_lt (tgt := 128) dX11_knife_122 (by decide) (fun q => ?_) (fun q => ?_)
          · have h := h.1 q
            refine cw_iload dX11_knife_128 6 rfl ?_
            refine cw_istore_n dX11_knife_130 rfl (by decide) rfl ?_
            refine cw_iload dX11_knife_131 1 rfl ?_
            refine cw_istore dX11_knife_133 (by decide) rfl ?_
            refine cw_iinc (v := x5 + 1) dX11_knife_135 (j := 6) rfl rfl (by decide) rfl ?_
            refine cw_goto (tgt := 63) dX11_knife_138 (by decide) ?_
            refine cw_sub [4, 5, 6, 2, 1, 0] rfl ?_
            exact h
          · have h := h.2 q
            refine cw_goto (tgt := 135) dX11_knife_125 (by decide) ?_
            refine cw_iinc (v := x5 + 1) dX11_knife_135 (j := 6) rfl rfl (by decide) rfl ?_
            refine cw_goto (tgt := 63) dX11_knife_138 (by decide) ?_
            refine cw_sub [2, 3, 4, 5, 6, 0] rfl ?_
            exact h
      · have h := h.2 q
        refine cw_aload_n dX11_knife_92 0 rfl rfl ?_
        refine cw_getf (C := RX11) (T := TX11) (N := 20) (ci := 9) inX11_knife_RX11 0 (show 0 < 11 by decide) rfl rfl 0 (by decide) (by decide +kernel) rfl dX11_knife_93 ?_
        refine cw_iconst (v := 0) dX11_knife_96 (by decide) ?_
        refine cw_ialdL (j := 0) 1 (show 1 < 11 by decide) rfl 0 rfl dX11_knife_97 rfl (by decide) (by decide) ?_
        refine cw_iconst (v := 1) dX11_knife_98 (by decide) ?_
        refine cw_isub dX11_knife_99 ?_
        refine cw_goto (tgt := 111) dX11_knife_100 (by decide) ?_
        refine cw_istore dX11_knife_111 (by decide) rfl ?_
        refine cw_iload_n dX11_knife_113 4 rfl rfl ?_
        refine cw_iconst (v := (-1)) dX11_knife_114 (by decide) ?_
        refine cw_icmp_eq (tgt := 128) dX11_knife_115 (by decide) (fun q => ?_) (fun q => ?_)
        · have h := h.1 q
          refine cw_iload dX11_knife_128 6 rfl ?_
          refine cw_istore_n dX11_knife_130 rfl (by decide) rfl ?_
          refine cw_iload dX11_knife_131 1 rfl ?_
          refine cw_istore dX11_knife_133 (by decide) rfl ?_
          refine cw_iinc (v := x5 + 1) dX11_knife_135 (j := 6) rfl rfl (by decide) rfl ?_
          refine cw_goto (tgt := 63) dX11_knife_138 (by decide) ?_
          refine cw_sub [4, 5, 6, 2, 1, 0] rfl ?_
          exact h
        · have h := h.2 q
          refine cw_iload dX11_knife_118 0 rfl ?_
          refine cw_iload dX11_knife_120 5 rfl ?_
          refine cw_icmp_lt (tgt := 128) dX11_knife_122 (by decide) (fun q => ?_) (fun q => ?_)
          · have h := h.1 q
            refine cw_iload dX11_knife_128 6 rfl ?_
            refine cw_istore_n dX11_knife_130 rfl (by decide) rfl ?_
            refine cw_iload dX11_knife_131 1 rfl ?_
            refine cw_istore dX11_knife_133 (by decide) rfl ?_
            refine cw_iinc (v := x5 + 1) dX11_knife_135 (j := 6) rfl rfl (by decide) rfl ?_
            refine cw_goto (tgt := 63) dX11_knife_138 (by decide) ?_
            refine cw_sub [4, 5, 6, 2, 1, 0] rfl ?_
            exact h
          · have h := h.2 q
            refine cw_goto (tgt := 135) dX11_knife_125 (by decide) ?_
            refine cw_iinc (v := x5 + 1) dX11_knife_135 (j := 6) rfl rfl (by decide) rfl ?_
            refine cw_goto (tgt := 63) dX11_knife_138 (by decide) ?_
            refine cw_sub [2, 3, 4, 5, 6, 0] rfl ?_
            exact h
    · have h := h.2 q
      refine cw_goto (tgt := 135) dX11_knife_84 (by decide) ?_
      refine cw_iinc (v := x5 + 1) dX11_knife_135 (j := 5) rfl rfl (by decide) rfl ?_
      refine cw_goto (tgt := 63) dX11_knife_138 (by decide) ?_
      refine cw_sub [1, 2, 3, 4, 5, 0] rfl ?_
      exact h
abbrev bX11_least_0_8 (K : cw_K) (r : Option Value) (J0 : cw_M) (x1 : Int32) (x2 : Int32) (I : cw_M) : Prop := cw_B (cr_w K) mX11_least (cw_Z (cr_w K) r J0) 0 0 I 8 [(0, .ref (cw_a (cr_w K) 0)), (1, .int x1), (2, .int x2)] []
set_option maxRecDepth 20000 in
set_option maxHeartbeats 4000000 in
theorem eX11_least_0 {K : cw_K} {r : Option Value} {J0 I : cw_M} (h : (∃ (v_2 : Int32) (J_2 : cw_M), cw_C (cr_w K) mX11_welfareOf [.ref (cw_a (cr_w K) 0), .int 0] I (some (.int v_2)) J_2 ∧ bX11_least_0_8 K r J0 v_2 1 J_2)) : cw_C (cr_w K) mX11_least [.ref (cw_a (cr_w K) 0)] I r J0 := by
  refine cw_entry okX11_least (Nat.le_of_ble_eq_true rfl) (show cw_B (cr_w K) mX11_least (cw_Z (cr_w K) r J0) 0 0 I 0 [(0, .ref (cw_a (cr_w K) 0))] [] from ?_)
  refine cw_aload_n dX11_least_0 0 rfl rfl ?_
  refine cw_iconst (v := 0) dX11_least_1 (by decide) ?_
  obtain ⟨v_2, J_2, hc_2, h⟩ := h
  refine cw_callV (o := 0) (As := [.int 0]) hc_2 okX11_welfareOf rfl gX11_least_X11_welfareOf (by decide) (show 0 < 11 by decide) rfl (ci := 9) rfl rfl (Nat.le_of_ble_eq_true rfl) dX11_least_2 ?_
  refine cw_istore_n dX11_least_5 rfl (by decide) rfl ?_
  refine cw_iconst (v := 1) dX11_least_6 (by decide) ?_
  refine cw_istore_n dX11_least_7 rfl (by decide) rfl ?_
  refine cw_sub [2, 1, 0] rfl ?_
  exact h
set_option maxRecDepth 20000 in
set_option maxHeartbeats 4000000 in
theorem tbX11_least_0_8 {K : cw_K} {r : Option Value} {J0 I : cw_M} {x1 : Int32} {x2 : Int32} (h : (((I 1 1) ≤ x2 → (r = some (.int x1) ∧ J0 = I)) ∧ (¬ (I 1 1) ≤ x2 → (∃ (v_20 : Int32) (J_20 : cw_M), cw_C (cr_w K) mX11_welfareOf [.ref (cw_a (cr_w K) 0), .int x2] I (some (.int v_20)) J_20 ∧ ((x1 ≤ v_20 → bX11_least_0_8 K r J0 x1 (x2 + 1) J_20) ∧ (¬ x1 ≤ v_20 → (∃ (v_29 : Int32) (J_29 : cw_M), cw_C (cr_w K) mX11_welfareOf [.ref (cw_a (cr_w K) 0), .int x2] J_20 (some (.int v_29)) J_29 ∧ bX11_least_0_8 K r J0 v_29 (x2 + 1) J_29))))))) : bX11_least_0_8 K r J0 x1 x2 I := by
  refine cw_iload_n dX11_least_8 2 rfl rfl ?_
  refine cw_aload_n dX11_least_9 0 rfl rfl ?_
  refine cw_getf (C := RX11) (T := TX11) (N := 20) (ci := 9) inX11_least_RX11 0 (show 0 < 11 by decide) rfl rfl 0 (by decide) (by decide +kernel) rfl dX11_least_10 ?_
  refine cw_iconst (v := 1) dX11_least_13 (by decide) ?_
  refine cw_ialdL (j := 1) 1 (show 1 < 11 by decide) rfl 0 rfl dX11_least_14 rfl (by decide) (by decide) ?_
  refine cw_icmp_ge (tgt := 43) dX11_least_15 (by decide) (fun q => ?_) (fun q => ?_)
  · have h := h.1 q
    refine cw_iload_n dX11_least_43 1 rfl rfl ?_
    exact cw_iret rfl dX11_least_44 h
  · have h := h.2 q
    refine cw_aload_n dX11_least_18 0 rfl rfl ?_
    refine cw_iload_n dX11_least_19 2 rfl rfl ?_
    obtain ⟨v_20, J_20, hc_20, h⟩ := h
    refine cw_callV (o := 0) (As := [.int x2]) hc_20 okX11_welfareOf rfl gX11_least_X11_welfareOf (by decide) (show 0 < 11 by decide) rfl (ci := 9) rfl rfl (Nat.le_of_ble_eq_true rfl) dX11_least_20 ?_
    refine cw_iload_n dX11_least_23 1 rfl rfl ?_
    refine cw_icmp_ge (tgt := 35) dX11_least_24 (by decide) (fun q => ?_) (fun q => ?_)
    · have h := h.1 q
      refine cw_iload_n dX11_least_35 1 rfl rfl ?_
      refine cw_istore_n dX11_least_36 rfl (by decide) rfl ?_
      refine cw_iinc (v := x2 + 1) dX11_least_37 (j := 2) rfl rfl (by decide) rfl ?_
      refine cw_goto (tgt := 8) dX11_least_40 (by decide) ?_
      refine cw_sub [2, 1, 0] rfl ?_
      exact h
    · have h := h.2 q
      refine cw_aload_n dX11_least_27 0 rfl rfl ?_
      refine cw_iload_n dX11_least_28 2 rfl rfl ?_
      obtain ⟨v_29, J_29, hc_29, h⟩ := h
      refine cw_callV (o := 0) (As := [.int x2]) hc_29 okX11_welfareOf rfl gX11_least_X11_welfareOf (by decide) (show 0 < 11 by decide) rfl (ci := 9) rfl rfl (Nat.le_of_ble_eq_true rfl) dX11_least_29 ?_
      refine cw_goto (tgt := 36) dX11_least_32 (by decide) ?_
      refine cw_istore_n dX11_least_36 rfl (by decide) rfl ?_
      refine cw_iinc (v := x2 + 1) dX11_least_37 (j := 2) rfl rfl (by decide) rfl ?_
      refine cw_goto (tgt := 8) dX11_least_40 (by decide) ?_
      refine cw_sub [2, 1, 0] rfl ?_
      exact h
set_option maxRecDepth 20000 in
set_option maxHeartbeats 4000000 in
theorem eX11_leastWelfare_0 {K : cw_K} {r : Option Value} {J0 I : cw_M} (h : (∃ (v_2 : Int32) (J_2 : cw_M), cw_C (cr_w K) mX11_least [.ref (cw_a (cr_w K) 0)] I (some (.int v_2)) J_2 ∧ (∃ (v_5 : Int32) (J_5 : cw_M), cw_C (cr_w K) mX11_plain [.ref (cw_a (cr_w K) 0), .int v_2] J_2 (some (.int v_5)) J_5 ∧ (r = some (.int v_5) ∧ J0 = J_5)))) : cw_C (cr_w K) mX11_leastWelfare [.ref (cw_a (cr_w K) 0)] I r J0 := by
  refine cw_entry okX11_leastWelfare (Nat.le_of_ble_eq_true rfl) (show cw_B (cr_w K) mX11_leastWelfare (cw_Z (cr_w K) r J0) 0 0 I 0 [(0, .ref (cw_a (cr_w K) 0))] [] from ?_)
  refine cw_aload_n dX11_leastWelfare_0 0 rfl rfl ?_
  refine cw_aload_n dX11_leastWelfare_1 0 rfl rfl ?_
  obtain ⟨v_2, J_2, hc_2, h⟩ := h
  refine cw_callV (o := 0) (As := []) hc_2 okX11_least rfl gX11_leastWelfare_X11_least (by decide) (show 0 < 11 by decide) rfl (ci := 9) rfl rfl (Nat.le_of_ble_eq_true rfl) dX11_leastWelfare_2 ?_
  obtain ⟨v_5, J_5, hc_5, h⟩ := h
  refine cw_callV (o := 0) (As := [.int v_2]) hc_5 okX11_plain rfl gX11_leastWelfare_X11_plain (by decide) (show 0 < 11 by decide) rfl (ci := 9) rfl rfl (Nat.le_of_ble_eq_true rfl) dX11_leastWelfare_5 ?_
  exact cw_iret rfl dX11_leastWelfare_8 h
set_option maxRecDepth 20000 in
set_option maxHeartbeats 4000000 in
theorem eX11_load_0 {K : cw_K} {r : Option Value} {J0 I : cw_M} (h : (∃ J_4 : cw_M, cw_C (cr_w K) mX11_copyBlock [.ref (cw_a (cr_w K) 0), .int 0, .int 9] I none J_4 ∧ (∃ J_8 : cw_M, cw_C (cr_w K) mX11_begin [.ref (cw_a (cr_w K) 0)] J_4 none J_8 ∧ (∃ (v_12 : Int32) (J_12 : cw_M), cw_C (cr_w K) mX11_parseSetup [.ref (cw_a (cr_w K) 0)] J_8 (some (.int v_12)) J_12 ∧ ((¬ v_12 = 0 → ((¬ v_12 = 0 → (∃ (v_44 : Int32) (J_44 : cw_M), cw_C (cr_w K) mX11_fails [.ref (cw_a (cr_w K) 0), .int 0, .int 0, .int 0] (cw_st J_12 0 4 0) (some (.int v_44)) J_44 ∧ ((v_44 = 0 → (vp_in 0 2 ∧ (vp_in 1 2 ∧ (r = some (.int ((cw_st (cw_st (cw_st J_44 0 2 0) 2 (0 : Int32).toNatClampNeg (vp_nar .boolean 0)) 2 (1 : Int32).toNatClampNeg (vp_nar .boolean 0)) 1 1)) ∧ J0 = cw_st (cw_st (cw_st J_44 0 2 0) 2 (0 : Int32).toNatClampNeg (vp_nar .boolean 0)) 2 (1 : Int32).toNatClampNeg (vp_nar .boolean 0))))) ∧ (¬ v_44 = 0 → (r = some (.int 0) ∧ J0 = J_44))))) ∧ (v_12 = 0 → (∃ (v_44 : Int32) (J_44 : cw_M), cw_C (cr_w K) mX11_fails [.ref (cw_a (cr_w K) 0), .int 1, .int 0, .int 0] (cw_st J_12 0 4 0) (some (.int v_44)) J_44 ∧ ((v_44 = 0 → (vp_in 0 2 ∧ (vp_in 1 2 ∧ (r = some (.int ((cw_st (cw_st (cw_st J_44 0 2 0) 2 (0 : Int32).toNatClampNeg (vp_nar .boolean 0)) 2 (1 : Int32).toNatClampNeg (vp_nar .boolean 0)) 1 1)) ∧ J0 = cw_st (cw_st (cw_st J_44 0 2 0) 2 (0 : Int32).toNatClampNeg (vp_nar .boolean 0)) 2 (1 : Int32).toNatClampNeg (vp_nar .boolean 0))))) ∧ (¬ v_44 = 0 → (r = some (.int 0) ∧ J0 = J_44))))))) ∧ (v_12 = 0 → (∃ J_29 : cw_M, cw_C (cr_w K) mX11_copyBlock [.ref (cw_a (cr_w K) 0), .int 9, .int 0] (cw_st J_12 0 4 0) none J_29 ∧ ((¬ v_12 = 0 → (∃ (v_44 : Int32) (J_44 : cw_M), cw_C (cr_w K) mX11_fails [.ref (cw_a (cr_w K) 0), .int 0, .int 0, .int 0] J_29 (some (.int v_44)) J_44 ∧ ((v_44 = 0 → (vp_in 0 2 ∧ (vp_in 1 2 ∧ (r = some (.int ((cw_st (cw_st (cw_st J_44 0 2 0) 2 (0 : Int32).toNatClampNeg (vp_nar .boolean 0)) 2 (1 : Int32).toNatClampNeg (vp_nar .boolean 0)) 1 1)) ∧ J0 = cw_st (cw_st (cw_st J_44 0 2 0) 2 (0 : Int32).toNatClampNeg (vp_nar .boolean 0)) 2 (1 : Int32).toNatClampNeg (vp_nar .boolean 0))))) ∧ (¬ v_44 = 0 → (r = some (.int 0) ∧ J0 = J_44))))) ∧ (v_12 = 0 → (∃ (v_44 : Int32) (J_44 : cw_M), cw_C (cr_w K) mX11_fails [.ref (cw_a (cr_w K) 0), .int 1, .int 0, .int 0] J_29 (some (.int v_44)) J_44 ∧ ((v_44 = 0 → (vp_in 0 2 ∧ (vp_in 1 2 ∧ (r = some (.int ((cw_st (cw_st (cw_st J_44 0 2 0) 2 (0 : Int32).toNatClampNeg (vp_nar .boolean 0)) 2 (1 : Int32).toNatClampNeg (vp_nar .boolean 0)) 1 1)) ∧ J0 = cw_st (cw_st (cw_st J_44 0 2 0) 2 (0 : Int32).toNatClampNeg (vp_nar .boolean 0)) 2 (1 : Int32).toNatClampNeg (vp_nar .boolean 0))))) ∧ (¬ v_44 = 0 → (r = some (.int 0) ∧ J0 = J_44))))))))))))) : cw_C (cr_w K) mX11_load [.ref (cw_a (cr_w K) 0)] I r J0 := by
  refine cw_entry okX11_load (Nat.le_of_ble_eq_true rfl) (show cw_B (cr_w K) mX11_load (cw_Z (cr_w K) r J0) 0 0 I 0 [(0, .ref (cw_a (cr_w K) 0))] [] from ?_)
  refine cw_aload_n dX11_load_0 0 rfl rfl ?_
  refine cw_iconst (v := 0) dX11_load_1 (by decide) ?_
  refine cw_bipush (v := 9) dX11_load_2 (by decide) ?_
  obtain ⟨J_4, hc_4, h⟩ := h
  refine cw_callV (o := 0) (As := [.int 0, .int 9]) hc_4 okX11_copyBlock rfl gX11_load_X11_copyBlock (by decide) (show 0 < 11 by decide) rfl (ci := 9) rfl rfl (Nat.le_of_ble_eq_true rfl) dX11_load_4 ?_
  refine cw_aload_n dX11_load_7 0 rfl rfl ?_
  obtain ⟨J_8, hc_8, h⟩ := h
  refine cw_callV (o := 0) (As := []) hc_8 okX11_begin rfl gX11_load_X11_begin (by decide) (show 0 < 11 by decide) rfl (ci := 9) rfl rfl (Nat.le_of_ble_eq_true rfl) dX11_load_8 ?_
  refine cw_aload_n dX11_load_11 0 rfl rfl ?_
  obtain ⟨v_12, J_12, hc_12, h⟩ := h
  refine cw_callV (o := 0) (As := []) hc_12 okX11_parseSetup rfl gX11_load_X11_parseSetup (by decide) (show 0 < 11 by decide) rfl (ci := 9) rfl rfl (Nat.le_of_ble_eq_true rfl) dX11_load_12 ?_
  refine cw_istore_n dX11_load_15 rfl (by decide) rfl ?_
  refine cw_aload_n dX11_load_16 1 rfl rfl ?_
  refine cw_iconst (v := 0) dX11_load_17 (by decide) ?_
  refine cw_putf (C := RX11) (T := TX11) (N := 20) (ci := 9) inX11_load_RX11 tyX11 tyX11_ok nmX11 0 (show 0 < 11 by decide) rfl rfl 4 (by decide) (by decide +kernel) rfl rfl (show 4 < 20 by decide) rfl dX11_load_18 ?_
  refine cw_iload_n dX11_load_21 0 rfl rfl ?_
  refine cw_if_ne (tgt := 32) dX11_load_22 (by decide) (fun q => ?_) (fun q => ?_)
  · have h := h.1 q
    refine cw_aload_n dX11_load_32 1 rfl rfl ?_
    refine cw_iload_n dX11_load_33 0 rfl rfl ?_
    refine cw_if_ne (tgt := 41) dX11_load_34 (by decide) (fun q => ?_) (fun q => ?_)
    · have h := h.1 q
      refine cw_iconst (v := 0) dX11_load_41 (by decide) ?_
      refine cw_iconst (v := 0) dX11_load_42 (by decide) ?_
      refine cw_iconst (v := 0) dX11_load_43 (by decide) ?_
      obtain ⟨v_44, J_44, hc_44, h⟩ := h
      refine cw_callV (o := 0) (As := [.int 0, .int 0, .int 0]) hc_44 okX11_fails rfl gX11_load_X11_fails (by decide) (show 0 < 11 by decide) rfl (ci := 9) rfl rfl (Nat.le_of_ble_eq_true rfl) dX11_load_44 ?_
      refine cw_if_eq (tgt := 52) dX11_load_47 (by decide) (fun q => ?_) (fun q => ?_)
      · have h := h.1 q
        refine cw_aload_n dX11_load_52 1 rfl rfl ?_
        refine cw_iconst (v := 0) dX11_load_53 (by decide) ?_
        refine cw_putf (C := RX11) (T := TX11) (N := 20) (ci := 9) inX11_load_RX11 tyX11 tyX11_ok nmX11 0 (show 0 < 11 by decide) rfl rfl 2 (by decide) (by decide +kernel) rfl rfl (show 2 < 20 by decide) rfl dX11_load_54 ?_
        refine cw_aload_n dX11_load_57 1 rfl rfl ?_
        refine cw_getf (C := RX11) (T := TX11) (N := 20) (ci := 9) inX11_load_RX11 0 (show 0 < 11 by decide) rfl rfl 1 (by decide) (by decide +kernel) rfl dX11_load_58 ?_
        refine cw_iconst (v := 0) dX11_load_61 (by decide) ?_
        refine cw_iconst (v := 0) dX11_load_62 (by decide) ?_
        obtain ⟨g_63, h⟩ := h
        refine cw_zast 2 (show 2 < 11 by decide) (fun _ => rfl) 1 rfl dX11_load_63 g_63 ?_
        refine cw_aload_n dX11_load_64 1 rfl rfl ?_
        refine cw_getf (C := RX11) (T := TX11) (N := 20) (ci := 9) inX11_load_RX11 0 (show 0 < 11 by decide) rfl rfl 1 (by decide) (by decide +kernel) rfl dX11_load_65 ?_
        refine cw_iconst (v := 1) dX11_load_68 (by decide) ?_
        refine cw_iconst (v := 0) dX11_load_69 (by decide) ?_
        obtain ⟨g_70, h⟩ := h
        refine cw_zast 2 (show 2 < 11 by decide) (fun _ => rfl) 1 rfl dX11_load_70 g_70 ?_
        refine cw_aload_n dX11_load_71 1 rfl rfl ?_
        refine cw_getf (C := RX11) (T := TX11) (N := 20) (ci := 9) inX11_load_RX11 0 (show 0 < 11 by decide) rfl rfl 0 (by decide) (by decide +kernel) rfl dX11_load_72 ?_
        refine cw_iconst (v := 1) dX11_load_75 (by decide) ?_
        refine cw_ialdL (j := 1) 1 (show 1 < 11 by decide) rfl 0 rfl dX11_load_76 rfl (by decide) (by decide) ?_
        exact cw_iret rfl dX11_load_77 h
      · have h := h.2 q
        refine cw_iconst (v := 0) dX11_load_50 (by decide) ?_
        exact cw_iret rfl dX11_load_51 h
    · have h := h.2 q
      refine cw_iconst (v := 1) dX11_load_37 (by decide) ?_
      refine cw_goto (tgt := 42) dX11_load_38 (by decide) ?_
      refine cw_iconst (v := 0) dX11_load_42 (by decide) ?_
      refine cw_iconst (v := 0) dX11_load_43 (by decide) ?_
      obtain ⟨v_44, J_44, hc_44, h⟩ := h
      refine cw_callV (o := 0) (As := [.int 1, .int 0, .int 0]) hc_44 okX11_fails rfl gX11_load_X11_fails (by decide) (show 0 < 11 by decide) rfl (ci := 9) rfl rfl (Nat.le_of_ble_eq_true rfl) dX11_load_44 ?_
      refine cw_if_eq (tgt := 52) dX11_load_47 (by decide) (fun q => ?_) (fun q => ?_)
      · have h := h.1 q
        refine cw_aload_n dX11_load_52 1 rfl rfl ?_
        refine cw_iconst (v := 0) dX11_load_53 (by decide) ?_
        refine cw_putf (C := RX11) (T := TX11) (N := 20) (ci := 9) inX11_load_RX11 tyX11 tyX11_ok nmX11 0 (show 0 < 11 by decide) rfl rfl 2 (by decide) (by decide +kernel) rfl rfl (show 2 < 20 by decide) rfl dX11_load_54 ?_
        refine cw_aload_n dX11_load_57 1 rfl rfl ?_
        refine cw_getf (C := RX11) (T := TX11) (N := 20) (ci := 9) inX11_load_RX11 0 (show 0 < 11 by decide) rfl rfl 1 (by decide) (by decide +kernel) rfl dX11_load_58 ?_
        refine cw_iconst (v := 0) dX11_load_61 (by decide) ?_
        refine cw_iconst (v := 0) dX11_load_62 (by decide) ?_
        obtain ⟨g_63, h⟩ := h
        refine cw_zast 2 (show 2 < 11 by decide) (fun _ => rfl) 1 rfl dX11_load_63 g_63 ?_
        refine cw_aload_n dX11_load_64 1 rfl rfl ?_
        refine cw_getf (C := RX11) (T := TX11) (N := 20) (ci := 9) inX11_load_RX11 0 (show 0 < 11 by decide) rfl rfl 1 (by decide) (by decide +kernel) rfl dX11_load_65 ?_
        refine cw_iconst (v := 1) dX11_load_68 (by decide) ?_
        refine cw_iconst (v := 0) dX11_load_69 (by decide) ?_
        obtain ⟨g_70, h⟩ := h
        refine cw_zast 2 (show 2 < 11 by decide) (fun _ => rfl) 1 rfl dX11_load_70 g_70 ?_
        refine cw_aload_n dX11_load_71 1 rfl rfl ?_
        refine cw_getf (C := RX11) (T := TX11) (N := 20) (ci := 9) inX11_load_RX11 0 (show 0 < 11 by decide) rfl rfl 0 (by decide) (by decide +kernel) rfl dX11_load_72 ?_
        refine cw_iconst (v := 1) dX11_load_75 (by decide) ?_
        refine cw_ialdL (j := 1) 1 (show 1 < 11 by decide) rfl 0 rfl dX11_load_76 rfl (by decide) (by decide) ?_
        exact cw_iret rfl dX11_load_77 h
      · have h := h.2 q
        refine cw_iconst (v := 0) dX11_load_50 (by decide) ?_
        exact cw_iret rfl dX11_load_51 h
  · have h := h.2 q
    refine cw_aload_n dX11_load_25 1 rfl rfl ?_
    refine cw_bipush (v := 9) dX11_load_26 (by decide) ?_
    refine cw_iconst (v := 0) dX11_load_28 (by decide) ?_
    obtain ⟨J_29, hc_29, h⟩ := h
    refine cw_callV (o := 0) (As := [.int 9, .int 0]) hc_29 okX11_copyBlock rfl gX11_load_X11_copyBlock (by decide) (show 0 < 11 by decide) rfl (ci := 9) rfl rfl (Nat.le_of_ble_eq_true rfl) dX11_load_29 ?_
    refine cw_aload_n dX11_load_32 1 rfl rfl ?_
    refine cw_iload_n dX11_load_33 0 rfl rfl ?_
    refine cw_if_ne (tgt := 41) dX11_load_34 (by decide) (fun q => ?_) (fun q => ?_)
    · have h := h.1 q
      refine cw_iconst (v := 0) dX11_load_41 (by decide) ?_
      refine cw_iconst (v := 0) dX11_load_42 (by decide) ?_
      refine cw_iconst (v := 0) dX11_load_43 (by decide) ?_
      obtain ⟨v_44, J_44, hc_44, h⟩ := h
      refine cw_callV (o := 0) (As := [.int 0, .int 0, .int 0]) hc_44 okX11_fails rfl gX11_load_X11_fails (by decide) (show 0 < 11 by decide) rfl (ci := 9) rfl rfl (Nat.le_of_ble_eq_true rfl) dX11_load_44 ?_
      refine cw_if_eq (tgt := 52) dX11_load_47 (by decide) (fun q => ?_) (fun q => ?_)
      · have h := h.1 q
        refine cw_aload_n dX11_load_52 1 rfl rfl ?_
        refine cw_iconst (v := 0) dX11_load_53 (by decide) ?_
        refine cw_putf (C := RX11) (T := TX11) (N := 20) (ci := 9) inX11_load_RX11 tyX11 tyX11_ok nmX11 0 (show 0 < 11 by decide) rfl rfl 2 (by decide) (by decide +kernel) rfl rfl (show 2 < 20 by decide) rfl dX11_load_54 ?_
        refine cw_aload_n dX11_load_57 1 rfl rfl ?_
        refine cw_getf (C := RX11) (T := TX11) (N := 20) (ci := 9) inX11_load_RX11 0 (show 0 < 11 by decide) rfl rfl 1 (by decide) (by decide +kernel) rfl dX11_load_58 ?_
        refine cw_iconst (v := 0) dX11_load_61 (by decide) ?_
        refine cw_iconst (v := 0) dX11_load_62 (by decide) ?_
        obtain ⟨g_63, h⟩ := h
        refine cw_zast 2 (show 2 < 11 by decide) (fun _ => rfl) 1 rfl dX11_load_63 g_63 ?_
        refine cw_aload_n dX11_load_64 1 rfl rfl ?_
        refine cw_getf (C := RX11) (T := TX11) (N := 20) (ci := 9) inX11_load_RX11 0 (show 0 < 11 by decide) rfl rfl 1 (by decide) (by decide +kernel) rfl dX11_load_65 ?_
        refine cw_iconst (v := 1) dX11_load_68 (by decide) ?_
        refine cw_iconst (v := 0) dX11_load_69 (by decide) ?_
        obtain ⟨g_70, h⟩ := h
        refine cw_zast 2 (show 2 < 11 by decide) (fun _ => rfl) 1 rfl dX11_load_70 g_70 ?_
        refine cw_aload_n dX11_load_71 1 rfl rfl ?_
        refine cw_getf (C := RX11) (T := TX11) (N := 20) (ci := 9) inX11_load_RX11 0 (show 0 < 11 by decide) rfl rfl 0 (by decide) (by decide +kernel) rfl dX11_load_72 ?_
        refine cw_iconst (v := 1) dX11_load_75 (by decide) ?_
        refine cw_ialdL (j := 1) 1 (show 1 < 11 by decide) rfl 0 rfl dX11_load_76 rfl (by decide) (by decide) ?_
        exact cw_iret rfl dX11_load_77 h
      · have h := h.2 q
        refine cw_iconst (v := 0) dX11_load_50 (by decide) ?_
        exact cw_iret rfl dX11_load_51 h
    · have h := h.2 q
      refine cw_iconst (v := 1) dX11_load_37 (by decide) ?_
      refine cw_goto (tgt := 42) dX11_load_38 (by decide) ?_
      refine cw_iconst (v := 0) dX11_load_42 (by decide) ?_
      refine cw_iconst (v := 0) dX11_load_43 (by decide) ?_
      obtain ⟨v_44, J_44, hc_44, h⟩ := h
      refine cw_callV (o := 0) (As := [.int 1, .int 0, .int 0]) hc_44 okX11_fails rfl gX11_load_X11_fails (by decide) (show 0 < 11 by decide) rfl (ci := 9) rfl rfl (Nat.le_of_ble_eq_true rfl) dX11_load_44 ?_
      refine cw_if_eq (tgt := 52) dX11_load_47 (by decide) (fun q => ?_) (fun q => ?_)
      · have h := h.1 q
        refine cw_aload_n dX11_load_52 1 rfl rfl ?_
        refine cw_iconst (v := 0) dX11_load_53 (by decide) ?_
        refine cw_putf (C := RX11) (T := TX11) (N := 20) (ci := 9) inX11_load_RX11 tyX11 tyX11_ok nmX11 0 (show 0 < 11 by decide) rfl rfl 2 (by decide) (by decide +kernel) rfl rfl (show 2 < 20 by decide) rfl dX11_load_54 ?_
        refine cw_aload_n dX11_load_57 1 rfl rfl ?_
        refine cw_getf (C := RX11) (T := TX11) (N := 20) (ci := 9) inX11_load_RX11 0 (show 0 < 11 by decide) rfl rfl 1 (by decide) (by decide +kernel) rfl dX11_load_58 ?_
        refine cw_iconst (v := 0) dX11_load_61 (by decide) ?_
        refine cw_iconst (v := 0) dX11_load_62 (by decide) ?_
        obtain ⟨g_63, h⟩ := h
        refine cw_zast 2 (show 2 < 11 by decide) (fun _ => rfl) 1 rfl dX11_load_63 g_63 ?_
        refine cw_aload_n dX11_load_64 1 rfl rfl ?_
        refine cw_getf (C := RX11) (T := TX11) (N := 20) (ci := 9) inX11_load_RX11 0 (show 0 < 11 by decide) rfl rfl 1 (by decide) (by decide +kernel) rfl dX11_load_65 ?_
        refine cw_iconst (v := 1) dX11_load_68 (by decide) ?_
        refine cw_iconst (v := 0) dX11_load_69 (by decide) ?_
        obtain ⟨g_70, h⟩ := h
        refine cw_zast 2 (show 2 < 11 by decide) (fun _ => rfl) 1 rfl dX11_load_70 g_70 ?_
        refine cw_aload_n dX11_load_71 1 rfl rfl ?_
        refine cw_getf (C := RX11) (T := TX11) (N := 20) (ci := 9) inX11_load_RX11 0 (show 0 < 11 by decide) rfl rfl 0 (by decide) (by decide +kernel) rfl dX11_load_72 ?_
        refine cw_iconst (v := 1) dX11_load_75 (by decide) ?_
        refine cw_ialdL (j := 1) 1 (show 1 < 11 by decide) rfl 0 rfl dX11_load_76 rfl (by decide) (by decide) ?_
        exact cw_iret rfl dX11_load_77 h
      · have h := h.2 q
        refine cw_iconst (v := 0) dX11_load_50 (by decide) ?_
        exact cw_iret rfl dX11_load_51 h
set_option maxRecDepth 20000 in
set_option maxHeartbeats 4000000 in
theorem eX11_mark_0 {K : cw_K} {r : Option Value} {J0 I : cw_M} {x1 : Int32} {x2 : Int32} {x3 : Int32} (h : (∃ (v_3 : Int32) (J_3 : cw_M), cw_C (cr_w K) mX11_isSibling [.ref (cw_a (cr_w K) 0), .int x1] I (some (.int v_3)) J_3 ∧ ((v_3 = 0 → (∃ (v_26 : Int32) (J_26 : cw_M), cw_C (cr_w K) mX11_in [.int x3, .int 1, .int 24] J_3 (some (.int v_26)) J_26 ∧ ((¬ v_26 = 0 → (∃ (v_38 : Int32) (J_38 : cw_M), cw_C (cr_w K) mX11_fails [.ref (cw_a (cr_w K) 0), .int 1, .int 0, .int 0] J_26 (some (.int v_38)) J_38 ∧ ((v_38 = 0 → (∃ (v_50 : Int32) (J_50 : cw_M), cw_C (cr_w K) mX11_markOf [.ref (cw_a (cr_w K) 0), .int x1, .int x2, .int x3] J_38 (some (.int v_50)) J_50 ∧ (r = some (.int v_50) ∧ J0 = J_50))) ∧ (¬ v_38 = 0 → (r = some (.int 0) ∧ J0 = J_38))))) ∧ (v_26 = 0 → (∃ (v_38 : Int32) (J_38 : cw_M), cw_C (cr_w K) mX11_fails [.ref (cw_a (cr_w K) 0), .int 1, .int 1, .int 0] J_26 (some (.int v_38)) J_38 ∧ ((v_38 = 0 → (∃ (v_50 : Int32) (J_50 : cw_M), cw_C (cr_w K) mX11_markOf [.ref (cw_a (cr_w K) 0), .int x1, .int x2, .int x3] J_38 (some (.int v_50)) J_50 ∧ (r = some (.int v_50) ∧ J0 = J_50))) ∧ (¬ v_38 = 0 → (r = some (.int 0) ∧ J0 = J_38)))))))) ∧ (¬ v_3 = 0 → (∃ (v_11 : Int32) (J_11 : cw_M), cw_C (cr_w K) mX11_isCell [.ref (cw_a (cr_w K) 0), .int x2] J_3 (some (.int v_11)) J_11 ∧ ((¬ v_11 = 0 → (∃ (v_26 : Int32) (J_26 : cw_M), cw_C (cr_w K) mX11_in [.int x3, .int 1, .int 24] J_11 (some (.int v_26)) J_26 ∧ ((¬ v_26 = 0 → (∃ (v_38 : Int32) (J_38 : cw_M), cw_C (cr_w K) mX11_fails [.ref (cw_a (cr_w K) 0), .int 0, .int 0, .int 0] J_26 (some (.int v_38)) J_38 ∧ ((v_38 = 0 → (∃ (v_50 : Int32) (J_50 : cw_M), cw_C (cr_w K) mX11_markOf [.ref (cw_a (cr_w K) 0), .int x1, .int x2, .int x3] J_38 (some (.int v_50)) J_50 ∧ (r = some (.int v_50) ∧ J0 = J_50))) ∧ (¬ v_38 = 0 → (r = some (.int 0) ∧ J0 = J_38))))) ∧ (v_26 = 0 → (∃ (v_38 : Int32) (J_38 : cw_M), cw_C (cr_w K) mX11_fails [.ref (cw_a (cr_w K) 0), .int 0, .int 1, .int 0] J_26 (some (.int v_38)) J_38 ∧ ((v_38 = 0 → (∃ (v_50 : Int32) (J_50 : cw_M), cw_C (cr_w K) mX11_markOf [.ref (cw_a (cr_w K) 0), .int x1, .int x2, .int x3] J_38 (some (.int v_50)) J_50 ∧ (r = some (.int v_50) ∧ J0 = J_50))) ∧ (¬ v_38 = 0 → (r = some (.int 0) ∧ J0 = J_38)))))))) ∧ (v_11 = 0 → (∃ (v_26 : Int32) (J_26 : cw_M), cw_C (cr_w K) mX11_in [.int x3, .int 1, .int 24] J_11 (some (.int v_26)) J_26 ∧ ((¬ v_26 = 0 → (∃ (v_38 : Int32) (J_38 : cw_M), cw_C (cr_w K) mX11_fails [.ref (cw_a (cr_w K) 0), .int 1, .int 0, .int 0] J_26 (some (.int v_38)) J_38 ∧ ((v_38 = 0 → (∃ (v_50 : Int32) (J_50 : cw_M), cw_C (cr_w K) mX11_markOf [.ref (cw_a (cr_w K) 0), .int x1, .int x2, .int x3] J_38 (some (.int v_50)) J_50 ∧ (r = some (.int v_50) ∧ J0 = J_50))) ∧ (¬ v_38 = 0 → (r = some (.int 0) ∧ J0 = J_38))))) ∧ (v_26 = 0 → (∃ (v_38 : Int32) (J_38 : cw_M), cw_C (cr_w K) mX11_fails [.ref (cw_a (cr_w K) 0), .int 1, .int 1, .int 0] J_26 (some (.int v_38)) J_38 ∧ ((v_38 = 0 → (∃ (v_50 : Int32) (J_50 : cw_M), cw_C (cr_w K) mX11_markOf [.ref (cw_a (cr_w K) 0), .int x1, .int x2, .int x3] J_38 (some (.int v_50)) J_50 ∧ (r = some (.int v_50) ∧ J0 = J_50))) ∧ (¬ v_38 = 0 → (r = some (.int 0) ∧ J0 = J_38)))))))))))))) : cw_C (cr_w K) mX11_mark [.ref (cw_a (cr_w K) 0), .int x1, .int x2, .int x3] I r J0 := by
  refine cw_entry okX11_mark (Nat.le_of_ble_eq_true rfl) (show cw_B (cr_w K) mX11_mark (cw_Z (cr_w K) r J0) 0 0 I 0 [(0, .ref (cw_a (cr_w K) 0)), (1, .int x1), (2, .int x2), (3, .int x3)] [] from ?_)
  refine cw_aload_n dX11_mark_0 0 rfl rfl ?_
  refine cw_aload_n dX11_mark_1 0 rfl rfl ?_
  refine cw_iload_n dX11_mark_2 1 rfl rfl ?_
  obtain ⟨v_3, J_3, hc_3, h⟩ := h
  refine cw_callV (o := 0) (As := [.int x1]) hc_3 okX11_isSibling rfl gX11_mark_X11_isSibling (by decide) (show 0 < 11 by decide) rfl (ci := 9) rfl rfl (Nat.le_of_ble_eq_true rfl) dX11_mark_3 ?_
  refine cw_if_eq (tgt := 17) dX11_mark_6 (by decide) (fun q => ?_) (fun q => ?_)
  · have h := h.1 q
    refine cw_iconst (v := 1) dX11_mark_17 (by decide) ?_
    refine cw_goto (tgt := 22) dX11_mark_18 (by decide) ?_
    refine cw_iload_n dX11_mark_22 3 rfl rfl ?_
    refine cw_iconst (v := 1) dX11_mark_23 (by decide) ?_
    refine cw_bipush (v := 24) dX11_mark_24 (by decide) ?_
    obtain ⟨v_26, J_26, hc_26, h⟩ := h
    refine cw_callS (As := [.int x3, .int 1, .int 24]) hc_26 okX11_in rfl gX11_mark_X11_in (by decide) rfl rfl (Nat.le_of_ble_eq_true rfl) dX11_mark_26 ?_
    refine cw_if_ne (tgt := 36) dX11_mark_29 (by decide) (fun q => ?_) (fun q => ?_)
    · have h := h.1 q
      refine cw_iconst (v := 0) dX11_mark_36 (by decide) ?_
      refine cw_iconst (v := 0) dX11_mark_37 (by decide) ?_
      obtain ⟨v_38, J_38, hc_38, h⟩ := h
      refine cw_callV (o := 0) (As := [.int 1, .int 0, .int 0]) hc_38 okX11_fails rfl gX11_mark_X11_fails (by decide) (show 0 < 11 by decide) rfl (ci := 9) rfl rfl (Nat.le_of_ble_eq_true rfl) dX11_mark_38 ?_
      refine cw_if_eq (tgt := 46) dX11_mark_41 (by decide) (fun q => ?_) (fun q => ?_)
      · have h := h.1 q
        refine cw_aload_n dX11_mark_46 0 rfl rfl ?_
        refine cw_iload_n dX11_mark_47 1 rfl rfl ?_
        refine cw_iload_n dX11_mark_48 2 rfl rfl ?_
        refine cw_iload_n dX11_mark_49 3 rfl rfl ?_
        obtain ⟨v_50, J_50, hc_50, h⟩ := h
        refine cw_callV (o := 0) (As := [.int x1, .int x2, .int x3]) hc_50 okX11_markOf rfl gX11_mark_X11_markOf (by decide) (show 0 < 11 by decide) rfl (ci := 9) rfl rfl (Nat.le_of_ble_eq_true rfl) dX11_mark_50 ?_
        exact cw_iret rfl dX11_mark_53 h
      · have h := h.2 q
        refine cw_iconst (v := 0) dX11_mark_44 (by decide) ?_
        exact cw_iret rfl dX11_mark_45 h
    · have h := h.2 q
      refine cw_iconst (v := 1) dX11_mark_32 (by decide) ?_
      refine cw_goto (tgt := 37) dX11_mark_33 (by decide) ?_
      refine cw_iconst (v := 0) dX11_mark_37 (by decide) ?_
      obtain ⟨v_38, J_38, hc_38, h⟩ := h
      refine cw_callV (o := 0) (As := [.int 1, .int 1, .int 0]) hc_38 okX11_fails rfl gX11_mark_X11_fails (by decide) (show 0 < 11 by decide) rfl (ci := 9) rfl rfl (Nat.le_of_ble_eq_true rfl) dX11_mark_38 ?_
      refine cw_if_eq (tgt := 46) dX11_mark_41 (by decide) (fun q => ?_) (fun q => ?_)
      · have h := h.1 q
        refine cw_aload_n dX11_mark_46 0 rfl rfl ?_
        refine cw_iload_n dX11_mark_47 1 rfl rfl ?_
        refine cw_iload_n dX11_mark_48 2 rfl rfl ?_
        refine cw_iload_n dX11_mark_49 3 rfl rfl ?_
        obtain ⟨v_50, J_50, hc_50, h⟩ := h
        refine cw_callV (o := 0) (As := [.int x1, .int x2, .int x3]) hc_50 okX11_markOf rfl gX11_mark_X11_markOf (by decide) (show 0 < 11 by decide) rfl (ci := 9) rfl rfl (Nat.le_of_ble_eq_true rfl) dX11_mark_50 ?_
        exact cw_iret rfl dX11_mark_53 h
      · have h := h.2 q
        refine cw_iconst (v := 0) dX11_mark_44 (by decide) ?_
        exact cw_iret rfl dX11_mark_45 h
  · have h := h.2 q
    refine cw_aload_n dX11_mark_9 0 rfl rfl ?_
    refine cw_iload_n dX11_mark_10 2 rfl rfl ?_
    obtain ⟨v_11, J_11, hc_11, h⟩ := h
    refine cw_callV (o := 0) (As := [.int x2]) hc_11 okX11_isCell rfl gX11_mark_X11_isCell (by decide) (show 0 < 11 by decide) rfl (ci := 9) rfl rfl (Nat.le_of_ble_eq_true rfl) dX11_mark_11 ?_
    refine cw_if_ne (tgt := 21) dX11_mark_14 (by decide) (fun q => ?_) (fun q => ?_)
    · have h := h.1 q
      refine cw_iconst (v := 0) dX11_mark_21 (by decide) ?_
      refine cw_iload_n dX11_mark_22 3 rfl rfl ?_
      refine cw_iconst (v := 1) dX11_mark_23 (by decide) ?_
      refine cw_bipush (v := 24) dX11_mark_24 (by decide) ?_
      obtain ⟨v_26, J_26, hc_26, h⟩ := h
      refine cw_callS (As := [.int x3, .int 1, .int 24]) hc_26 okX11_in rfl gX11_mark_X11_in (by decide) rfl rfl (Nat.le_of_ble_eq_true rfl) dX11_mark_26 ?_
      refine cw_if_ne (tgt := 36) dX11_mark_29 (by decide) (fun q => ?_) (fun q => ?_)
      · have h := h.1 q
        refine cw_iconst (v := 0) dX11_mark_36 (by decide) ?_
        refine cw_iconst (v := 0) dX11_mark_37 (by decide) ?_
        obtain ⟨v_38, J_38, hc_38, h⟩ := h
        refine cw_callV (o := 0) (As := [.int 0, .int 0, .int 0]) hc_38 okX11_fails rfl gX11_mark_X11_fails (by decide) (show 0 < 11 by decide) rfl (ci := 9) rfl rfl (Nat.le_of_ble_eq_true rfl) dX11_mark_38 ?_
        refine cw_if_eq (tgt := 46) dX11_mark_41 (by decide) (fun q => ?_) (fun q => ?_)
        · have h := h.1 q
          refine cw_aload_n dX11_mark_46 0 rfl rfl ?_
          refine cw_iload_n dX11_mark_47 1 rfl rfl ?_
          refine cw_iload_n dX11_mark_48 2 rfl rfl ?_
          refine cw_iload_n dX11_mark_49 3 rfl rfl ?_
          obtain ⟨v_50, J_50, hc_50, h⟩ := h
          refine cw_callV (o := 0) (As := [.int x1, .int x2, .int x3]) hc_50 okX11_markOf rfl gX11_mark_X11_markOf (by decide) (show 0 < 11 by decide) rfl (ci := 9) rfl rfl (Nat.le_of_ble_eq_true rfl) dX11_mark_50 ?_
          exact cw_iret rfl dX11_mark_53 h
        · have h := h.2 q
          refine cw_iconst (v := 0) dX11_mark_44 (by decide) ?_
          exact cw_iret rfl dX11_mark_45 h
      · have h := h.2 q
        refine cw_iconst (v := 1) dX11_mark_32 (by decide) ?_
        refine cw_goto (tgt := 37) dX11_mark_33 (by decide) ?_
        refine cw_iconst (v := 0) dX11_mark_37 (by decide) ?_
        obtain ⟨v_38, J_38, hc_38, h⟩ := h
        refine cw_callV (o := 0) (As := [.int 0, .int 1, .int 0]) hc_38 okX11_fails rfl gX11_mark_X11_fails (by decide) (show 0 < 11 by decide) rfl (ci := 9) rfl rfl (Nat.le_of_ble_eq_true rfl) dX11_mark_38 ?_
        refine cw_if_eq (tgt := 46) dX11_mark_41 (by decide) (fun q => ?_) (fun q => ?_)
        · have h := h.1 q
          refine cw_aload_n dX11_mark_46 0 rfl rfl ?_
          refine cw_iload_n dX11_mark_47 1 rfl rfl ?_
          refine cw_iload_n dX11_mark_48 2 rfl rfl ?_
          refine cw_iload_n dX11_mark_49 3 rfl rfl ?_
          obtain ⟨v_50, J_50, hc_50, h⟩ := h
          refine cw_callV (o := 0) (As := [.int x1, .int x2, .int x3]) hc_50 okX11_markOf rfl gX11_mark_X11_markOf (by decide) (show 0 < 11 by decide) rfl (ci := 9) rfl rfl (Nat.le_of_ble_eq_true rfl) dX11_mark_50 ?_
          exact cw_iret rfl dX11_mark_53 h
        · have h := h.2 q
          refine cw_iconst (v := 0) dX11_mark_44 (by decide) ?_
          exact cw_iret rfl dX11_mark_45 h
    · have h := h.2 q
      refine cw_iconst (v := 1) dX11_mark_17 (by decide) ?_
      refine cw_goto (tgt := 22) dX11_mark_18 (by decide) ?_
      refine cw_iload_n dX11_mark_22 3 rfl rfl ?_
      refine cw_iconst (v := 1) dX11_mark_23 (by decide) ?_
      refine cw_bipush (v := 24) dX11_mark_24 (by decide) ?_
      obtain ⟨v_26, J_26, hc_26, h⟩ := h
      refine cw_callS (As := [.int x3, .int 1, .int 24]) hc_26 okX11_in rfl gX11_mark_X11_in (by decide) rfl rfl (Nat.le_of_ble_eq_true rfl) dX11_mark_26 ?_
      refine cw_if_ne (tgt := 36) dX11_mark_29 (by decide) (fun q => ?_) (fun q => ?_)
      · have h := h.1 q
        refine cw_iconst (v := 0) dX11_mark_36 (by decide) ?_
        refine cw_iconst (v := 0) dX11_mark_37 (by decide) ?_
        obtain ⟨v_38, J_38, hc_38, h⟩ := h
        refine cw_callV (o := 0) (As := [.int 1, .int 0, .int 0]) hc_38 okX11_fails rfl gX11_mark_X11_fails (by decide) (show 0 < 11 by decide) rfl (ci := 9) rfl rfl (Nat.le_of_ble_eq_true rfl) dX11_mark_38 ?_
        refine cw_if_eq (tgt := 46) dX11_mark_41 (by decide) (fun q => ?_) (fun q => ?_)
        · have h := h.1 q
          refine cw_aload_n dX11_mark_46 0 rfl rfl ?_
          refine cw_iload_n dX11_mark_47 1 rfl rfl ?_
          refine cw_iload_n dX11_mark_48 2 rfl rfl ?_
          refine cw_iload_n dX11_mark_49 3 rfl rfl ?_
          obtain ⟨v_50, J_50, hc_50, h⟩ := h
          refine cw_callV (o := 0) (As := [.int x1, .int x2, .int x3]) hc_50 okX11_markOf rfl gX11_mark_X11_markOf (by decide) (show 0 < 11 by decide) rfl (ci := 9) rfl rfl (Nat.le_of_ble_eq_true rfl) dX11_mark_50 ?_
          exact cw_iret rfl dX11_mark_53 h
        · have h := h.2 q
          refine cw_iconst (v := 0) dX11_mark_44 (by decide) ?_
          exact cw_iret rfl dX11_mark_45 h
      · have h := h.2 q
        refine cw_iconst (v := 1) dX11_mark_32 (by decide) ?_
        refine cw_goto (tgt := 37) dX11_mark_33 (by decide) ?_
        refine cw_iconst (v := 0) dX11_mark_37 (by decide) ?_
        obtain ⟨v_38, J_38, hc_38, h⟩ := h
        refine cw_callV (o := 0) (As := [.int 1, .int 1, .int 0]) hc_38 okX11_fails rfl gX11_mark_X11_fails (by decide) (show 0 < 11 by decide) rfl (ci := 9) rfl rfl (Nat.le_of_ble_eq_true rfl) dX11_mark_38 ?_
        refine cw_if_eq (tgt := 46) dX11_mark_41 (by decide) (fun q => ?_) (fun q => ?_)
        · have h := h.1 q
          refine cw_aload_n dX11_mark_46 0 rfl rfl ?_
          refine cw_iload_n dX11_mark_47 1 rfl rfl ?_
          refine cw_iload_n dX11_mark_48 2 rfl rfl ?_
          refine cw_iload_n dX11_mark_49 3 rfl rfl ?_
          obtain ⟨v_50, J_50, hc_50, h⟩ := h
          refine cw_callV (o := 0) (As := [.int x1, .int x2, .int x3]) hc_50 okX11_markOf rfl gX11_mark_X11_markOf (by decide) (show 0 < 11 by decide) rfl (ci := 9) rfl rfl (Nat.le_of_ble_eq_true rfl) dX11_mark_50 ?_
          exact cw_iret rfl dX11_mark_53 h
        · have h := h.2 q
          refine cw_iconst (v := 0) dX11_mark_44 (by decide) ?_
          exact cw_iret rfl dX11_mark_45 h
abbrev bX11_markOf_0_27 (K : cw_K) (r : Option Value) (J0 : cw_M) (x1 : Int32) (x3 : Int32) (x4 : Int32) (x5 : Int32) (x6 : Int32) (I : cw_M) : Prop := cw_B (cr_w K) mX11_markOf (cw_Z (cr_w K) r J0) 0 0 I 27 [(0, .ref (cw_a (cr_w K) 0)), (1, .int x1), (3, .int x3), (4, .int x4), (5, .int x5), (6, .int x6)] []
set_option maxRecDepth 20000 in
set_option maxHeartbeats 4000000 in
theorem eX11_markOf_0 {K : cw_K} {r : Option Value} {J0 I : cw_M} {x1 : Int32} {x2 : Int32} {x3 : Int32} (h : (∃ (v_11 : Int32) (J_11 : cw_M), cw_C (cr_w K) mX11_worthOf [.ref (cw_a (cr_w K) 0), .int x1, .int x2, .int ((I 1 0) - 1)] I (some (.int v_11)) J_11 ∧ (∃ (v_22 : Int32) (J_22 : cw_M), cw_C (cr_w K) mX11_valueOf [.ref (cw_a (cr_w K) 0), .int x1, .int x2] J_11 (some (.int v_22)) J_22 ∧ bX11_markOf_0_27 K r J0 x1 x3 v_11 x2 v_22 J_22))) : cw_C (cr_w K) mX11_markOf [.ref (cw_a (cr_w K) 0), .int x1, .int x2, .int x3] I r J0 := by
  refine cw_entry okX11_markOf (Nat.le_of_ble_eq_true rfl) (show cw_B (cr_w K) mX11_markOf (cw_Z (cr_w K) r J0) 0 0 I 0 [(0, .ref (cw_a (cr_w K) 0)), (1, .int x1), (2, .int x2), (3, .int x3)] [] from ?_)
  refine cw_aload_n dX11_markOf_0 0 rfl rfl ?_
  refine cw_iload_n dX11_markOf_1 1 rfl rfl ?_
  refine cw_iload_n dX11_markOf_2 2 rfl rfl ?_
  refine cw_aload_n dX11_markOf_3 0 rfl rfl ?_
  refine cw_getf (C := RX11) (T := TX11) (N := 20) (ci := 9) inX11_markOf_RX11 0 (show 0 < 11 by decide) rfl rfl 0 (by decide) (by decide +kernel) rfl dX11_markOf_4 ?_
  refine cw_iconst (v := 0) dX11_markOf_7 (by decide) ?_
  refine cw_ialdL (j := 0) 1 (show 1 < 11 by decide) rfl 0 rfl dX11_markOf_8 rfl (by decide) (by decide) ?_
  refine cw_iconst (v := 1) dX11_markOf_9 (by decide) ?_
  refine cw_isub dX11_markOf_10 ?_
  obtain ⟨v_11, J_11, hc_11, h⟩ := h
  refine cw_callV (o := 0) (As := [.int x1, .int x2, .int ((I 1 0) - 1)]) hc_11 okX11_worthOf rfl gX11_markOf_X11_worthOf (by decide) (show 0 < 11 by decide) rfl (ci := 9) rfl rfl (Nat.le_of_ble_eq_true rfl) dX11_markOf_11 ?_
  refine cw_istore dX11_markOf_14 (by decide) rfl ?_
  refine cw_iload_n dX11_markOf_16 3 rfl rfl ?_
  refine cw_istore dX11_markOf_17 (by decide) rfl ?_
  refine cw_aload_n dX11_markOf_19 2 rfl rfl ?_
  refine cw_iload_n dX11_markOf_20 3 rfl rfl ?_
  refine cw_iload_n dX11_markOf_21 4 rfl rfl ?_
  obtain ⟨v_22, J_22, hc_22, h⟩ := h
  refine cw_callV (o := 0) (As := [.int x1, .int x2]) hc_22 okX11_valueOf rfl gX11_markOf_X11_valueOf (by decide) (show 0 < 11 by decide) rfl (ci := 9) rfl rfl (Nat.le_of_ble_eq_true rfl) dX11_markOf_22 ?_
  refine cw_istore dX11_markOf_25 (by decide) rfl ?_
  refine cw_sub [3, 4, 6, 2, 1, 0] rfl ?_
  exact h
set_option maxRecDepth 20000 in
set_option maxHeartbeats 4000000 in
theorem tbX11_markOf_0_27 {K : cw_K} {r : Option Value} {J0 I : cw_M} {x1 : Int32} {x3 : Int32} {x4 : Int32} {x5 : Int32} {x6 : Int32} (h : ((x4 ≤ (x6 * x3) → (r = some (.int x5) ∧ J0 = I)) ∧ (¬ x4 ≤ (x6 * x3) → (∃ (v_45 : Int32) (J_45 : cw_M), cw_C (cr_w K) mX11_valueOf [.ref (cw_a (cr_w K) 0), .int x1, .int (x5 + 1)] I (some (.int v_45)) J_45 ∧ bX11_markOf_0_27 K r J0 x1 x3 x4 (x5 + 1) (x6 + v_45) J_45)))) : bX11_markOf_0_27 K r J0 x1 x3 x4 x5 x6 I := by
  refine cw_iload dX11_markOf_27 5 rfl ?_
  refine cw_iload_n dX11_markOf_29 2 rfl rfl ?_
  refine cw_imul dX11_markOf_30 ?_
  refine cw_iload dX11_markOf_31 3 rfl ?_
  refine cw_icmp_ge (tgt := 54) dX11_markOf_33 (by decide) (fun q => ?_) (fun q => ?_)
  · have h := h.1 q
    refine cw_iload dX11_markOf_54 4 rfl ?_
    exact cw_iret rfl dX11_markOf_56 h
  · have h := h.2 q
    refine cw_iinc (v := x5 + 1) dX11_markOf_36 (j := 4) rfl rfl (by decide) rfl ?_
    refine cw_iload dX11_markOf_39 5 rfl ?_
    refine cw_aload_n dX11_markOf_41 1 rfl rfl ?_
    refine cw_iload_n dX11_markOf_42 2 rfl rfl ?_
    refine cw_iload dX11_markOf_43 0 rfl ?_
    obtain ⟨v_45, J_45, hc_45, h⟩ := h
    refine cw_callV (o := 0) (As := [.int x1, .int (x5 + 1)]) hc_45 okX11_valueOf rfl gX11_markOf_X11_valueOf (by decide) (show 0 < 11 by decide) rfl (ci := 9) rfl rfl (Nat.le_of_ble_eq_true rfl) dX11_markOf_45 ?_
    refine cw_iadd dX11_markOf_48 ?_
    refine cw_istore dX11_markOf_49 (by decide) rfl ?_
    refine cw_goto (tgt := 27) dX11_markOf_51 (by decide) ?_
    refine cw_sub [2, 3, 4, 5, 1, 0] rfl ?_
    exact h
abbrev bX11_meanPieces_0_9 (K : cw_K) (r : Option Value) (J0 : cw_M) (x1 : Int32) (x2 : Int32) (I : cw_M) : Prop := cw_B (cr_w K) mX11_meanPieces (cw_Z (cr_w K) r J0) 0 0 I 9 [(0, .ref (cw_a (cr_w K) 0)), (1, .int x1), (2, .int x2)] []
set_option maxRecDepth 20000 in
set_option maxHeartbeats 4000000 in
theorem eX11_meanPieces_0 {K : cw_K} {r : Option Value} {J0 I : cw_M} (h : bX11_meanPieces_0_9 K r J0 0 0 (cw_st I 0 9 0)) : cw_C (cr_w K) mX11_meanPieces [.ref (cw_a (cr_w K) 0)] I r J0 := by
  refine cw_entry okX11_meanPieces (Nat.le_of_ble_eq_true rfl) (show cw_B (cr_w K) mX11_meanPieces (cw_Z (cr_w K) r J0) 0 0 I 0 [(0, .ref (cw_a (cr_w K) 0))] [] from ?_)
  refine cw_aload_n dX11_meanPieces_0 0 rfl rfl ?_
  refine cw_iconst (v := 0) dX11_meanPieces_1 (by decide) ?_
  refine cw_putf (C := RX11) (T := TX11) (N := 20) (ci := 9) inX11_meanPieces_RX11 tyX11 tyX11_ok nmX11 0 (show 0 < 11 by decide) rfl rfl 9 (by decide) (by decide +kernel) rfl rfl (show 9 < 20 by decide) rfl dX11_meanPieces_2 ?_
  refine cw_iconst (v := 0) dX11_meanPieces_5 (by decide) ?_
  refine cw_istore_n dX11_meanPieces_6 rfl (by decide) rfl ?_
  refine cw_iconst (v := 0) dX11_meanPieces_7 (by decide) ?_
  refine cw_istore_n dX11_meanPieces_8 rfl (by decide) rfl ?_
  refine cw_sub [2, 1, 0] rfl ?_
  exact h
set_option maxRecDepth 20000 in
set_option maxHeartbeats 4000000 in
theorem tbX11_meanPieces_0_9 {K : cw_K} {r : Option Value} {J0 I : cw_M} {x1 : Int32} {x2 : Int32} (h : (((I 1 1) ≤ x2 → (vf_n64 (FP.ddiv (FP.i2d x1) (FP.i2d (I 1 1))) ∧ (r = some (.double (FP.ddiv (FP.i2d x1) (FP.i2d (I 1 1)))) ∧ J0 = I))) ∧ (¬ (I 1 1) ≤ x2 → (∃ (v_22 : Int32) (J_22 : cw_M), cw_C (cr_w K) mX11_pieces [.ref (cw_a (cr_w K) 0), .int x2] I (some (.int v_22)) J_22 ∧ bX11_meanPieces_0_9 K r J0 (x1 + v_22) (x2 + 1) J_22)))) : bX11_meanPieces_0_9 K r J0 x1 x2 I := by
  refine cw_iload_n dX11_meanPieces_9 2 rfl rfl ?_
  refine cw_aload_n dX11_meanPieces_10 0 rfl rfl ?_
  refine cw_getf (C := RX11) (T := TX11) (N := 20) (ci := 9) inX11_meanPieces_RX11 0 (show 0 < 11 by decide) rfl rfl 0 (by decide) (by decide +kernel) rfl dX11_meanPieces_11 ?_
  refine cw_iconst (v := 1) dX11_meanPieces_14 (by decide) ?_
  refine cw_ialdL (j := 1) 1 (show 1 < 11 by decide) rfl 0 rfl dX11_meanPieces_15 rfl (by decide) (by decide) ?_
  refine cw_icmp_ge (tgt := 33) dX11_meanPieces_16 (by decide) (fun q => ?_) (fun q => ?_)
  · have h := h.1 q
    refine cw_iload_n dX11_meanPieces_33 1 rfl rfl ?_
    refine cw_i2d dX11_meanPieces_34 ?_
    refine cw_aload_n dX11_meanPieces_35 0 rfl rfl ?_
    refine cw_getf (C := RX11) (T := TX11) (N := 20) (ci := 9) inX11_meanPieces_RX11 0 (show 0 < 11 by decide) rfl rfl 0 (by decide) (by decide +kernel) rfl dX11_meanPieces_36 ?_
    refine cw_iconst (v := 1) dX11_meanPieces_39 (by decide) ?_
    refine cw_ialdL (j := 1) 1 (show 1 < 11 by decide) rfl 0 rfl dX11_meanPieces_40 rfl (by decide) (by decide) ?_
    refine cw_i2d dX11_meanPieces_41 ?_
    obtain ⟨g_42, h⟩ := h
    refine cw_ddiv dX11_meanPieces_42 g_42 ?_
    exact cw_dret rfl dX11_meanPieces_43 h
  · have h := h.2 q
    refine cw_iload_n dX11_meanPieces_19 1 rfl rfl ?_
    refine cw_aload_n dX11_meanPieces_20 0 rfl rfl ?_
    refine cw_iload_n dX11_meanPieces_21 2 rfl rfl ?_
    obtain ⟨v_22, J_22, hc_22, h⟩ := h
    refine cw_callV (o := 0) (As := [.int x2]) hc_22 okX11_pieces rfl gX11_meanPieces_X11_pieces (by decide) (show 0 < 11 by decide) rfl (ci := 9) rfl rfl (Nat.le_of_ble_eq_true rfl) dX11_meanPieces_22 ?_
    refine cw_iadd dX11_meanPieces_25 ?_
    refine cw_istore_n dX11_meanPieces_26 rfl (by decide) rfl ?_
    refine cw_iinc (v := x2 + 1) dX11_meanPieces_27 (j := 2) rfl rfl (by decide) rfl ?_
    refine cw_goto (tgt := 9) dX11_meanPieces_30 (by decide) ?_
    refine cw_sub [2, 1, 0] rfl ?_
    exact h
abbrev bX11_mostEnvied_0_9 (K : cw_K) (r : Option Value) (J0 : cw_M) (x1 : Int32) (x2 : Int32) (I : cw_M) : Prop := cw_B (cr_w K) mX11_mostEnvied (cw_Z (cr_w K) r J0) 0 0 I 9 [(0, .ref (cw_a (cr_w K) 0)), (1, .int x1), (2, .int x2)] []
set_option maxRecDepth 20000 in
set_option maxHeartbeats 4000000 in
theorem eX11_mostEnvied_0 {K : cw_K} {r : Option Value} {J0 I : cw_M} (h : bX11_mostEnvied_0_9 K r J0 0 1 (cw_st I 0 9 0)) : cw_C (cr_w K) mX11_mostEnvied [.ref (cw_a (cr_w K) 0)] I r J0 := by
  refine cw_entry okX11_mostEnvied (Nat.le_of_ble_eq_true rfl) (show cw_B (cr_w K) mX11_mostEnvied (cw_Z (cr_w K) r J0) 0 0 I 0 [(0, .ref (cw_a (cr_w K) 0))] [] from ?_)
  refine cw_aload_n dX11_mostEnvied_0 0 rfl rfl ?_
  refine cw_iconst (v := 0) dX11_mostEnvied_1 (by decide) ?_
  refine cw_putf (C := RX11) (T := TX11) (N := 20) (ci := 9) inX11_mostEnvied_RX11 tyX11 tyX11_ok nmX11 0 (show 0 < 11 by decide) rfl rfl 9 (by decide) (by decide +kernel) rfl rfl (show 9 < 20 by decide) rfl dX11_mostEnvied_2 ?_
  refine cw_iconst (v := 0) dX11_mostEnvied_5 (by decide) ?_
  refine cw_istore_n dX11_mostEnvied_6 rfl (by decide) rfl ?_
  refine cw_iconst (v := 1) dX11_mostEnvied_7 (by decide) ?_
  refine cw_istore_n dX11_mostEnvied_8 rfl (by decide) rfl ?_
  refine cw_sub [2, 1, 0] rfl ?_
  exact h
set_option maxRecDepth 20000 in
set_option maxHeartbeats 4000000 in
theorem tbX11_mostEnvied_0_9 {K : cw_K} {r : Option Value} {J0 I : cw_M} {x1 : Int32} {x2 : Int32} (h : (((I 1 1) ≤ x2 → (r = some (.int x1) ∧ J0 = I)) ∧ (¬ (I 1 1) ≤ x2 → (∃ (v_21 : Int32) (J_21 : cw_M), cw_C (cr_w K) mX11_enviersOf [.ref (cw_a (cr_w K) 0), .int x2] I (some (.int v_21)) J_21 ∧ (∃ (v_26 : Int32) (J_26 : cw_M), cw_C (cr_w K) mX11_enviersOf [.ref (cw_a (cr_w K) 0), .int x1] J_21 (some (.int v_26)) J_26 ∧ ((v_21 ≤ v_26 → bX11_mostEnvied_0_9 K r J0 x1 (x2 + 1) J_26) ∧ (¬ v_21 ≤ v_26 → bX11_mostEnvied_0_9 K r J0 x2 (x2 + 1) J_26))))))) : bX11_mostEnvied_0_9 K r J0 x1 x2 I := by
  refine cw_iload_n dX11_mostEnvied_9 2 rfl rfl ?_
  refine cw_aload_n dX11_mostEnvied_10 0 rfl rfl ?_
  refine cw_getf (C := RX11) (T := TX11) (N := 20) (ci := 9) inX11_mostEnvied_RX11 0 (show 0 < 11 by decide) rfl rfl 0 (by decide) (by decide +kernel) rfl dX11_mostEnvied_11 ?_
  refine cw_iconst (v := 1) dX11_mostEnvied_14 (by decide) ?_
  refine cw_ialdL (j := 1) 1 (show 1 < 11 by decide) rfl 0 rfl dX11_mostEnvied_15 rfl (by decide) (by decide) ?_
  refine cw_icmp_ge (tgt := 40) dX11_mostEnvied_16 (by decide) (fun q => ?_) (fun q => ?_)
  · have h := h.1 q
    refine cw_iload_n dX11_mostEnvied_40 1 rfl rfl ?_
    exact cw_iret rfl dX11_mostEnvied_41 h
  · have h := h.2 q
    refine cw_aload_n dX11_mostEnvied_19 0 rfl rfl ?_
    refine cw_iload_n dX11_mostEnvied_20 2 rfl rfl ?_
    obtain ⟨v_21, J_21, hc_21, h⟩ := h
    refine cw_callV (o := 0) (As := [.int x2]) hc_21 okX11_enviersOf rfl gX11_mostEnvied_X11_enviersOf (by decide) (show 0 < 11 by decide) rfl (ci := 9) rfl rfl (Nat.le_of_ble_eq_true rfl) dX11_mostEnvied_21 ?_
    refine cw_aload_n dX11_mostEnvied_24 0 rfl rfl ?_
    refine cw_iload_n dX11_mostEnvied_25 1 rfl rfl ?_
    obtain ⟨v_26, J_26, hc_26, h⟩ := h
    refine cw_callV (o := 0) (As := [.int x1]) hc_26 okX11_enviersOf rfl gX11_mostEnvied_X11_enviersOf (by decide) (show 0 < 11 by decide) rfl (ci := 9) rfl rfl (Nat.le_of_ble_eq_true rfl) dX11_mostEnvied_26 ?_
    refine cw_icmp_le (tgt := 34) dX11_mostEnvied_29 (by decide) (fun q => ?_) (fun q => ?_)
    · have h := h.1 q
      refine cw_iinc (v := x2 + 1) dX11_mostEnvied_34 (j := 2) rfl rfl (by decide) rfl ?_
      refine cw_goto (tgt := 9) dX11_mostEnvied_37 (by decide) ?_
      refine cw_sub [1, 2, 0] rfl ?_
      exact h
    · have h := h.2 q
      refine cw_iload_n dX11_mostEnvied_32 2 rfl rfl ?_
      refine cw_istore_n dX11_mostEnvied_33 rfl (by decide) rfl ?_
      refine cw_iinc (v := x2 + 1) dX11_mostEnvied_34 (j := 2) rfl rfl (by decide) rfl ?_
      refine cw_goto (tgt := 9) dX11_mostEnvied_37 (by decide) ?_
      refine cw_sub [2, 1, 0] rfl ?_
      exact h
set_option maxRecDepth 20000 in
set_option maxHeartbeats 4000000 in
theorem eX11_movingKnife_0 {K : cw_K} {r : Option Value} {J0 I : cw_M} (h : (∃ J_7 : cw_M, cw_C (cr_w K) mX11_remember [.ref (cw_a (cr_w K) 0), .int 0] (cw_st I 0 9 0) none J_7 ∧ (∃ (v_11 : Int32) (J_11 : cw_M), cw_C (cr_w K) mX11_knife [.ref (cw_a (cr_w K) 0)] J_7 (some (.int v_11)) J_11 ∧ (r = some (.int v_11) ∧ J0 = J_11)))) : cw_C (cr_w K) mX11_movingKnife [.ref (cw_a (cr_w K) 0)] I r J0 := by
  refine cw_entry okX11_movingKnife (Nat.le_of_ble_eq_true rfl) (show cw_B (cr_w K) mX11_movingKnife (cw_Z (cr_w K) r J0) 0 0 I 0 [(0, .ref (cw_a (cr_w K) 0))] [] from ?_)
  refine cw_aload_n dX11_movingKnife_0 0 rfl rfl ?_
  refine cw_iconst (v := 0) dX11_movingKnife_1 (by decide) ?_
  refine cw_putf (C := RX11) (T := TX11) (N := 20) (ci := 9) inX11_movingKnife_RX11 tyX11 tyX11_ok nmX11 0 (show 0 < 11 by decide) rfl rfl 9 (by decide) (by decide +kernel) rfl rfl (show 9 < 20 by decide) rfl dX11_movingKnife_2 ?_
  refine cw_aload_n dX11_movingKnife_5 0 rfl rfl ?_
  refine cw_iconst (v := 0) dX11_movingKnife_6 (by decide) ?_
  obtain ⟨J_7, hc_7, h⟩ := h
  refine cw_callV (o := 0) (As := [.int 0]) hc_7 okX11_remember rfl gX11_movingKnife_X11_remember (by decide) (show 0 < 11 by decide) rfl (ci := 9) rfl rfl (Nat.le_of_ble_eq_true rfl) dX11_movingKnife_7 ?_
  refine cw_aload_n dX11_movingKnife_10 0 rfl rfl ?_
  obtain ⟨v_11, J_11, hc_11, h⟩ := h
  refine cw_callV (o := 0) (As := []) hc_11 okX11_knife rfl gX11_movingKnife_X11_knife (by decide) (show 0 < 11 by decide) rfl (ci := 9) rfl rfl (Nat.le_of_ble_eq_true rfl) dX11_movingKnife_11 ?_
  exact cw_iret rfl dX11_movingKnife_14 h
set_option maxRecDepth 20000 in
set_option maxHeartbeats 4000000 in
theorem eX11_nameByte_0 {K : cw_K} {r : Option Value} {J0 I : cw_M} {x1 : Int32} {x2 : Int32} (h : (∃ (v_4 : Int32) (J_4 : cw_M), cw_C (cr_w K) mX11_isSibling [.ref (cw_a (cr_w K) 0), .int x1] I (some (.int v_4)) J_4 ∧ ((v_4 = 0 → (∃ (v_23 : Int32) (J_23 : cw_M), cw_C (cr_w K) mX11_isSibling [.ref (cw_a (cr_w K) 0), .int x1] J_4 (some (.int v_23)) J_23 ∧ ((v_23 = 0 → (∃ (v_52 : Int32) (J_52 : cw_M), cw_C (cr_w K) mX11_fails [.ref (cw_a (cr_w K) 0), .int 1, .int 0, .int 0] J_23 (some (.int v_52)) J_52 ∧ ((v_52 = 0 → (vp_in (((26 + (0 * 31)) + 1) + x2) 2120 ∧ (r = some (.int (J_52 1 (((26 + (0 * 31)) + 1) + x2).toNatClampNeg)) ∧ J0 = J_52))) ∧ (¬ v_52 = 0 → (r = some (.int 0) ∧ J0 = J_52))))) ∧ (¬ v_23 = 0 → (∃ (v_39 : Int32) (J_39 : cw_M), cw_C (cr_w K) mX11_in [.int x2, .int 0, .int ((J_23 1 26) - 1)] J_23 (some (.int v_39)) J_39 ∧ ((¬ v_39 = 0 → (∃ (v_52 : Int32) (J_52 : cw_M), cw_C (cr_w K) mX11_fails [.ref (cw_a (cr_w K) 0), .int 0, .int 0, .int 0] J_39 (some (.int v_52)) J_52 ∧ ((v_52 = 0 → (vp_in (((26 + (0 * 31)) + 1) + x2) 2120 ∧ (r = some (.int (J_52 1 (((26 + (0 * 31)) + 1) + x2).toNatClampNeg)) ∧ J0 = J_52))) ∧ (¬ v_52 = 0 → (r = some (.int 0) ∧ J0 = J_52))))) ∧ (v_39 = 0 → (∃ (v_52 : Int32) (J_52 : cw_M), cw_C (cr_w K) mX11_fails [.ref (cw_a (cr_w K) 0), .int 1, .int 0, .int 0] J_39 (some (.int v_52)) J_52 ∧ ((v_52 = 0 → (vp_in (((26 + (0 * 31)) + 1) + x2) 2120 ∧ (r = some (.int (J_52 1 (((26 + (0 * 31)) + 1) + x2).toNatClampNeg)) ∧ J0 = J_52))) ∧ (¬ v_52 = 0 → (r = some (.int 0) ∧ J0 = J_52))))))))))) ∧ (¬ v_4 = 0 → (∃ (v_23 : Int32) (J_23 : cw_M), cw_C (cr_w K) mX11_isSibling [.ref (cw_a (cr_w K) 0), .int x1] J_4 (some (.int v_23)) J_23 ∧ ((v_23 = 0 → (∃ (v_52 : Int32) (J_52 : cw_M), cw_C (cr_w K) mX11_fails [.ref (cw_a (cr_w K) 0), .int 1, .int 0, .int 0] J_23 (some (.int v_52)) J_52 ∧ ((v_52 = 0 → (vp_in (((26 + (x1 * 31)) + 1) + x2) 2120 ∧ (r = some (.int (J_52 1 (((26 + (x1 * 31)) + 1) + x2).toNatClampNeg)) ∧ J0 = J_52))) ∧ (¬ v_52 = 0 → (r = some (.int 0) ∧ J0 = J_52))))) ∧ (¬ v_23 = 0 → (vp_in (26 + (x1 * 31)) 2120 ∧ (∃ (v_39 : Int32) (J_39 : cw_M), cw_C (cr_w K) mX11_in [.int x2, .int 0, .int ((J_23 1 (26 + (x1 * 31)).toNatClampNeg) - 1)] J_23 (some (.int v_39)) J_39 ∧ ((¬ v_39 = 0 → (∃ (v_52 : Int32) (J_52 : cw_M), cw_C (cr_w K) mX11_fails [.ref (cw_a (cr_w K) 0), .int 0, .int 0, .int 0] J_39 (some (.int v_52)) J_52 ∧ ((v_52 = 0 → (vp_in (((26 + (x1 * 31)) + 1) + x2) 2120 ∧ (r = some (.int (J_52 1 (((26 + (x1 * 31)) + 1) + x2).toNatClampNeg)) ∧ J0 = J_52))) ∧ (¬ v_52 = 0 → (r = some (.int 0) ∧ J0 = J_52))))) ∧ (v_39 = 0 → (∃ (v_52 : Int32) (J_52 : cw_M), cw_C (cr_w K) mX11_fails [.ref (cw_a (cr_w K) 0), .int 1, .int 0, .int 0] J_39 (some (.int v_52)) J_52 ∧ ((v_52 = 0 → (vp_in (((26 + (x1 * 31)) + 1) + x2) 2120 ∧ (r = some (.int (J_52 1 (((26 + (x1 * 31)) + 1) + x2).toNatClampNeg)) ∧ J0 = J_52))) ∧ (¬ v_52 = 0 → (r = some (.int 0) ∧ J0 = J_52))))))))))))))) : cw_C (cr_w K) mX11_nameByte [.ref (cw_a (cr_w K) 0), .int x1, .int x2] I r J0 := by
  refine cw_entry okX11_nameByte (Nat.le_of_ble_eq_true rfl) (show cw_B (cr_w K) mX11_nameByte (cw_Z (cr_w K) r J0) 0 0 I 0 [(0, .ref (cw_a (cr_w K) 0)), (1, .int x1), (2, .int x2)] [] from ?_)
  refine cw_bipush (v := 26) dX11_nameByte_0 (by decide) ?_
  refine cw_aload_n dX11_nameByte_2 0 rfl rfl ?_
  refine cw_iload_n dX11_nameByte_3 1 rfl rfl ?_
  obtain ⟨v_4, J_4, hc_4, h⟩ := h
  refine cw_callV (o := 0) (As := [.int x1]) hc_4 okX11_isSibling rfl gX11_nameByte_X11_isSibling (by decide) (show 0 < 11 by decide) rfl (ci := 9) rfl rfl (Nat.le_of_ble_eq_true rfl) dX11_nameByte_4 ?_
  refine cw_if_eq (tgt := 14) dX11_nameByte_7 (by decide) (fun q => ?_) (fun q => ?_)
  · have h := h.1 q
    refine cw_iconst (v := 0) dX11_nameByte_14 (by decide) ?_
    refine cw_bipush (v := 31) dX11_nameByte_15 (by decide) ?_
    refine cw_imul dX11_nameByte_17 ?_
    refine cw_iadd dX11_nameByte_18 ?_
    refine cw_istore_n dX11_nameByte_19 rfl (by decide) rfl ?_
    refine cw_aload_n dX11_nameByte_20 1 rfl rfl ?_
    refine cw_aload_n dX11_nameByte_21 1 rfl rfl ?_
    refine cw_iload_n dX11_nameByte_22 2 rfl rfl ?_
    obtain ⟨v_23, J_23, hc_23, h⟩ := h
    refine cw_callV (o := 0) (As := [.int x1]) hc_23 okX11_isSibling rfl gX11_nameByte_X11_isSibling (by decide) (show 0 < 11 by decide) rfl (ci := 9) rfl rfl (Nat.le_of_ble_eq_true rfl) dX11_nameByte_23 ?_
    refine cw_if_eq (tgt := 45) dX11_nameByte_26 (by decide) (fun q => ?_) (fun q => ?_)
    · have h := h.1 q
      refine cw_iconst (v := 1) dX11_nameByte_45 (by decide) ?_
      refine cw_goto (tgt := 50) dX11_nameByte_46 (by decide) ?_
      refine cw_iconst (v := 0) dX11_nameByte_50 (by decide) ?_
      refine cw_iconst (v := 0) dX11_nameByte_51 (by decide) ?_
      obtain ⟨v_52, J_52, hc_52, h⟩ := h
      refine cw_callV (o := 0) (As := [.int 1, .int 0, .int 0]) hc_52 okX11_fails rfl gX11_nameByte_X11_fails (by decide) (show 0 < 11 by decide) rfl (ci := 9) rfl rfl (Nat.le_of_ble_eq_true rfl) dX11_nameByte_52 ?_
      refine cw_if_eq (tgt := 60) dX11_nameByte_55 (by decide) (fun q => ?_) (fun q => ?_)
      · have h := h.1 q
        refine cw_aload_n dX11_nameByte_60 1 rfl rfl ?_
        refine cw_getf (C := RX11) (T := TX11) (N := 20) (ci := 9) inX11_nameByte_RX11 0 (show 0 < 11 by decide) rfl rfl 0 (by decide) (by decide +kernel) rfl dX11_nameByte_61 ?_
        refine cw_iload_n dX11_nameByte_64 0 rfl rfl ?_
        refine cw_iconst (v := 1) dX11_nameByte_65 (by decide) ?_
        refine cw_iadd dX11_nameByte_66 ?_
        refine cw_iload_n dX11_nameByte_67 3 rfl rfl ?_
        refine cw_iadd dX11_nameByte_68 ?_
        obtain ⟨g_69, h⟩ := h
        refine cw_iald 1 (show 1 < 11 by decide) rfl 0 rfl dX11_nameByte_69 g_69 ?_
        exact cw_iret rfl dX11_nameByte_70 h
      · have h := h.2 q
        refine cw_iconst (v := 0) dX11_nameByte_58 (by decide) ?_
        exact cw_iret rfl dX11_nameByte_59 h
    · have h := h.2 q
      refine cw_iload_n dX11_nameByte_29 3 rfl rfl ?_
      refine cw_iconst (v := 0) dX11_nameByte_30 (by decide) ?_
      refine cw_aload_n dX11_nameByte_31 1 rfl rfl ?_
      refine cw_getf (C := RX11) (T := TX11) (N := 20) (ci := 9) inX11_nameByte_RX11 0 (show 0 < 11 by decide) rfl rfl 0 (by decide) (by decide +kernel) rfl dX11_nameByte_32 ?_
      refine cw_iload_n dX11_nameByte_35 0 rfl rfl ?_
      refine cw_ialdL (j := 26) 1 (show 1 < 11 by decide) rfl 0 rfl dX11_nameByte_36 rfl (by decide) (by decide) ?_
      refine cw_iconst (v := 1) dX11_nameByte_37 (by decide) ?_
      refine cw_isub dX11_nameByte_38 ?_
      obtain ⟨v_39, J_39, hc_39, h⟩ := h
      refine cw_callS (As := [.int x2, .int 0, .int ((J_23 1 26) - 1)]) hc_39 okX11_in rfl gX11_nameByte_X11_in (by decide) rfl rfl (Nat.le_of_ble_eq_true rfl) dX11_nameByte_39 ?_
      refine cw_if_ne (tgt := 49) dX11_nameByte_42 (by decide) (fun q => ?_) (fun q => ?_)
      · have h := h.1 q
        refine cw_iconst (v := 0) dX11_nameByte_49 (by decide) ?_
        refine cw_iconst (v := 0) dX11_nameByte_50 (by decide) ?_
        refine cw_iconst (v := 0) dX11_nameByte_51 (by decide) ?_
        obtain ⟨v_52, J_52, hc_52, h⟩ := h
        refine cw_callV (o := 0) (As := [.int 0, .int 0, .int 0]) hc_52 okX11_fails rfl gX11_nameByte_X11_fails (by decide) (show 0 < 11 by decide) rfl (ci := 9) rfl rfl (Nat.le_of_ble_eq_true rfl) dX11_nameByte_52 ?_
        refine cw_if_eq (tgt := 60) dX11_nameByte_55 (by decide) (fun q => ?_) (fun q => ?_)
        · have h := h.1 q
          refine cw_aload_n dX11_nameByte_60 1 rfl rfl ?_
          refine cw_getf (C := RX11) (T := TX11) (N := 20) (ci := 9) inX11_nameByte_RX11 0 (show 0 < 11 by decide) rfl rfl 0 (by decide) (by decide +kernel) rfl dX11_nameByte_61 ?_
          refine cw_iload_n dX11_nameByte_64 0 rfl rfl ?_
          refine cw_iconst (v := 1) dX11_nameByte_65 (by decide) ?_
          refine cw_iadd dX11_nameByte_66 ?_
          refine cw_iload_n dX11_nameByte_67 3 rfl rfl ?_
          refine cw_iadd dX11_nameByte_68 ?_
          obtain ⟨g_69, h⟩ := h
          refine cw_iald 1 (show 1 < 11 by decide) rfl 0 rfl dX11_nameByte_69 g_69 ?_
          exact cw_iret rfl dX11_nameByte_70 h
        · have h := h.2 q
          refine cw_iconst (v := 0) dX11_nameByte_58 (by decide) ?_
          exact cw_iret rfl dX11_nameByte_59 h
      · have h := h.2 q
        refine cw_iconst (v := 1) dX11_nameByte_45 (by decide) ?_
        refine cw_goto (tgt := 50) dX11_nameByte_46 (by decide) ?_
        refine cw_iconst (v := 0) dX11_nameByte_50 (by decide) ?_
        refine cw_iconst (v := 0) dX11_nameByte_51 (by decide) ?_
        obtain ⟨v_52, J_52, hc_52, h⟩ := h
        refine cw_callV (o := 0) (As := [.int 1, .int 0, .int 0]) hc_52 okX11_fails rfl gX11_nameByte_X11_fails (by decide) (show 0 < 11 by decide) rfl (ci := 9) rfl rfl (Nat.le_of_ble_eq_true rfl) dX11_nameByte_52 ?_
        refine cw_if_eq (tgt := 60) dX11_nameByte_55 (by decide) (fun q => ?_) (fun q => ?_)
        · have h := h.1 q
          refine cw_aload_n dX11_nameByte_60 1 rfl rfl ?_
          refine cw_getf (C := RX11) (T := TX11) (N := 20) (ci := 9) inX11_nameByte_RX11 0 (show 0 < 11 by decide) rfl rfl 0 (by decide) (by decide +kernel) rfl dX11_nameByte_61 ?_
          refine cw_iload_n dX11_nameByte_64 0 rfl rfl ?_
          refine cw_iconst (v := 1) dX11_nameByte_65 (by decide) ?_
          refine cw_iadd dX11_nameByte_66 ?_
          refine cw_iload_n dX11_nameByte_67 3 rfl rfl ?_
          refine cw_iadd dX11_nameByte_68 ?_
          obtain ⟨g_69, h⟩ := h
          refine cw_iald 1 (show 1 < 11 by decide) rfl 0 rfl dX11_nameByte_69 g_69 ?_
          exact cw_iret rfl dX11_nameByte_70 h
        · have h := h.2 q
          refine cw_iconst (v := 0) dX11_nameByte_58 (by decide) ?_
          exact cw_iret rfl dX11_nameByte_59 h
  · have h := h.2 q
    refine cw_iload_n dX11_nameByte_10 1 rfl rfl ?_
    refine cw_goto (tgt := 15) dX11_nameByte_11 (by decide) ?_
    refine cw_bipush (v := 31) dX11_nameByte_15 (by decide) ?_
    refine cw_imul dX11_nameByte_17 ?_
    refine cw_iadd dX11_nameByte_18 ?_
    refine cw_istore_n dX11_nameByte_19 rfl (by decide) rfl ?_
    refine cw_aload_n dX11_nameByte_20 1 rfl rfl ?_
    refine cw_aload_n dX11_nameByte_21 1 rfl rfl ?_
    refine cw_iload_n dX11_nameByte_22 2 rfl rfl ?_
    obtain ⟨v_23, J_23, hc_23, h⟩ := h
    refine cw_callV (o := 0) (As := [.int x1]) hc_23 okX11_isSibling rfl gX11_nameByte_X11_isSibling (by decide) (show 0 < 11 by decide) rfl (ci := 9) rfl rfl (Nat.le_of_ble_eq_true rfl) dX11_nameByte_23 ?_
    refine cw_if_eq (tgt := 45) dX11_nameByte_26 (by decide) (fun q => ?_) (fun q => ?_)
    · have h := h.1 q
      refine cw_iconst (v := 1) dX11_nameByte_45 (by decide) ?_
      refine cw_goto (tgt := 50) dX11_nameByte_46 (by decide) ?_
      refine cw_iconst (v := 0) dX11_nameByte_50 (by decide) ?_
      refine cw_iconst (v := 0) dX11_nameByte_51 (by decide) ?_
      obtain ⟨v_52, J_52, hc_52, h⟩ := h
      refine cw_callV (o := 0) (As := [.int 1, .int 0, .int 0]) hc_52 okX11_fails rfl gX11_nameByte_X11_fails (by decide) (show 0 < 11 by decide) rfl (ci := 9) rfl rfl (Nat.le_of_ble_eq_true rfl) dX11_nameByte_52 ?_
      refine cw_if_eq (tgt := 60) dX11_nameByte_55 (by decide) (fun q => ?_) (fun q => ?_)
      · have h := h.1 q
        refine cw_aload_n dX11_nameByte_60 1 rfl rfl ?_
        refine cw_getf (C := RX11) (T := TX11) (N := 20) (ci := 9) inX11_nameByte_RX11 0 (show 0 < 11 by decide) rfl rfl 0 (by decide) (by decide +kernel) rfl dX11_nameByte_61 ?_
        refine cw_iload_n dX11_nameByte_64 0 rfl rfl ?_
        refine cw_iconst (v := 1) dX11_nameByte_65 (by decide) ?_
        refine cw_iadd dX11_nameByte_66 ?_
        refine cw_iload_n dX11_nameByte_67 3 rfl rfl ?_
        refine cw_iadd dX11_nameByte_68 ?_
        obtain ⟨g_69, h⟩ := h
        refine cw_iald 1 (show 1 < 11 by decide) rfl 0 rfl dX11_nameByte_69 g_69 ?_
        exact cw_iret rfl dX11_nameByte_70 h
      · have h := h.2 q
        refine cw_iconst (v := 0) dX11_nameByte_58 (by decide) ?_
        exact cw_iret rfl dX11_nameByte_59 h
    · have h := h.2 q
      refine cw_iload_n dX11_nameByte_29 3 rfl rfl ?_
      refine cw_iconst (v := 0) dX11_nameByte_30 (by decide) ?_
      refine cw_aload_n dX11_nameByte_31 1 rfl rfl ?_
      refine cw_getf (C := RX11) (T := TX11) (N := 20) (ci := 9) inX11_nameByte_RX11 0 (show 0 < 11 by decide) rfl rfl 0 (by decide) (by decide +kernel) rfl dX11_nameByte_32 ?_
      refine cw_iload_n dX11_nameByte_35 0 rfl rfl ?_
      obtain ⟨g_36, h⟩ := h
      refine cw_iald 1 (show 1 < 11 by decide) rfl 0 rfl dX11_nameByte_36 g_36 ?_
      refine cw_iconst (v := 1) dX11_nameByte_37 (by decide) ?_
      refine cw_isub dX11_nameByte_38 ?_
      obtain ⟨v_39, J_39, hc_39, h⟩ := h
      refine cw_callS (As := [.int x2, .int 0, .int ((J_23 1 (26 + (x1 * 31)).toNatClampNeg) - 1)]) hc_39 okX11_in rfl gX11_nameByte_X11_in (by decide) rfl rfl (Nat.le_of_ble_eq_true rfl) dX11_nameByte_39 ?_
      refine cw_if_ne (tgt := 49) dX11_nameByte_42 (by decide) (fun q => ?_) (fun q => ?_)
      · have h := h.1 q
        refine cw_iconst (v := 0) dX11_nameByte_49 (by decide) ?_
        refine cw_iconst (v := 0) dX11_nameByte_50 (by decide) ?_
        refine cw_iconst (v := 0) dX11_nameByte_51 (by decide) ?_
        obtain ⟨v_52, J_52, hc_52, h⟩ := h
        refine cw_callV (o := 0) (As := [.int 0, .int 0, .int 0]) hc_52 okX11_fails rfl gX11_nameByte_X11_fails (by decide) (show 0 < 11 by decide) rfl (ci := 9) rfl rfl (Nat.le_of_ble_eq_true rfl) dX11_nameByte_52 ?_
        refine cw_if_eq (tgt := 60) dX11_nameByte_55 (by decide) (fun q => ?_) (fun q => ?_)
        · have h := h.1 q
          refine cw_aload_n dX11_nameByte_60 1 rfl rfl ?_
          refine cw_getf (C := RX11) (T := TX11) (N := 20) (ci := 9) inX11_nameByte_RX11 0 (show 0 < 11 by decide) rfl rfl 0 (by decide) (by decide +kernel) rfl dX11_nameByte_61 ?_
          refine cw_iload_n dX11_nameByte_64 0 rfl rfl ?_
          refine cw_iconst (v := 1) dX11_nameByte_65 (by decide) ?_
          refine cw_iadd dX11_nameByte_66 ?_
          refine cw_iload_n dX11_nameByte_67 3 rfl rfl ?_
          refine cw_iadd dX11_nameByte_68 ?_
          obtain ⟨g_69, h⟩ := h
          refine cw_iald 1 (show 1 < 11 by decide) rfl 0 rfl dX11_nameByte_69 g_69 ?_
          exact cw_iret rfl dX11_nameByte_70 h
        · have h := h.2 q
          refine cw_iconst (v := 0) dX11_nameByte_58 (by decide) ?_
          exact cw_iret rfl dX11_nameByte_59 h
      · have h := h.2 q
        refine cw_iconst (v := 1) dX11_nameByte_45 (by decide) ?_
        refine cw_goto (tgt := 50) dX11_nameByte_46 (by decide) ?_
        refine cw_iconst (v := 0) dX11_nameByte_50 (by decide) ?_
        refine cw_iconst (v := 0) dX11_nameByte_51 (by decide) ?_
        obtain ⟨v_52, J_52, hc_52, h⟩ := h
        refine cw_callV (o := 0) (As := [.int 1, .int 0, .int 0]) hc_52 okX11_fails rfl gX11_nameByte_X11_fails (by decide) (show 0 < 11 by decide) rfl (ci := 9) rfl rfl (Nat.le_of_ble_eq_true rfl) dX11_nameByte_52 ?_
        refine cw_if_eq (tgt := 60) dX11_nameByte_55 (by decide) (fun q => ?_) (fun q => ?_)
        · have h := h.1 q
          refine cw_aload_n dX11_nameByte_60 1 rfl rfl ?_
          refine cw_getf (C := RX11) (T := TX11) (N := 20) (ci := 9) inX11_nameByte_RX11 0 (show 0 < 11 by decide) rfl rfl 0 (by decide) (by decide +kernel) rfl dX11_nameByte_61 ?_
          refine cw_iload_n dX11_nameByte_64 0 rfl rfl ?_
          refine cw_iconst (v := 1) dX11_nameByte_65 (by decide) ?_
          refine cw_iadd dX11_nameByte_66 ?_
          refine cw_iload_n dX11_nameByte_67 3 rfl rfl ?_
          refine cw_iadd dX11_nameByte_68 ?_
          obtain ⟨g_69, h⟩ := h
          refine cw_iald 1 (show 1 < 11 by decide) rfl 0 rfl dX11_nameByte_69 g_69 ?_
          exact cw_iret rfl dX11_nameByte_70 h
        · have h := h.2 q
          refine cw_iconst (v := 0) dX11_nameByte_58 (by decide) ?_
          exact cw_iret rfl dX11_nameByte_59 h
set_option maxRecDepth 20000 in
set_option maxHeartbeats 4000000 in
theorem eX11_nameOf {K : cw_K} {r : Option Value} {J0 I : cw_M} {x0 : Int32} (hFC : cw_FC K) (h : ((x0 = 0 → (r = some (.ref (cw_sd K 2)) ∧ J0 = I)) ∧ ((x0 = 1 → (r = some (.ref (cw_sd K 3)) ∧ J0 = I)) ∧ ((x0 = 2 → (r = some (.ref (cw_sd K 4)) ∧ J0 = I)) ∧ ((x0 = 3 → (r = some (.ref (cw_sd K 5)) ∧ J0 = I)) ∧ ((x0 = 4 → (r = some (.ref (cw_sd K 6)) ∧ J0 = I)) ∧ ((x0 = 5 → (r = some (.ref (cw_sd K 7)) ∧ J0 = I)) ∧ ((x0 = 6 → (r = some (.ref (cw_sd K 8)) ∧ J0 = I)) ∧ (¬ x0 = 0 → ¬ x0 = 1 → ¬ x0 = 2 → ¬ x0 = 3 → ¬ x0 = 4 → ¬ x0 = 5 → ¬ x0 = 6 → (r = some (.ref (cw_sd K 9)) ∧ J0 = I)))))))))) : cw_C (cr_w K) mX11_nameOf [.int x0] I r J0 := by
  refine cw_entry okX11_nameOf (Nat.le_of_ble_eq_true rfl) (show cw_B (cr_w K) mX11_nameOf (cw_Z (cr_w K) r J0) 0 0 I 0 [(0, .int x0)] [] from ?_)
  refine cw_iload_n dX11_nameOf_0 0 rfl rfl ?_
  by_cases q0 : x0 = 0
  · have h := h.1 q0
    refine cw_tableIn (tgt := 44) (off := 43) dX11_nameOf_1 (by rw [q0]; decide) (by rw [q0]; decide) (by rw [q0]; decide +kernel) (by decide) ?_
    refine cw_ldcS (tx := "give") (hFC (RX11, 213, "give", 2) (by decide +kernel)) dX11_nameOf_44 ?_
    exact cw_aret rfl (Or.inl ⟨_, rfl⟩) (Or.inr ⟨_, rfl⟩) dX11_nameOf_46 h
  · have h := h.2
    by_cases q1 : x0 = 1
    · have h := h.1 q1
      refine cw_tableIn (tgt := 47) (off := 46) dX11_nameOf_1 (by rw [q1]; decide) (by rw [q1]; decide) (by rw [q1]; decide +kernel) (by decide) ?_
      refine cw_ldcS (tx := "free") (hFC (RX11, 215, "free", 3) (by decide +kernel)) dX11_nameOf_47 ?_
      exact cw_aret rfl (Or.inl ⟨_, rfl⟩) (Or.inr ⟨_, rfl⟩) dX11_nameOf_49 h
    · have h := h.2
      by_cases q2 : x0 = 2
      · have h := h.1 q2
        refine cw_tableIn (tgt := 50) (off := 49) dX11_nameOf_1 (by rw [q2]; decide) (by rw [q2]; decide) (by rw [q2]; decide +kernel) (by decide) ?_
        refine cw_ldcS (tx := "swap") (hFC (RX11, 217, "swap", 4) (by decide +kernel)) dX11_nameOf_50 ?_
        exact cw_aret rfl (Or.inl ⟨_, rfl⟩) (Or.inr ⟨_, rfl⟩) dX11_nameOf_52 h
      · have h := h.2
        by_cases q3 : x0 = 3
        · have h := h.1 q3
          refine cw_tableIn (tgt := 53) (off := 52) dX11_nameOf_1 (by rw [q3]; decide) (by rw [q3]; decide) (by rw [q3]; decide +kernel) (by decide) ?_
          refine cw_ldcS (tx := "value") (hFC (RX11, 219, "value", 5) (by decide +kernel)) dX11_nameOf_53 ?_
          exact cw_aret rfl (Or.inl ⟨_, rfl⟩) (Or.inr ⟨_, rfl⟩) dX11_nameOf_55 h
        · have h := h.2
          by_cases q4 : x0 = 4
          · have h := h.1 q4
            refine cw_tableIn (tgt := 56) (off := 55) dX11_nameOf_1 (by rw [q4]; decide) (by rw [q4]; decide) (by rw [q4]; decide +kernel) (by decide) ?_
            refine cw_ldcS (tx := "divide") (hFC (RX11, 220, "divide", 6) (by decide +kernel)) dX11_nameOf_56 ?_
            exact cw_aret rfl (Or.inl ⟨_, rfl⟩) (Or.inr ⟨_, rfl⟩) dX11_nameOf_58 h
          · have h := h.2
            by_cases q5 : x0 = 5
            · have h := h.1 q5
              refine cw_tableIn (tgt := 59) (off := 58) dX11_nameOf_1 (by rw [q5]; decide) (by rw [q5]; decide) (by rw [q5]; decide +kernel) (by decide) ?_
              refine cw_ldcS (tx := "knife") (hFC (RX11, 222, "knife", 7) (by decide +kernel)) dX11_nameOf_59 ?_
              exact cw_aret rfl (Or.inl ⟨_, rfl⟩) (Or.inr ⟨_, rfl⟩) dX11_nameOf_61 h
            · have h := h.2
              by_cases q6 : x0 = 6
              · have h := h.1 q6
                refine cw_tableIn (tgt := 62) (off := 61) dX11_nameOf_1 (by rw [q6]; decide) (by rw [q6]; decide) (by rw [q6]; decide +kernel) (by decide) ?_
                refine cw_ldcS (tx := "robin") (hFC (RX11, 224, "robin", 8) (by decide +kernel)) dX11_nameOf_62 ?_
                exact cw_aret rfl (Or.inl ⟨_, rfl⟩) (Or.inr ⟨_, rfl⟩) dX11_nameOf_64 h
              · have h := h.2
                have h := h q0 q1 q2 q3 q4 q5 q6
                have n0 := lv_neT (a := 0) q0 (by decide)
                have n1 := lv_neT (a := 1) q1 (by decide)
                have n2 := lv_neT (a := 2) q2 (by decide)
                have n3 := lv_neT (a := 3) q3 (by decide)
                have n4 := lv_neT (a := 4) q4 (by decide)
                have n5 := lv_neT (a := 5) q5 (by decide)
                have n6 := lv_neT (a := 6) q6 (by decide)
                refine cw_tableOut (tgt := 65) dX11_nameOf_1 (by omega) (by decide) ?_
                refine cw_ldcS (tx := "rotate") (hFC (RX11, 226, "rotate", 9) (by decide +kernel)) dX11_nameOf_65 ?_
                exact cw_aret rfl (Or.inl ⟨_, rfl⟩) (Or.inr ⟨_, rfl⟩) dX11_nameOf_67 h
set_option maxRecDepth 20000 in
set_option maxHeartbeats 4000000 in
theorem eX11_outputByte_0 {K : cw_K} {r : Option Value} {J0 I : cw_M} {x1 : Int32} (h : (∃ (v_9 : Int32) (J_9 : cw_M), cw_C (cr_w K) mX11_in [.int x1, .int 0, .int ((I 0 8) - 1)] I (some (.int v_9)) J_9 ∧ ((¬ v_9 = 0 → (∃ (v_22 : Int32) (J_22 : cw_M), cw_C (cr_w K) mX11_fails [.ref (cw_a (cr_w K) 0), .int 0, .int 0, .int 0] J_9 (some (.int v_22)) J_22 ∧ ((v_22 = 0 → (vp_in x1 240 ∧ (r = some (.int (J_22 4 x1.toNatClampNeg)) ∧ J0 = J_22))) ∧ (¬ v_22 = 0 → (r = some (.int 0) ∧ J0 = J_22))))) ∧ (v_9 = 0 → (∃ (v_22 : Int32) (J_22 : cw_M), cw_C (cr_w K) mX11_fails [.ref (cw_a (cr_w K) 0), .int 1, .int 0, .int 0] J_9 (some (.int v_22)) J_22 ∧ ((v_22 = 0 → (vp_in x1 240 ∧ (r = some (.int (J_22 4 x1.toNatClampNeg)) ∧ J0 = J_22))) ∧ (¬ v_22 = 0 → (r = some (.int 0) ∧ J0 = J_22)))))))) : cw_C (cr_w K) mX11_outputByte [.ref (cw_a (cr_w K) 0), .int x1] I r J0 := by
  refine cw_entry okX11_outputByte (Nat.le_of_ble_eq_true rfl) (show cw_B (cr_w K) mX11_outputByte (cw_Z (cr_w K) r J0) 0 0 I 0 [(0, .ref (cw_a (cr_w K) 0)), (1, .int x1)] [] from ?_)
  refine cw_aload_n dX11_outputByte_0 0 rfl rfl ?_
  refine cw_iload_n dX11_outputByte_1 1 rfl rfl ?_
  refine cw_iconst (v := 0) dX11_outputByte_2 (by decide) ?_
  refine cw_aload_n dX11_outputByte_3 0 rfl rfl ?_
  refine cw_getf (C := RX11) (T := TX11) (N := 20) (ci := 9) inX11_outputByte_RX11 0 (show 0 < 11 by decide) rfl rfl 8 (by decide) (by decide +kernel) rfl dX11_outputByte_4 ?_
  refine cw_iconst (v := 1) dX11_outputByte_7 (by decide) ?_
  refine cw_isub dX11_outputByte_8 ?_
  obtain ⟨v_9, J_9, hc_9, h⟩ := h
  refine cw_callS (As := [.int x1, .int 0, .int ((I 0 8) - 1)]) hc_9 okX11_in rfl gX11_outputByte_X11_in (by decide) rfl rfl (Nat.le_of_ble_eq_true rfl) dX11_outputByte_9 ?_
  refine cw_if_ne (tgt := 19) dX11_outputByte_12 (by decide) (fun q => ?_) (fun q => ?_)
  · have h := h.1 q
    refine cw_iconst (v := 0) dX11_outputByte_19 (by decide) ?_
    refine cw_iconst (v := 0) dX11_outputByte_20 (by decide) ?_
    refine cw_iconst (v := 0) dX11_outputByte_21 (by decide) ?_
    obtain ⟨v_22, J_22, hc_22, h⟩ := h
    refine cw_callV (o := 0) (As := [.int 0, .int 0, .int 0]) hc_22 okX11_fails rfl gX11_outputByte_X11_fails (by decide) (show 0 < 11 by decide) rfl (ci := 9) rfl rfl (Nat.le_of_ble_eq_true rfl) dX11_outputByte_22 ?_
    refine cw_if_eq (tgt := 30) dX11_outputByte_25 (by decide) (fun q => ?_) (fun q => ?_)
    · have h := h.1 q
      refine cw_aload_n dX11_outputByte_30 0 rfl rfl ?_
      refine cw_getf (C := RX11) (T := TX11) (N := 20) (ci := 9) inX11_outputByte_RX11 0 (show 0 < 11 by decide) rfl rfl 7 (by decide) (by decide +kernel) rfl dX11_outputByte_31 ?_
      refine cw_iload_n dX11_outputByte_34 1 rfl rfl ?_
      obtain ⟨g_35, h⟩ := h
      refine cw_iald 4 (show 4 < 11 by decide) rfl 0 rfl dX11_outputByte_35 g_35 ?_
      exact cw_iret rfl dX11_outputByte_36 h
    · have h := h.2 q
      refine cw_iconst (v := 0) dX11_outputByte_28 (by decide) ?_
      exact cw_iret rfl dX11_outputByte_29 h
  · have h := h.2 q
    refine cw_iconst (v := 1) dX11_outputByte_15 (by decide) ?_
    refine cw_goto (tgt := 20) dX11_outputByte_16 (by decide) ?_
    refine cw_iconst (v := 0) dX11_outputByte_20 (by decide) ?_
    refine cw_iconst (v := 0) dX11_outputByte_21 (by decide) ?_
    obtain ⟨v_22, J_22, hc_22, h⟩ := h
    refine cw_callV (o := 0) (As := [.int 1, .int 0, .int 0]) hc_22 okX11_fails rfl gX11_outputByte_X11_fails (by decide) (show 0 < 11 by decide) rfl (ci := 9) rfl rfl (Nat.le_of_ble_eq_true rfl) dX11_outputByte_22 ?_
    refine cw_if_eq (tgt := 30) dX11_outputByte_25 (by decide) (fun q => ?_) (fun q => ?_)
    · have h := h.1 q
      refine cw_aload_n dX11_outputByte_30 0 rfl rfl ?_
      refine cw_getf (C := RX11) (T := TX11) (N := 20) (ci := 9) inX11_outputByte_RX11 0 (show 0 < 11 by decide) rfl rfl 7 (by decide) (by decide +kernel) rfl dX11_outputByte_31 ?_
      refine cw_iload_n dX11_outputByte_34 1 rfl rfl ?_
      obtain ⟨g_35, h⟩ := h
      refine cw_iald 4 (show 4 < 11 by decide) rfl 0 rfl dX11_outputByte_35 g_35 ?_
      exact cw_iret rfl dX11_outputByte_36 h
    · have h := h.2 q
      refine cw_iconst (v := 0) dX11_outputByte_28 (by decide) ?_
      exact cw_iret rfl dX11_outputByte_29 h
abbrev bX11_own_0_3 (K : cw_K) (r : Option Value) (J0 : cw_M) (x1 : Int32) (x3 : Int32) (x4 : Int32) (I : cw_M) : Prop := cw_B (cr_w K) mX11_own (cw_Z (cr_w K) r J0) 0 0 I 3 [(0, .ref (cw_a (cr_w K) 0)), (1, .int x1), (3, .int x3), (4, .int x4)] []
set_option maxRecDepth 20000 in
set_option maxHeartbeats 4000000 in
theorem eX11_own_0 {K : cw_K} {r : Option Value} {J0 I : cw_M} {x1 : Int32} {x2 : Int32} {x3 : Int32} (h : bX11_own_0_3 K r J0 x1 x3 x2 I) : cw_C (cr_w K) mX11_own [.ref (cw_a (cr_w K) 0), .int x1, .int x2, .int x3] I r J0 := by
  refine cw_entry okX11_own (Nat.le_of_ble_eq_true rfl) (show cw_B (cr_w K) mX11_own (cw_Z (cr_w K) r J0) 0 0 I 0 [(0, .ref (cw_a (cr_w K) 0)), (1, .int x1), (2, .int x2), (3, .int x3)] [] from ?_)
  refine cw_iload_n dX11_own_0 2 rfl rfl ?_
  refine cw_istore dX11_own_1 (by decide) rfl ?_
  refine cw_sub [1, 2, 4, 0] rfl ?_
  exact h
set_option maxRecDepth 20000 in
set_option maxHeartbeats 4000000 in
theorem tbX11_own_0_3 {K : cw_K} {r : Option Value} {J0 I : cw_M} {x1 : Int32} {x3 : Int32} {x4 : Int32} (h : ((x3 < x4 → (r = none ∧ J0 = I)) ∧ (¬ x3 < x4 → (vp_in (2 + x4) 2120 ∧ bX11_own_0_3 K r J0 x1 x3 (x4 + 1) (cw_st I 1 (2 + x4).toNatClampNeg x1))))) : bX11_own_0_3 K r J0 x1 x3 x4 I := by
  refine cw_iload dX11_own_3 3 rfl ?_
  refine cw_iload_n dX11_own_5 2 rfl rfl ?_
  refine cw_icmp_gt (tgt := 25) dX11_own_6 (by decide) (fun q => ?_) (fun q => ?_)
  · have h := h.1 q
    exact cw_vret rfl dX11_own_25 h
  · have h := h.2 q
    refine cw_aload_n dX11_own_9 0 rfl rfl ?_
    refine cw_getf (C := RX11) (T := TX11) (N := 20) (ci := 9) inX11_own_RX11 0 (show 0 < 11 by decide) rfl rfl 0 (by decide) (by decide +kernel) rfl dX11_own_10 ?_
    refine cw_iconst (v := 2) dX11_own_13 (by decide) ?_
    refine cw_iload dX11_own_14 3 rfl ?_
    refine cw_iadd dX11_own_16 ?_
    refine cw_iload_n dX11_own_17 1 rfl rfl ?_
    obtain ⟨g_18, h⟩ := h
    refine cw_iast 1 (show 1 < 11 by decide) (fun _ => rfl) 0 rfl dX11_own_18 g_18 ?_
    refine cw_iinc (v := x4 + 1) dX11_own_19 (j := 3) rfl rfl (by decide) rfl ?_
    refine cw_goto (tgt := 3) dX11_own_22 (by decide) ?_
    refine cw_sub [1, 2, 3, 0] rfl ?_
    exact h
set_option maxRecDepth 20000 in
set_option maxHeartbeats 4000000 in
theorem eX11_owner_0 {K : cw_K} {r : Option Value} {J0 I : cw_M} {x1 : Int32} (h : (∃ (v_3 : Int32) (J_3 : cw_M), cw_C (cr_w K) mX11_isCell [.ref (cw_a (cr_w K) 0), .int x1] I (some (.int v_3)) J_3 ∧ ((¬ v_3 = 0 → (∃ (v_16 : Int32) (J_16 : cw_M), cw_C (cr_w K) mX11_fails [.ref (cw_a (cr_w K) 0), .int 0, .int 0, .int 0] J_3 (some (.int v_16)) J_16 ∧ ((v_16 = 0 → (∃ (v_26 : Int32) (J_26 : cw_M), cw_C (cr_w K) mX11_ownerOf [.ref (cw_a (cr_w K) 0), .int x1] J_16 (some (.int v_26)) J_26 ∧ (r = some (.int v_26) ∧ J0 = J_26))) ∧ (¬ v_16 = 0 → (r = some (.int 0) ∧ J0 = J_16))))) ∧ (v_3 = 0 → (∃ (v_16 : Int32) (J_16 : cw_M), cw_C (cr_w K) mX11_fails [.ref (cw_a (cr_w K) 0), .int 1, .int 0, .int 0] J_3 (some (.int v_16)) J_16 ∧ ((v_16 = 0 → (∃ (v_26 : Int32) (J_26 : cw_M), cw_C (cr_w K) mX11_ownerOf [.ref (cw_a (cr_w K) 0), .int x1] J_16 (some (.int v_26)) J_26 ∧ (r = some (.int v_26) ∧ J0 = J_26))) ∧ (¬ v_16 = 0 → (r = some (.int 0) ∧ J0 = J_16)))))))) : cw_C (cr_w K) mX11_owner [.ref (cw_a (cr_w K) 0), .int x1] I r J0 := by
  refine cw_entry okX11_owner (Nat.le_of_ble_eq_true rfl) (show cw_B (cr_w K) mX11_owner (cw_Z (cr_w K) r J0) 0 0 I 0 [(0, .ref (cw_a (cr_w K) 0)), (1, .int x1)] [] from ?_)
  refine cw_aload_n dX11_owner_0 0 rfl rfl ?_
  refine cw_aload_n dX11_owner_1 0 rfl rfl ?_
  refine cw_iload_n dX11_owner_2 1 rfl rfl ?_
  obtain ⟨v_3, J_3, hc_3, h⟩ := h
  refine cw_callV (o := 0) (As := [.int x1]) hc_3 okX11_isCell rfl gX11_owner_X11_isCell (by decide) (show 0 < 11 by decide) rfl (ci := 9) rfl rfl (Nat.le_of_ble_eq_true rfl) dX11_owner_3 ?_
  refine cw_if_ne (tgt := 13) dX11_owner_6 (by decide) (fun q => ?_) (fun q => ?_)
  · have h := h.1 q
    refine cw_iconst (v := 0) dX11_owner_13 (by decide) ?_
    refine cw_iconst (v := 0) dX11_owner_14 (by decide) ?_
    refine cw_iconst (v := 0) dX11_owner_15 (by decide) ?_
    obtain ⟨v_16, J_16, hc_16, h⟩ := h
    refine cw_callV (o := 0) (As := [.int 0, .int 0, .int 0]) hc_16 okX11_fails rfl gX11_owner_X11_fails (by decide) (show 0 < 11 by decide) rfl (ci := 9) rfl rfl (Nat.le_of_ble_eq_true rfl) dX11_owner_16 ?_
    refine cw_if_eq (tgt := 24) dX11_owner_19 (by decide) (fun q => ?_) (fun q => ?_)
    · have h := h.1 q
      refine cw_aload_n dX11_owner_24 0 rfl rfl ?_
      refine cw_iload_n dX11_owner_25 1 rfl rfl ?_
      obtain ⟨v_26, J_26, hc_26, h⟩ := h
      refine cw_callV (o := 0) (As := [.int x1]) hc_26 okX11_ownerOf rfl gX11_owner_X11_ownerOf (by decide) (show 0 < 11 by decide) rfl (ci := 9) rfl rfl (Nat.le_of_ble_eq_true rfl) dX11_owner_26 ?_
      exact cw_iret rfl dX11_owner_29 h
    · have h := h.2 q
      refine cw_iconst (v := 0) dX11_owner_22 (by decide) ?_
      exact cw_iret rfl dX11_owner_23 h
  · have h := h.2 q
    refine cw_iconst (v := 1) dX11_owner_9 (by decide) ?_
    refine cw_goto (tgt := 14) dX11_owner_10 (by decide) ?_
    refine cw_iconst (v := 0) dX11_owner_14 (by decide) ?_
    refine cw_iconst (v := 0) dX11_owner_15 (by decide) ?_
    obtain ⟨v_16, J_16, hc_16, h⟩ := h
    refine cw_callV (o := 0) (As := [.int 1, .int 0, .int 0]) hc_16 okX11_fails rfl gX11_owner_X11_fails (by decide) (show 0 < 11 by decide) rfl (ci := 9) rfl rfl (Nat.le_of_ble_eq_true rfl) dX11_owner_16 ?_
    refine cw_if_eq (tgt := 24) dX11_owner_19 (by decide) (fun q => ?_) (fun q => ?_)
    · have h := h.1 q
      refine cw_aload_n dX11_owner_24 0 rfl rfl ?_
      refine cw_iload_n dX11_owner_25 1 rfl rfl ?_
      obtain ⟨v_26, J_26, hc_26, h⟩ := h
      refine cw_callV (o := 0) (As := [.int x1]) hc_26 okX11_ownerOf rfl gX11_owner_X11_ownerOf (by decide) (show 0 < 11 by decide) rfl (ci := 9) rfl rfl (Nat.le_of_ble_eq_true rfl) dX11_owner_26 ?_
      exact cw_iret rfl dX11_owner_29 h
    · have h := h.2 q
      refine cw_iconst (v := 0) dX11_owner_22 (by decide) ?_
      exact cw_iret rfl dX11_owner_23 h
set_option maxRecDepth 20000 in
set_option maxHeartbeats 4000000 in
theorem eX11_ownerOf_0 {K : cw_K} {r : Option Value} {J0 I : cw_M} {x1 : Int32} (h : (vp_in (2 + x1) 2120 ∧ (r = some (.int (I 1 (2 + x1).toNatClampNeg)) ∧ J0 = I))) : cw_C (cr_w K) mX11_ownerOf [.ref (cw_a (cr_w K) 0), .int x1] I r J0 := by
  refine cw_entry okX11_ownerOf (Nat.le_of_ble_eq_true rfl) (show cw_B (cr_w K) mX11_ownerOf (cw_Z (cr_w K) r J0) 0 0 I 0 [(0, .ref (cw_a (cr_w K) 0)), (1, .int x1)] [] from ?_)
  refine cw_aload_n dX11_ownerOf_0 0 rfl rfl ?_
  refine cw_getf (C := RX11) (T := TX11) (N := 20) (ci := 9) inX11_ownerOf_RX11 0 (show 0 < 11 by decide) rfl rfl 0 (by decide) (by decide +kernel) rfl dX11_ownerOf_1 ?_
  refine cw_iconst (v := 2) dX11_ownerOf_4 (by decide) ?_
  refine cw_iload_n dX11_ownerOf_5 1 rfl rfl ?_
  refine cw_iadd dX11_ownerOf_6 ?_
  obtain ⟨g_7, h⟩ := h
  refine cw_iald 1 (show 1 < 11 by decide) rfl 0 rfl dX11_ownerOf_7 g_7 ?_
  exact cw_iret rfl dX11_ownerOf_8 h
set_option maxRecDepth 20000 in
set_option maxHeartbeats 4000000 in
theorem eX11_parseArguments_0 {K : cw_K} {r : Option Value} {J0 I : cw_M} {x1 : Int32} {x2 : Int32} (h : ((x1 = 0 → (∃ (v_42 : Int32) (J_42 : cw_M), cw_C (cr_w K) mX11_parseSibling [.ref (cw_a (cr_w K) 0), .int x2] I (some (.int v_42)) J_42 ∧ ((v_42 = 0 → (r = some (.int 0) ∧ J0 = J_42)) ∧ (¬ v_42 = 0 → (∃ (v_52 : Int32) (J_52 : cw_M), cw_C (cr_w K) mX11_parseNumber [.ref (cw_a (cr_w K) 0), .int (x2 + 1)] J_42 (some (.int v_52)) J_52 ∧ ((v_52 = 0 → (r = some (.int 0) ∧ J0 = J_52)) ∧ (¬ v_52 = 0 → (∃ (v_62 : Int32) (J_62 : cw_M), cw_C (cr_w K) mX11_parseNumber [.ref (cw_a (cr_w K) 0), .int (x2 + 2)] J_52 (some (.int v_62)) J_62 ∧ ((v_62 = 0 → (r = some (.int 0) ∧ J0 = J_62)) ∧ (¬ v_62 = 0 → (r = some (.int 1) ∧ J0 = J_62))))))))))) ∧ ((x1 = 1 → (∃ (v_78 : Int32) (J_78 : cw_M), cw_C (cr_w K) mX11_parseNumber [.ref (cw_a (cr_w K) 0), .int (x2 + 1)] I (some (.int v_78)) J_78 ∧ ((v_78 = 0 → (r = some (.int 0) ∧ J0 = J_78)) ∧ (¬ v_78 = 0 → (∃ (v_88 : Int32) (J_88 : cw_M), cw_C (cr_w K) mX11_parseNumber [.ref (cw_a (cr_w K) 0), .int (x2 + 2)] J_78 (some (.int v_88)) J_88 ∧ ((v_88 = 0 → (r = some (.int 0) ∧ J0 = J_88)) ∧ (¬ v_88 = 0 → (r = some (.int 1) ∧ J0 = J_88)))))))) ∧ ((x1 = 2 → (∃ (v_102 : Int32) (J_102 : cw_M), cw_C (cr_w K) mX11_parseSibling [.ref (cw_a (cr_w K) 0), .int x2] I (some (.int v_102)) J_102 ∧ ((v_102 = 0 → (r = some (.int 0) ∧ J0 = J_102)) ∧ (¬ v_102 = 0 → (∃ (v_112 : Int32) (J_112 : cw_M), cw_C (cr_w K) mX11_parseSibling [.ref (cw_a (cr_w K) 0), .int (x2 + 1)] J_102 (some (.int v_112)) J_112 ∧ ((v_112 = 0 → (r = some (.int 0) ∧ J0 = J_112)) ∧ (¬ v_112 = 0 → (r = some (.int 1) ∧ J0 = J_112)))))))) ∧ ((x1 = 3 → (∃ (v_42 : Int32) (J_42 : cw_M), cw_C (cr_w K) mX11_parseSibling [.ref (cw_a (cr_w K) 0), .int x2] I (some (.int v_42)) J_42 ∧ ((v_42 = 0 → (r = some (.int 0) ∧ J0 = J_42)) ∧ (¬ v_42 = 0 → (∃ (v_52 : Int32) (J_52 : cw_M), cw_C (cr_w K) mX11_parseNumber [.ref (cw_a (cr_w K) 0), .int (x2 + 1)] J_42 (some (.int v_52)) J_52 ∧ ((v_52 = 0 → (r = some (.int 0) ∧ J0 = J_52)) ∧ (¬ v_52 = 0 → (∃ (v_62 : Int32) (J_62 : cw_M), cw_C (cr_w K) mX11_parseNumber [.ref (cw_a (cr_w K) 0), .int (x2 + 2)] J_52 (some (.int v_62)) J_62 ∧ ((v_62 = 0 → (r = some (.int 0) ∧ J0 = J_62)) ∧ (¬ v_62 = 0 → (r = some (.int 1) ∧ J0 = J_62))))))))))) ∧ ((x1 = 4 → (∃ (v_102 : Int32) (J_102 : cw_M), cw_C (cr_w K) mX11_parseSibling [.ref (cw_a (cr_w K) 0), .int x2] I (some (.int v_102)) J_102 ∧ ((v_102 = 0 → (r = some (.int 0) ∧ J0 = J_102)) ∧ (¬ v_102 = 0 → (∃ (v_112 : Int32) (J_112 : cw_M), cw_C (cr_w K) mX11_parseSibling [.ref (cw_a (cr_w K) 0), .int (x2 + 1)] J_102 (some (.int v_112)) J_112 ∧ ((v_112 = 0 → (r = some (.int 0) ∧ J0 = J_112)) ∧ (¬ v_112 = 0 → (r = some (.int 1) ∧ J0 = J_112)))))))) ∧ ((x1 = 5 → (r = some (.int 1) ∧ J0 = I)) ∧ (¬ x1 = 0 → ¬ x1 = 1 → ¬ x1 = 2 → ¬ x1 = 3 → ¬ x1 = 4 → ¬ x1 = 5 → (∃ (v_128 : Int32) (J_128 : cw_M), cw_C (cr_w K) mX11_parseSibling [.ref (cw_a (cr_w K) 0), .int x2] I (some (.int v_128)) J_128 ∧ ((v_128 = 0 ∨ v_128 = 1) ∧ (r = some (.int v_128) ∧ J0 = J_128))))))))))) : cw_C (cr_w K) mX11_parseArguments [.ref (cw_a (cr_w K) 0), .int x1, .int x2] I r J0 := by
  refine cw_entry okX11_parseArguments (Nat.le_of_ble_eq_true rfl) (show cw_B (cr_w K) mX11_parseArguments (cw_Z (cr_w K) r J0) 0 0 I 0 [(0, .ref (cw_a (cr_w K) 0)), (1, .int x1), (2, .int x2)] [] from ?_)
  refine cw_iload_n dX11_parseArguments_0 1 rfl rfl ?_
  by_cases q0 : x1 = 0
  · have h := h.1 q0
    refine cw_tableIn (tgt := 40) (off := 39) dX11_parseArguments_1 (by rw [q0]; decide) (by rw [q0]; decide) (by rw [q0]; decide +kernel) (by decide) ?_
    refine cw_aload_n dX11_parseArguments_40 0 rfl rfl ?_
    refine cw_iload_n dX11_parseArguments_41 2 rfl rfl ?_
    obtain ⟨v_42, J_42, hc_42, h⟩ := h
    refine cw_callV (o := 0) (As := [.int x2]) hc_42 okX11_parseSibling rfl gX11_parseArguments_X11_parseSibling (by decide) (show 0 < 11 by decide) rfl (ci := 9) rfl rfl (Nat.le_of_ble_eq_true rfl) dX11_parseArguments_42 ?_
    refine cw_if_eq (tgt := 72) dX11_parseArguments_45 (by decide) (fun q => ?_) (fun q => ?_)
    · have h := h.1 q
      refine cw_iconst (v := 0) dX11_parseArguments_72 (by decide) ?_
      exact cw_bret rfl dX11_parseArguments_73 (by decide) h
    · have h := h.2 q
      refine cw_aload_n dX11_parseArguments_48 0 rfl rfl ?_
      refine cw_iload_n dX11_parseArguments_49 2 rfl rfl ?_
      refine cw_iconst (v := 1) dX11_parseArguments_50 (by decide) ?_
      refine cw_iadd dX11_parseArguments_51 ?_
      obtain ⟨v_52, J_52, hc_52, h⟩ := h
      refine cw_callV (o := 0) (As := [.int (x2 + 1)]) hc_52 okX11_parseNumber rfl gX11_parseArguments_X11_parseNumber (by decide) (show 0 < 11 by decide) rfl (ci := 9) rfl rfl (Nat.le_of_ble_eq_true rfl) dX11_parseArguments_52 ?_
      refine cw_if_eq (tgt := 72) dX11_parseArguments_55 (by decide) (fun q => ?_) (fun q => ?_)
      · have h := h.1 q
        refine cw_iconst (v := 0) dX11_parseArguments_72 (by decide) ?_
        exact cw_bret rfl dX11_parseArguments_73 (by decide) h
      · have h := h.2 q
        refine cw_aload_n dX11_parseArguments_58 0 rfl rfl ?_
        refine cw_iload_n dX11_parseArguments_59 2 rfl rfl ?_
        refine cw_iconst (v := 2) dX11_parseArguments_60 (by decide) ?_
        refine cw_iadd dX11_parseArguments_61 ?_
        obtain ⟨v_62, J_62, hc_62, h⟩ := h
        refine cw_callV (o := 0) (As := [.int (x2 + 2)]) hc_62 okX11_parseNumber rfl gX11_parseArguments_X11_parseNumber (by decide) (show 0 < 11 by decide) rfl (ci := 9) rfl rfl (Nat.le_of_ble_eq_true rfl) dX11_parseArguments_62 ?_
        refine cw_if_eq (tgt := 72) dX11_parseArguments_65 (by decide) (fun q => ?_) (fun q => ?_)
        · have h := h.1 q
          refine cw_iconst (v := 0) dX11_parseArguments_72 (by decide) ?_
          exact cw_bret rfl dX11_parseArguments_73 (by decide) h
        · have h := h.2 q
          refine cw_iconst (v := 1) dX11_parseArguments_68 (by decide) ?_
          refine cw_goto (tgt := 73) dX11_parseArguments_69 (by decide) ?_
          exact cw_bret rfl dX11_parseArguments_73 (by decide) h
  · have h := h.2
    by_cases q1 : x1 = 1
    · have h := h.1 q1
      refine cw_tableIn (tgt := 74) (off := 73) dX11_parseArguments_1 (by rw [q1]; decide) (by rw [q1]; decide) (by rw [q1]; decide +kernel) (by decide) ?_
      refine cw_aload_n dX11_parseArguments_74 0 rfl rfl ?_
      refine cw_iload_n dX11_parseArguments_75 2 rfl rfl ?_
      refine cw_iconst (v := 1) dX11_parseArguments_76 (by decide) ?_
      refine cw_iadd dX11_parseArguments_77 ?_
      obtain ⟨v_78, J_78, hc_78, h⟩ := h
      refine cw_callV (o := 0) (As := [.int (x2 + 1)]) hc_78 okX11_parseNumber rfl gX11_parseArguments_X11_parseNumber (by decide) (show 0 < 11 by decide) rfl (ci := 9) rfl rfl (Nat.le_of_ble_eq_true rfl) dX11_parseArguments_78 ?_
      refine cw_if_eq (tgt := 98) dX11_parseArguments_81 (by decide) (fun q => ?_) (fun q => ?_)
      · have h := h.1 q
        refine cw_iconst (v := 0) dX11_parseArguments_98 (by decide) ?_
        exact cw_bret rfl dX11_parseArguments_99 (by decide) h
      · have h := h.2 q
        refine cw_aload_n dX11_parseArguments_84 0 rfl rfl ?_
        refine cw_iload_n dX11_parseArguments_85 2 rfl rfl ?_
        refine cw_iconst (v := 2) dX11_parseArguments_86 (by decide) ?_
        refine cw_iadd dX11_parseArguments_87 ?_
        obtain ⟨v_88, J_88, hc_88, h⟩ := h
        refine cw_callV (o := 0) (As := [.int (x2 + 2)]) hc_88 okX11_parseNumber rfl gX11_parseArguments_X11_parseNumber (by decide) (show 0 < 11 by decide) rfl (ci := 9) rfl rfl (Nat.le_of_ble_eq_true rfl) dX11_parseArguments_88 ?_
        refine cw_if_eq (tgt := 98) dX11_parseArguments_91 (by decide) (fun q => ?_) (fun q => ?_)
        · have h := h.1 q
          refine cw_iconst (v := 0) dX11_parseArguments_98 (by decide) ?_
          exact cw_bret rfl dX11_parseArguments_99 (by decide) h
        · have h := h.2 q
          refine cw_iconst (v := 1) dX11_parseArguments_94 (by decide) ?_
          refine cw_goto (tgt := 99) dX11_parseArguments_95 (by decide) ?_
          exact cw_bret rfl dX11_parseArguments_99 (by decide) h
    · have h := h.2
      by_cases q2 : x1 = 2
      · have h := h.1 q2
        refine cw_tableIn (tgt := 100) (off := 99) dX11_parseArguments_1 (by rw [q2]; decide) (by rw [q2]; decide) (by rw [q2]; decide +kernel) (by decide) ?_
        refine cw_aload_n dX11_parseArguments_100 0 rfl rfl ?_
        refine cw_iload_n dX11_parseArguments_101 2 rfl rfl ?_
        obtain ⟨v_102, J_102, hc_102, h⟩ := h
        refine cw_callV (o := 0) (As := [.int x2]) hc_102 okX11_parseSibling rfl gX11_parseArguments_X11_parseSibling (by decide) (show 0 < 11 by decide) rfl (ci := 9) rfl rfl (Nat.le_of_ble_eq_true rfl) dX11_parseArguments_102 ?_
        refine cw_if_eq (tgt := 122) dX11_parseArguments_105 (by decide) (fun q => ?_) (fun q => ?_)
        · have h := h.1 q
          refine cw_iconst (v := 0) dX11_parseArguments_122 (by decide) ?_
          exact cw_bret rfl dX11_parseArguments_123 (by decide) h
        · have h := h.2 q
          refine cw_aload_n dX11_parseArguments_108 0 rfl rfl ?_
          refine cw_iload_n dX11_parseArguments_109 2 rfl rfl ?_
          refine cw_iconst (v := 1) dX11_parseArguments_110 (by decide) ?_
          refine cw_iadd dX11_parseArguments_111 ?_
          obtain ⟨v_112, J_112, hc_112, h⟩ := h
          refine cw_callV (o := 0) (As := [.int (x2 + 1)]) hc_112 okX11_parseSibling rfl gX11_parseArguments_X11_parseSibling (by decide) (show 0 < 11 by decide) rfl (ci := 9) rfl rfl (Nat.le_of_ble_eq_true rfl) dX11_parseArguments_112 ?_
          refine cw_if_eq (tgt := 122) dX11_parseArguments_115 (by decide) (fun q => ?_) (fun q => ?_)
          · have h := h.1 q
            refine cw_iconst (v := 0) dX11_parseArguments_122 (by decide) ?_
            exact cw_bret rfl dX11_parseArguments_123 (by decide) h
          · have h := h.2 q
            refine cw_iconst (v := 1) dX11_parseArguments_118 (by decide) ?_
            refine cw_goto (tgt := 123) dX11_parseArguments_119 (by decide) ?_
            exact cw_bret rfl dX11_parseArguments_123 (by decide) h
      · have h := h.2
        by_cases q3 : x1 = 3
        · have h := h.1 q3
          refine cw_tableIn (tgt := 40) (off := 39) dX11_parseArguments_1 (by rw [q3]; decide) (by rw [q3]; decide) (by rw [q3]; decide +kernel) (by decide) ?_
          refine cw_aload_n dX11_parseArguments_40 0 rfl rfl ?_
          refine cw_iload_n dX11_parseArguments_41 2 rfl rfl ?_
          obtain ⟨v_42, J_42, hc_42, h⟩ := h
          refine cw_callV (o := 0) (As := [.int x2]) hc_42 okX11_parseSibling rfl gX11_parseArguments_X11_parseSibling (by decide) (show 0 < 11 by decide) rfl (ci := 9) rfl rfl (Nat.le_of_ble_eq_true rfl) dX11_parseArguments_42 ?_
          refine cw_if_eq (tgt := 72) dX11_parseArguments_45 (by decide) (fun q => ?_) (fun q => ?_)
          · have h := h.1 q
            refine cw_iconst (v := 0) dX11_parseArguments_72 (by decide) ?_
            exact cw_bret rfl dX11_parseArguments_73 (by decide) h
          · have h := h.2 q
            refine cw_aload_n dX11_parseArguments_48 0 rfl rfl ?_
            refine cw_iload_n dX11_parseArguments_49 2 rfl rfl ?_
            refine cw_iconst (v := 1) dX11_parseArguments_50 (by decide) ?_
            refine cw_iadd dX11_parseArguments_51 ?_
            obtain ⟨v_52, J_52, hc_52, h⟩ := h
            refine cw_callV (o := 0) (As := [.int (x2 + 1)]) hc_52 okX11_parseNumber rfl gX11_parseArguments_X11_parseNumber (by decide) (show 0 < 11 by decide) rfl (ci := 9) rfl rfl (Nat.le_of_ble_eq_true rfl) dX11_parseArguments_52 ?_
            refine cw_if_eq (tgt := 72) dX11_parseArguments_55 (by decide) (fun q => ?_) (fun q => ?_)
            · have h := h.1 q
              refine cw_iconst (v := 0) dX11_parseArguments_72 (by decide) ?_
              exact cw_bret rfl dX11_parseArguments_73 (by decide) h
            · have h := h.2 q
              refine cw_aload_n dX11_parseArguments_58 0 rfl rfl ?_
              refine cw_iload_n dX11_parseArguments_59 2 rfl rfl ?_
              refine cw_iconst (v := 2) dX11_parseArguments_60 (by decide) ?_
              refine cw_iadd dX11_parseArguments_61 ?_
              obtain ⟨v_62, J_62, hc_62, h⟩ := h
              refine cw_callV (o := 0) (As := [.int (x2 + 2)]) hc_62 okX11_parseNumber rfl gX11_parseArguments_X11_parseNumber (by decide) (show 0 < 11 by decide) rfl (ci := 9) rfl rfl (Nat.le_of_ble_eq_true rfl) dX11_parseArguments_62 ?_
              refine cw_if_eq (tgt := 72) dX11_parseArguments_65 (by decide) (fun q => ?_) (fun q => ?_)
              · have h := h.1 q
                refine cw_iconst (v := 0) dX11_parseArguments_72 (by decide) ?_
                exact cw_bret rfl dX11_parseArguments_73 (by decide) h
              · have h := h.2 q
                refine cw_iconst (v := 1) dX11_parseArguments_68 (by decide) ?_
                refine cw_goto (tgt := 73) dX11_parseArguments_69 (by decide) ?_
                exact cw_bret rfl dX11_parseArguments_73 (by decide) h
        · have h := h.2
          by_cases q4 : x1 = 4
          · have h := h.1 q4
            refine cw_tableIn (tgt := 100) (off := 99) dX11_parseArguments_1 (by rw [q4]; decide) (by rw [q4]; decide) (by rw [q4]; decide +kernel) (by decide) ?_
            refine cw_aload_n dX11_parseArguments_100 0 rfl rfl ?_
            refine cw_iload_n dX11_parseArguments_101 2 rfl rfl ?_
            obtain ⟨v_102, J_102, hc_102, h⟩ := h
            refine cw_callV (o := 0) (As := [.int x2]) hc_102 okX11_parseSibling rfl gX11_parseArguments_X11_parseSibling (by decide) (show 0 < 11 by decide) rfl (ci := 9) rfl rfl (Nat.le_of_ble_eq_true rfl) dX11_parseArguments_102 ?_
            refine cw_if_eq (tgt := 122) dX11_parseArguments_105 (by decide) (fun q => ?_) (fun q => ?_)
            · have h := h.1 q
              refine cw_iconst (v := 0) dX11_parseArguments_122 (by decide) ?_
              exact cw_bret rfl dX11_parseArguments_123 (by decide) h
            · have h := h.2 q
              refine cw_aload_n dX11_parseArguments_108 0 rfl rfl ?_
              refine cw_iload_n dX11_parseArguments_109 2 rfl rfl ?_
              refine cw_iconst (v := 1) dX11_parseArguments_110 (by decide) ?_
              refine cw_iadd dX11_parseArguments_111 ?_
              obtain ⟨v_112, J_112, hc_112, h⟩ := h
              refine cw_callV (o := 0) (As := [.int (x2 + 1)]) hc_112 okX11_parseSibling rfl gX11_parseArguments_X11_parseSibling (by decide) (show 0 < 11 by decide) rfl (ci := 9) rfl rfl (Nat.le_of_ble_eq_true rfl) dX11_parseArguments_112 ?_
              refine cw_if_eq (tgt := 122) dX11_parseArguments_115 (by decide) (fun q => ?_) (fun q => ?_)
              · have h := h.1 q
                refine cw_iconst (v := 0) dX11_parseArguments_122 (by decide) ?_
                exact cw_bret rfl dX11_parseArguments_123 (by decide) h
              · have h := h.2 q
                refine cw_iconst (v := 1) dX11_parseArguments_118 (by decide) ?_
                refine cw_goto (tgt := 123) dX11_parseArguments_119 (by decide) ?_
                exact cw_bret rfl dX11_parseArguments_123 (by decide) h
          · have h := h.2
            by_cases q5 : x1 = 5
            · have h := h.1 q5
              refine cw_tableIn (tgt := 124) (off := 123) dX11_parseArguments_1 (by rw [q5]; decide) (by rw [q5]; decide) (by rw [q5]; decide +kernel) (by decide) ?_
              refine cw_iconst (v := 1) dX11_parseArguments_124 (by decide) ?_
              exact cw_bret rfl dX11_parseArguments_125 (by decide) h
            · have h := h.2
              have h := h q0 q1 q2 q3 q4 q5
              have n0 := lv_neT (a := 0) q0 (by decide)
              have n1 := lv_neT (a := 1) q1 (by decide)
              have n2 := lv_neT (a := 2) q2 (by decide)
              have n3 := lv_neT (a := 3) q3 (by decide)
              have n4 := lv_neT (a := 4) q4 (by decide)
              have n5 := lv_neT (a := 5) q5 (by decide)
              refine cw_tableOut (tgt := 126) dX11_parseArguments_1 (by omega) (by decide) ?_
              refine cw_aload_n dX11_parseArguments_126 0 rfl rfl ?_
              refine cw_iload_n dX11_parseArguments_127 2 rfl rfl ?_
              obtain ⟨v_128, J_128, hc_128, h⟩ := h
              refine cw_callV (o := 0) (As := [.int x2]) hc_128 okX11_parseSibling rfl gX11_parseArguments_X11_parseSibling (by decide) (show 0 < 11 by decide) rfl (ci := 9) rfl rfl (Nat.le_of_ble_eq_true rfl) dX11_parseArguments_128 ?_
              exact cw_bret rfl dX11_parseArguments_131 h.1 h.2
abbrev bX11_parseNewSibling_0_90 (K : cw_K) (r : Option Value) (J0 : cw_M) (x1 : Int32) (x2 : Int32) (I : cw_M) : Prop := cw_B (cr_w K) mX11_parseNewSibling (cw_Z (cr_w K) r J0) 0 0 I 90 [(0, .ref (cw_a (cr_w K) 0)), (1, .int x1), (2, .int x2)] []
abbrev bX11_parseNewSibling_0_131 (K : cw_K) (r : Option Value) (J0 : cw_M) (x1 : Int32) (x2 : Int32) (I : cw_M) : Prop := cw_B (cr_w K) mX11_parseNewSibling (cw_Z (cr_w K) r J0) 0 0 I 131 [(0, .ref (cw_a (cr_w K) 0)), (1, .int x1), (2, .int x2)] []
set_option maxRecDepth 20000 in
set_option maxHeartbeats 4000000 in
theorem eX11_parseNewSibling_0 {K : cw_K} {r : Option Value} {J0 I : cw_M} (h : ((¬ (I 1 1) = 6 → (∃ J_18 : cw_M, cw_C (cr_w K) mX11_token [.ref (cw_a (cr_w K) 0)] I none J_18 ∧ (∃ (v_22 : Int32) (J_22 : cw_M), cw_C (cr_w K) mX11_isShortWord [.ref (cw_a (cr_w K) 0)] J_18 (some (.int v_22)) J_22 ∧ ((¬ v_22 = 0 → (∃ (v_44 : Int32) (J_44 : cw_M), cw_C (cr_w K) mX11_siblingNamed [.ref (cw_a (cr_w K) 0), .int (J_22 0 17), .int ((J_22 0 15) - (J_22 0 17))] J_22 (some (.int v_44)) J_44 ∧ ((v_44 = (-1) → (vp_in (26 + ((J_44 1 1) * 31)) 2120 ∧ bX11_parseNewSibling_0_90 K r J0 (26 + ((J_44 1 1) * 31)) ((cw_st J_44 1 (26 + ((J_44 1 1) * 31)).toNatClampNeg ((J_44 0 15) - (J_44 0 17))) 0 17) (cw_st J_44 1 (26 + ((J_44 1 1) * 31)).toNatClampNeg ((J_44 0 15) - (J_44 0 17))))) ∧ (¬ v_44 = (-1) → (∃ (v_53 : Int32) (J_53 : cw_M), cw_C (cr_w K) mX11_wrong [.ref (cw_a (cr_w K) 0), .int 3] J_44 (some (.int v_53)) J_53 ∧ ((v_53 = 0 ∨ v_53 = 1) ∧ (r = some (.int v_53) ∧ J0 = J_53))))))) ∧ (v_22 = 0 → (r = some (.int 0) ∧ J0 = J_22)))))) ∧ ((I 1 1) = 6 → (∃ (v_13 : Int32) (J_13 : cw_M), cw_C (cr_w K) mX11_wrong [.ref (cw_a (cr_w K) 0), .int 4] I (some (.int v_13)) J_13 ∧ ((v_13 = 0 ∨ v_13 = 1) ∧ (r = some (.int v_13) ∧ J0 = J_13)))))) : cw_C (cr_w K) mX11_parseNewSibling [.ref (cw_a (cr_w K) 0)] I r J0 := by
  refine cw_entry okX11_parseNewSibling (Nat.le_of_ble_eq_true rfl) (show cw_B (cr_w K) mX11_parseNewSibling (cw_Z (cr_w K) r J0) 0 0 I 0 [(0, .ref (cw_a (cr_w K) 0))] [] from ?_)
  refine cw_aload_n dX11_parseNewSibling_0 0 rfl rfl ?_
  refine cw_getf (C := RX11) (T := TX11) (N := 20) (ci := 9) inX11_parseNewSibling_RX11 0 (show 0 < 11 by decide) rfl rfl 0 (by decide) (by decide +kernel) rfl dX11_parseNewSibling_1 ?_
  refine cw_iconst (v := 1) dX11_parseNewSibling_4 (by decide) ?_
  refine cw_ialdL (j := 1) 1 (show 1 < 11 by decide) rfl 0 rfl dX11_parseNewSibling_5 rfl (by decide) (by decide) ?_
  refine cw_bipush (v := 6) dX11_parseNewSibling_6 (by decide) ?_
  refine cw_icmp_ne (tgt := 17) dX11_parseNewSibling_8 (by decide) (fun q => ?_) (fun q => ?_)
  · have h := h.1 q
    refine cw_aload_n dX11_parseNewSibling_17 0 rfl rfl ?_
    obtain ⟨J_18, hc_18, h⟩ := h
    refine cw_callV (o := 0) (As := []) hc_18 okX11_token rfl gX11_parseNewSibling_X11_token (by decide) (show 0 < 11 by decide) rfl (ci := 9) rfl rfl (Nat.le_of_ble_eq_true rfl) dX11_parseNewSibling_18 ?_
    refine cw_aload_n dX11_parseNewSibling_21 0 rfl rfl ?_
    obtain ⟨v_22, J_22, hc_22, h⟩ := h
    refine cw_callV (o := 0) (As := []) hc_22 okX11_isShortWord rfl gX11_parseNewSibling_X11_isShortWord (by decide) (show 0 < 11 by decide) rfl (ci := 9) rfl rfl (Nat.le_of_ble_eq_true rfl) dX11_parseNewSibling_22 ?_
    refine cw_if_ne (tgt := 30) dX11_parseNewSibling_25 (by decide) (fun q => ?_) (fun q => ?_)
    · have h := h.1 q
      refine cw_aload_n dX11_parseNewSibling_30 0 rfl rfl ?_
      refine cw_aload_n dX11_parseNewSibling_31 0 rfl rfl ?_
      refine cw_getf (C := RX11) (T := TX11) (N := 20) (ci := 9) inX11_parseNewSibling_RX11 0 (show 0 < 11 by decide) rfl rfl 17 (by decide) (by decide +kernel) rfl dX11_parseNewSibling_32 ?_
      refine cw_aload_n dX11_parseNewSibling_35 0 rfl rfl ?_
      refine cw_getf (C := RX11) (T := TX11) (N := 20) (ci := 9) inX11_parseNewSibling_RX11 0 (show 0 < 11 by decide) rfl rfl 15 (by decide) (by decide +kernel) rfl dX11_parseNewSibling_36 ?_
      refine cw_aload_n dX11_parseNewSibling_39 0 rfl rfl ?_
      refine cw_getf (C := RX11) (T := TX11) (N := 20) (ci := 9) inX11_parseNewSibling_RX11 0 (show 0 < 11 by decide) rfl rfl 17 (by decide) (by decide +kernel) rfl dX11_parseNewSibling_40 ?_
      refine cw_isub dX11_parseNewSibling_43 ?_
      obtain ⟨v_44, J_44, hc_44, h⟩ := h
      refine cw_callV (o := 0) (As := [.int (J_22 0 17), .int ((J_22 0 15) - (J_22 0 17))]) hc_44 okX11_siblingNamed rfl gX11_parseNewSibling_X11_siblingNamed (by decide) (show 0 < 11 by decide) rfl (ci := 9) rfl rfl (Nat.le_of_ble_eq_true rfl) dX11_parseNewSibling_44 ?_
      refine cw_iconst (v := (-1)) dX11_parseNewSibling_47 (by decide) ?_
      refine cw_icmp_eq (tgt := 57) dX11_parseNewSibling_48 (by decide) (fun q => ?_) (fun q => ?_)
      · have h := h.1 q
        refine cw_bipush (v := 26) dX11_parseNewSibling_57 (by decide) ?_
        refine cw_aload_n dX11_parseNewSibling_59 0 rfl rfl ?_
        refine cw_getf (C := RX11) (T := TX11) (N := 20) (ci := 9) inX11_parseNewSibling_RX11 0 (show 0 < 11 by decide) rfl rfl 0 (by decide) (by decide +kernel) rfl dX11_parseNewSibling_60 ?_
        refine cw_iconst (v := 1) dX11_parseNewSibling_63 (by decide) ?_
        refine cw_ialdL (j := 1) 1 (show 1 < 11 by decide) rfl 0 rfl dX11_parseNewSibling_64 rfl (by decide) (by decide) ?_
        refine cw_bipush (v := 31) dX11_parseNewSibling_65 (by decide) ?_
        refine cw_imul dX11_parseNewSibling_67 ?_
        refine cw_iadd dX11_parseNewSibling_68 ?_
        refine cw_istore_n dX11_parseNewSibling_69 rfl (by decide) rfl ?_
        refine cw_aload_n dX11_parseNewSibling_70 1 rfl rfl ?_
        refine cw_getf (C := RX11) (T := TX11) (N := 20) (ci := 9) inX11_parseNewSibling_RX11 0 (show 0 < 11 by decide) rfl rfl 0 (by decide) (by decide +kernel) rfl dX11_parseNewSibling_71 ?_
        refine cw_iload_n dX11_parseNewSibling_74 0 rfl rfl ?_
        refine cw_aload_n dX11_parseNewSibling_75 1 rfl rfl ?_
        refine cw_getf (C := RX11) (T := TX11) (N := 20) (ci := 9) inX11_parseNewSibling_RX11 0 (show 0 < 11 by decide) rfl rfl 15 (by decide) (by decide +kernel) rfl dX11_parseNewSibling_76 ?_
        refine cw_aload_n dX11_parseNewSibling_79 1 rfl rfl ?_
        refine cw_getf (C := RX11) (T := TX11) (N := 20) (ci := 9) inX11_parseNewSibling_RX11 0 (show 0 < 11 by decide) rfl rfl 17 (by decide) (by decide +kernel) rfl dX11_parseNewSibling_80 ?_
        refine cw_isub dX11_parseNewSibling_83 ?_
        obtain ⟨g_84, h⟩ := h
        refine cw_iast 1 (show 1 < 11 by decide) (fun _ => rfl) 0 rfl dX11_parseNewSibling_84 g_84 ?_
        refine cw_aload_n dX11_parseNewSibling_85 1 rfl rfl ?_
        refine cw_getf (C := RX11) (T := TX11) (N := 20) (ci := 9) inX11_parseNewSibling_RX11 0 (show 0 < 11 by decide) rfl rfl 17 (by decide) (by decide +kernel) rfl dX11_parseNewSibling_86 ?_
        refine cw_istore_n dX11_parseNewSibling_89 rfl (by decide) rfl ?_
        refine cw_sub [2, 1, 0] rfl ?_
        exact h
      · have h := h.2 q
        refine cw_aload_n dX11_parseNewSibling_51 0 rfl rfl ?_
        refine cw_iconst (v := 3) dX11_parseNewSibling_52 (by decide) ?_
        obtain ⟨v_53, J_53, hc_53, h⟩ := h
        refine cw_callV (o := 0) (As := [.int 3]) hc_53 okX11_wrong rfl gX11_parseNewSibling_X11_wrong (by decide) (show 0 < 11 by decide) rfl (ci := 9) rfl rfl (Nat.le_of_ble_eq_true rfl) dX11_parseNewSibling_53 ?_
        exact cw_bret rfl dX11_parseNewSibling_56 h.1 h.2
    · have h := h.2 q
      refine cw_iconst (v := 0) dX11_parseNewSibling_28 (by decide) ?_
      exact cw_bret rfl dX11_parseNewSibling_29 (by decide) h
  · have h := h.2 q
    refine cw_aload_n dX11_parseNewSibling_11 0 rfl rfl ?_
    refine cw_iconst (v := 4) dX11_parseNewSibling_12 (by decide) ?_
    obtain ⟨v_13, J_13, hc_13, h⟩ := h
    refine cw_callV (o := 0) (As := [.int 4]) hc_13 okX11_wrong rfl gX11_parseNewSibling_X11_wrong (by decide) (show 0 < 11 by decide) rfl (ci := 9) rfl rfl (Nat.le_of_ble_eq_true rfl) dX11_parseNewSibling_13 ?_
    exact cw_bret rfl dX11_parseNewSibling_16 h.1 h.2
set_option maxRecDepth 20000 in
set_option maxHeartbeats 4000000 in
theorem tbX11_parseNewSibling_0_90 {K : cw_K} {r : Option Value} {J0 I : cw_M} {x1 : Int32} {x2 : Int32} (h : (((I 0 15) ≤ x2 → (∃ J_126 : cw_M, cw_C (cr_w K) mX11_token [.ref (cw_a (cr_w K) 0)] I none J_126 ∧ bX11_parseNewSibling_0_131 K r J0 x1 0 J_126)) ∧ (¬ (I 0 15) ≤ x2 → (vp_in x2 600 ∧ (vp_in (((x1 + 1) + x2) - (I 0 17)) 2120 ∧ bX11_parseNewSibling_0_90 K r J0 x1 (x2 + 1) (cw_st I 1 (((x1 + 1) + x2) - (I 0 17)).toNatClampNeg (I 3 x2.toNatClampNeg))))))) : bX11_parseNewSibling_0_90 K r J0 x1 x2 I := by
  refine cw_iload_n dX11_parseNewSibling_90 2 rfl rfl ?_
  refine cw_aload_n dX11_parseNewSibling_91 0 rfl rfl ?_
  refine cw_getf (C := RX11) (T := TX11) (N := 20) (ci := 9) inX11_parseNewSibling_RX11 0 (show 0 < 11 by decide) rfl rfl 15 (by decide) (by decide +kernel) rfl dX11_parseNewSibling_92 ?_
  refine cw_icmp_ge (tgt := 125) dX11_parseNewSibling_95 (by decide) (fun q => ?_) (fun q => ?_)
  · have h := h.1 q
    refine cw_aload_n dX11_parseNewSibling_125 0 rfl rfl ?_
    obtain ⟨J_126, hc_126, h⟩ := h
    refine cw_callV (o := 0) (As := []) hc_126 okX11_token rfl gX11_parseNewSibling_X11_token (by decide) (show 0 < 11 by decide) rfl (ci := 9) rfl rfl (Nat.le_of_ble_eq_true rfl) dX11_parseNewSibling_126 ?_
    refine cw_iconst (v := 0) dX11_parseNewSibling_129 (by decide) ?_
    refine cw_istore_n dX11_parseNewSibling_130 rfl (by decide) rfl ?_
    refine cw_sub [1, 2, 0] rfl ?_
    exact h
  · have h := h.2 q
    refine cw_aload_n dX11_parseNewSibling_98 0 rfl rfl ?_
    refine cw_getf (C := RX11) (T := TX11) (N := 20) (ci := 9) inX11_parseNewSibling_RX11 0 (show 0 < 11 by decide) rfl rfl 0 (by decide) (by decide +kernel) rfl dX11_parseNewSibling_99 ?_
    refine cw_iload_n dX11_parseNewSibling_102 1 rfl rfl ?_
    refine cw_iconst (v := 1) dX11_parseNewSibling_103 (by decide) ?_
    refine cw_iadd dX11_parseNewSibling_104 ?_
    refine cw_iload_n dX11_parseNewSibling_105 2 rfl rfl ?_
    refine cw_iadd dX11_parseNewSibling_106 ?_
    refine cw_aload_n dX11_parseNewSibling_107 0 rfl rfl ?_
    refine cw_getf (C := RX11) (T := TX11) (N := 20) (ci := 9) inX11_parseNewSibling_RX11 0 (show 0 < 11 by decide) rfl rfl 17 (by decide) (by decide +kernel) rfl dX11_parseNewSibling_108 ?_
    refine cw_isub dX11_parseNewSibling_111 ?_
    refine cw_aload_n dX11_parseNewSibling_112 0 rfl rfl ?_
    refine cw_getf (C := RX11) (T := TX11) (N := 20) (ci := 9) inX11_parseNewSibling_RX11 0 (show 0 < 11 by decide) rfl rfl 3 (by decide) (by decide +kernel) rfl dX11_parseNewSibling_113 ?_
    refine cw_iload_n dX11_parseNewSibling_116 2 rfl rfl ?_
    obtain ⟨g_117, h⟩ := h
    refine cw_iald 3 (show 3 < 11 by decide) rfl 0 rfl dX11_parseNewSibling_117 g_117 ?_
    obtain ⟨g_118, h⟩ := h
    refine cw_iast 1 (show 1 < 11 by decide) (fun _ => rfl) 0 rfl dX11_parseNewSibling_118 g_118 ?_
    refine cw_iinc (v := x2 + 1) dX11_parseNewSibling_119 (j := 2) rfl rfl (by decide) rfl ?_
    refine cw_goto (tgt := 90) dX11_parseNewSibling_122 (by decide) ?_
    refine cw_sub [1, 2, 0] rfl ?_
    exact h
set_option maxRecDepth 20000 in
set_option maxHeartbeats 4000000 in
theorem tbX11_parseNewSibling_0_131 {K : cw_K} {r : Option Value} {J0 I : cw_M} {x1 : Int32} {x2 : Int32} (h : (((I 1 0) ≤ x2 → (∃ (v_166 : Int32) (J_166 : cw_M), cw_C (cr_w K) mX11_semicolon [.ref (cw_a (cr_w K) 0)] I (some (.int v_166)) J_166 ∧ ((¬ v_166 = 0 → (r = some (.int 1) ∧ J0 = cw_st J_166 1 1 ((J_166 1 1) + 1))) ∧ (v_166 = 0 → (r = some (.int 0) ∧ J0 = J_166))))) ∧ (¬ (I 1 0) ≤ x2 → (∃ (v_151 : Int32) (J_151 : cw_M), cw_C (cr_w K) mX11_parseRanged [.ref (cw_a (cr_w K) 0), .int ((x1 + 7) + x2), .int 0, .int 9] I (some (.int v_151)) J_151 ∧ ((¬ v_151 = 0 → bX11_parseNewSibling_0_131 K r J0 x1 (x2 + 1) J_151) ∧ (v_151 = 0 → (r = some (.int 0) ∧ J0 = J_151))))))) : bX11_parseNewSibling_0_131 K r J0 x1 x2 I := by
  refine cw_iload_n dX11_parseNewSibling_131 2 rfl rfl ?_
  refine cw_aload_n dX11_parseNewSibling_132 0 rfl rfl ?_
  refine cw_getf (C := RX11) (T := TX11) (N := 20) (ci := 9) inX11_parseNewSibling_RX11 0 (show 0 < 11 by decide) rfl rfl 0 (by decide) (by decide +kernel) rfl dX11_parseNewSibling_133 ?_
  refine cw_iconst (v := 0) dX11_parseNewSibling_136 (by decide) ?_
  refine cw_ialdL (j := 0) 1 (show 1 < 11 by decide) rfl 0 rfl dX11_parseNewSibling_137 rfl (by decide) (by decide) ?_
  refine cw_icmp_ge (tgt := 165) dX11_parseNewSibling_138 (by decide) (fun q => ?_) (fun q => ?_)
  · have h := h.1 q
    refine cw_aload_n dX11_parseNewSibling_165 0 rfl rfl ?_
    obtain ⟨v_166, J_166, hc_166, h⟩ := h
    refine cw_callV (o := 0) (As := []) hc_166 okX11_semicolon rfl gX11_parseNewSibling_X11_semicolon (by decide) (show 0 < 11 by decide) rfl (ci := 9) rfl rfl (Nat.le_of_ble_eq_true rfl) dX11_parseNewSibling_166 ?_
    refine cw_if_ne (tgt := 174) dX11_parseNewSibling_169 (by decide) (fun q => ?_) (fun q => ?_)
    · have h := h.1 q
      refine cw_aload_n dX11_parseNewSibling_174 0 rfl rfl ?_
      refine cw_getf (C := RX11) (T := TX11) (N := 20) (ci := 9) inX11_parseNewSibling_RX11 0 (show 0 < 11 by decide) rfl rfl 0 (by decide) (by decide +kernel) rfl dX11_parseNewSibling_175 ?_
      refine cw_iconst (v := 1) dX11_parseNewSibling_178 (by decide) ?_
      refine cw_dup2 dX11_parseNewSibling_179 rfl rfl ?_
      refine cw_ialdL (j := 1) 1 (show 1 < 11 by decide) rfl 0 rfl dX11_parseNewSibling_180 rfl (by decide) (by decide) ?_
      refine cw_iconst (v := 1) dX11_parseNewSibling_181 (by decide) ?_
      refine cw_iadd dX11_parseNewSibling_182 ?_
      refine cw_iastL (j := 1) 1 (show 1 < 11 by decide) (fun _ => rfl) 0 rfl dX11_parseNewSibling_183 rfl (by decide) (by decide) ?_
      refine cw_iconst (v := 1) dX11_parseNewSibling_184 (by decide) ?_
      exact cw_bret rfl dX11_parseNewSibling_185 (by decide) h
    · have h := h.2 q
      refine cw_iconst (v := 0) dX11_parseNewSibling_172 (by decide) ?_
      exact cw_bret rfl dX11_parseNewSibling_173 (by decide) h
  · have h := h.2 q
    refine cw_aload_n dX11_parseNewSibling_141 0 rfl rfl ?_
    refine cw_iload_n dX11_parseNewSibling_142 1 rfl rfl ?_
    refine cw_bipush (v := 7) dX11_parseNewSibling_143 (by decide) ?_
    refine cw_iadd dX11_parseNewSibling_145 ?_
    refine cw_iload_n dX11_parseNewSibling_146 2 rfl rfl ?_
    refine cw_iadd dX11_parseNewSibling_147 ?_
    refine cw_iconst (v := 0) dX11_parseNewSibling_148 (by decide) ?_
    refine cw_bipush (v := 9) dX11_parseNewSibling_149 (by decide) ?_
    obtain ⟨v_151, J_151, hc_151, h⟩ := h
    refine cw_callV (o := 0) (As := [.int ((x1 + 7) + x2), .int 0, .int 9]) hc_151 okX11_parseRanged rfl gX11_parseNewSibling_X11_parseRanged (by decide) (show 0 < 11 by decide) rfl (ci := 9) rfl rfl (Nat.le_of_ble_eq_true rfl) dX11_parseNewSibling_151 ?_
    refine cw_if_ne (tgt := 159) dX11_parseNewSibling_154 (by decide) (fun q => ?_) (fun q => ?_)
    · have h := h.1 q
      refine cw_iinc (v := x2 + 1) dX11_parseNewSibling_159 (j := 2) rfl rfl (by decide) rfl ?_
      refine cw_goto (tgt := 131) dX11_parseNewSibling_162 (by decide) ?_
      refine cw_sub [1, 2, 0] rfl ?_
      exact h
    · have h := h.2 q
      refine cw_iconst (v := 0) dX11_parseNewSibling_157 (by decide) ?_
      exact cw_bret rfl dX11_parseNewSibling_158 (by decide) h
set_option maxRecDepth 20000 in
set_option maxHeartbeats 4000000 in
theorem eX11_parseNumber_0 {K : cw_K} {r : Option Value} {J0 I : cw_M} {x1 : Int32} (h : (((I 0 16) = 2 → (vp_in x1 120 ∧ (∃ J_25 : cw_M, cw_C (cr_w K) mX11_token [.ref (cw_a (cr_w K) 0)] (cw_st I 10 x1.toNatClampNeg (I 0 18)) none J_25 ∧ (r = some (.int 1) ∧ J0 = J_25)))) ∧ (¬ (I 0 16) = 2 → (∃ (v_10 : Int32) (J_10 : cw_M), cw_C (cr_w K) mX11_wrong [.ref (cw_a (cr_w K) 0), .int 1] I (some (.int v_10)) J_10 ∧ ((v_10 = 0 ∨ v_10 = 1) ∧ (r = some (.int v_10) ∧ J0 = J_10)))))) : cw_C (cr_w K) mX11_parseNumber [.ref (cw_a (cr_w K) 0), .int x1] I r J0 := by
  refine cw_entry okX11_parseNumber (Nat.le_of_ble_eq_true rfl) (show cw_B (cr_w K) mX11_parseNumber (cw_Z (cr_w K) r J0) 0 0 I 0 [(0, .ref (cw_a (cr_w K) 0)), (1, .int x1)] [] from ?_)
  refine cw_aload_n dX11_parseNumber_0 0 rfl rfl ?_
  refine cw_getf (C := RX11) (T := TX11) (N := 20) (ci := 9) inX11_parseNumber_RX11 0 (show 0 < 11 by decide) rfl rfl 16 (by decide) (by decide +kernel) rfl dX11_parseNumber_1 ?_
  refine cw_iconst (v := 2) dX11_parseNumber_4 (by decide) ?_
  refine cw_icmp_eq (tgt := 14) dX11_parseNumber_5 (by decide) (fun q => ?_) (fun q => ?_)
  · have h := h.1 q
    refine cw_aload_n dX11_parseNumber_14 0 rfl rfl ?_
    refine cw_getf (C := RX11) (T := TX11) (N := 20) (ci := 9) inX11_parseNumber_RX11 0 (show 0 < 11 by decide) rfl rfl 19 (by decide) (by decide +kernel) rfl dX11_parseNumber_15 ?_
    refine cw_iload_n dX11_parseNumber_18 1 rfl rfl ?_
    refine cw_aload_n dX11_parseNumber_19 0 rfl rfl ?_
    refine cw_getf (C := RX11) (T := TX11) (N := 20) (ci := 9) inX11_parseNumber_RX11 0 (show 0 < 11 by decide) rfl rfl 18 (by decide) (by decide +kernel) rfl dX11_parseNumber_20 ?_
    obtain ⟨g_23, h⟩ := h
    refine cw_iast 10 (show 10 < 11 by decide) (fun _ => rfl) 0 rfl dX11_parseNumber_23 g_23 ?_
    refine cw_aload_n dX11_parseNumber_24 0 rfl rfl ?_
    obtain ⟨J_25, hc_25, h⟩ := h
    refine cw_callV (o := 0) (As := []) hc_25 okX11_token rfl gX11_parseNumber_X11_token (by decide) (show 0 < 11 by decide) rfl (ci := 9) rfl rfl (Nat.le_of_ble_eq_true rfl) dX11_parseNumber_25 ?_
    refine cw_iconst (v := 1) dX11_parseNumber_28 (by decide) ?_
    exact cw_bret rfl dX11_parseNumber_29 (by decide) h
  · have h := h.2 q
    refine cw_aload_n dX11_parseNumber_8 0 rfl rfl ?_
    refine cw_iconst (v := 1) dX11_parseNumber_9 (by decide) ?_
    obtain ⟨v_10, J_10, hc_10, h⟩ := h
    refine cw_callV (o := 0) (As := [.int 1]) hc_10 okX11_wrong rfl gX11_parseNumber_X11_wrong (by decide) (show 0 < 11 by decide) rfl (ci := 9) rfl rfl (Nat.le_of_ble_eq_true rfl) dX11_parseNumber_10 ?_
    exact cw_bret rfl dX11_parseNumber_13 h.1 h.2
set_option maxRecDepth 20000 in
set_option maxHeartbeats 4000000 in
theorem eX11_parseRanged_0 {K : cw_K} {r : Option Value} {J0 I : cw_M} {x1 : Int32} {x2 : Int32} {x3 : Int32} (h : (((I 0 16) = 2 → (∃ (v_20 : Int32) (J_20 : cw_M), cw_C (cr_w K) mX11_in [.int (I 0 18), .int x2, .int x3] I (some (.int v_20)) J_20 ∧ ((¬ v_20 = 0 → (vp_in x1 2120 ∧ (∃ J_43 : cw_M, cw_C (cr_w K) mX11_token [.ref (cw_a (cr_w K) 0)] (cw_st J_20 1 x1.toNatClampNeg (J_20 0 18)) none J_43 ∧ (r = some (.int 1) ∧ J0 = J_43)))) ∧ (v_20 = 0 → (∃ (v_28 : Int32) (J_28 : cw_M), cw_C (cr_w K) mX11_wrong [.ref (cw_a (cr_w K) 0), .int 2] J_20 (some (.int v_28)) J_28 ∧ ((v_28 = 0 ∨ v_28 = 1) ∧ (r = some (.int v_28) ∧ J0 = J_28))))))) ∧ (¬ (I 0 16) = 2 → (∃ (v_10 : Int32) (J_10 : cw_M), cw_C (cr_w K) mX11_wrong [.ref (cw_a (cr_w K) 0), .int 1] I (some (.int v_10)) J_10 ∧ ((v_10 = 0 ∨ v_10 = 1) ∧ (r = some (.int v_10) ∧ J0 = J_10)))))) : cw_C (cr_w K) mX11_parseRanged [.ref (cw_a (cr_w K) 0), .int x1, .int x2, .int x3] I r J0 := by
  refine cw_entry okX11_parseRanged (Nat.le_of_ble_eq_true rfl) (show cw_B (cr_w K) mX11_parseRanged (cw_Z (cr_w K) r J0) 0 0 I 0 [(0, .ref (cw_a (cr_w K) 0)), (1, .int x1), (2, .int x2), (3, .int x3)] [] from ?_)
  refine cw_aload_n dX11_parseRanged_0 0 rfl rfl ?_
  refine cw_getf (C := RX11) (T := TX11) (N := 20) (ci := 9) inX11_parseRanged_RX11 0 (show 0 < 11 by decide) rfl rfl 16 (by decide) (by decide +kernel) rfl dX11_parseRanged_1 ?_
  refine cw_iconst (v := 2) dX11_parseRanged_4 (by decide) ?_
  refine cw_icmp_eq (tgt := 14) dX11_parseRanged_5 (by decide) (fun q => ?_) (fun q => ?_)
  · have h := h.1 q
    refine cw_aload_n dX11_parseRanged_14 0 rfl rfl ?_
    refine cw_getf (C := RX11) (T := TX11) (N := 20) (ci := 9) inX11_parseRanged_RX11 0 (show 0 < 11 by decide) rfl rfl 18 (by decide) (by decide +kernel) rfl dX11_parseRanged_15 ?_
    refine cw_iload_n dX11_parseRanged_18 2 rfl rfl ?_
    refine cw_iload_n dX11_parseRanged_19 3 rfl rfl ?_
    obtain ⟨v_20, J_20, hc_20, h⟩ := h
    refine cw_callS (As := [.int (I 0 18), .int x2, .int x3]) hc_20 okX11_in rfl gX11_parseRanged_X11_in (by decide) rfl rfl (Nat.le_of_ble_eq_true rfl) dX11_parseRanged_20 ?_
    refine cw_if_ne (tgt := 32) dX11_parseRanged_23 (by decide) (fun q => ?_) (fun q => ?_)
    · have h := h.1 q
      refine cw_aload_n dX11_parseRanged_32 0 rfl rfl ?_
      refine cw_getf (C := RX11) (T := TX11) (N := 20) (ci := 9) inX11_parseRanged_RX11 0 (show 0 < 11 by decide) rfl rfl 0 (by decide) (by decide +kernel) rfl dX11_parseRanged_33 ?_
      refine cw_iload_n dX11_parseRanged_36 1 rfl rfl ?_
      refine cw_aload_n dX11_parseRanged_37 0 rfl rfl ?_
      refine cw_getf (C := RX11) (T := TX11) (N := 20) (ci := 9) inX11_parseRanged_RX11 0 (show 0 < 11 by decide) rfl rfl 18 (by decide) (by decide +kernel) rfl dX11_parseRanged_38 ?_
      obtain ⟨g_41, h⟩ := h
      refine cw_iast 1 (show 1 < 11 by decide) (fun _ => rfl) 0 rfl dX11_parseRanged_41 g_41 ?_
      refine cw_aload_n dX11_parseRanged_42 0 rfl rfl ?_
      obtain ⟨J_43, hc_43, h⟩ := h
      refine cw_callV (o := 0) (As := []) hc_43 okX11_token rfl gX11_parseRanged_X11_token (by decide) (show 0 < 11 by decide) rfl (ci := 9) rfl rfl (Nat.le_of_ble_eq_true rfl) dX11_parseRanged_43 ?_
      refine cw_iconst (v := 1) dX11_parseRanged_46 (by decide) ?_
      exact cw_bret rfl dX11_parseRanged_47 (by decide) h
    · have h := h.2 q
      refine cw_aload_n dX11_parseRanged_26 0 rfl rfl ?_
      refine cw_iconst (v := 2) dX11_parseRanged_27 (by decide) ?_
      obtain ⟨v_28, J_28, hc_28, h⟩ := h
      refine cw_callV (o := 0) (As := [.int 2]) hc_28 okX11_wrong rfl gX11_parseRanged_X11_wrong (by decide) (show 0 < 11 by decide) rfl (ci := 9) rfl rfl (Nat.le_of_ble_eq_true rfl) dX11_parseRanged_28 ?_
      exact cw_bret rfl dX11_parseRanged_31 h.1 h.2
  · have h := h.2 q
    refine cw_aload_n dX11_parseRanged_8 0 rfl rfl ?_
    refine cw_iconst (v := 1) dX11_parseRanged_9 (by decide) ?_
    obtain ⟨v_10, J_10, hc_10, h⟩ := h
    refine cw_callV (o := 0) (As := [.int 1]) hc_10 okX11_wrong rfl gX11_parseRanged_X11_wrong (by decide) (show 0 < 11 by decide) rfl (ci := 9) rfl rfl (Nat.le_of_ble_eq_true rfl) dX11_parseRanged_10 ?_
    exact cw_bret rfl dX11_parseRanged_13 h.1 h.2
abbrev bX11_parseScript_0_2 (K : cw_K) (r : Option Value) (J0 : cw_M) (x1 : Int32) (I : cw_M) : Prop := cw_B (cr_w K) mX11_parseScript (cw_Z (cr_w K) r J0) 0 0 I 2 [(0, .ref (cw_a (cr_w K) 0)), (1, .int x1)] []
set_option maxRecDepth 20000 in
set_option maxHeartbeats 4000000 in
theorem eX11_parseScript_0 {K : cw_K} {r : Option Value} {J0 I : cw_M} (h : bX11_parseScript_0_2 K r J0 0 I) : cw_C (cr_w K) mX11_parseScript [.ref (cw_a (cr_w K) 0)] I r J0 := by
  refine cw_entry okX11_parseScript (Nat.le_of_ble_eq_true rfl) (show cw_B (cr_w K) mX11_parseScript (cw_Z (cr_w K) r J0) 0 0 I 0 [(0, .ref (cw_a (cr_w K) 0))] [] from ?_)
  refine cw_iconst (v := 0) dX11_parseScript_0 (by decide) ?_
  refine cw_istore_n dX11_parseScript_1 rfl (by decide) rfl ?_
  refine cw_sub [1, 0] rfl ?_
  exact h
set_option maxRecDepth 20000 in
set_option maxHeartbeats 4000000 in
theorem tbX11_parseScript_0_2 {K : cw_K} {r : Option Value} {J0 I : cw_M} {x1 : Int32} (h : (((I 0 16) = 0 → (r = some (.int x1) ∧ J0 = I)) ∧ (¬ (I 0 16) = 0 → (∃ (v_10 : Int32) (J_10 : cw_M), cw_C (cr_w K) mX11_commandHere [.ref (cw_a (cr_w K) 0)] I (some (.int v_10)) J_10 ∧ ((v_10 = (-1) → (∃ (v_43 : Int32) (J_43 : cw_M), cw_C (cr_w K) mX11_wrong [.ref (cw_a (cr_w K) 0), .int 1] J_10 (some (.int v_43)) J_43 ∧ ((¬ v_43 = 0 → (∃ J_54 : cw_M, cw_C (cr_w K) mX11_token [.ref (cw_a (cr_w K) 0)] J_43 none J_54 ∧ (vp_in (x1 * 4) 120 ∧ (∃ (v_73 : Int32) (J_73 : cw_M), cw_C (cr_w K) mX11_parseArguments [.ref (cw_a (cr_w K) 0), .int v_10, .int ((x1 * 4) + 1)] (cw_st J_54 10 (x1 * 4).toNatClampNeg v_10) (some (.int v_73)) J_73 ∧ ((v_73 = 0 → (r = some (.int (-1)) ∧ J0 = J_73)) ∧ (¬ v_73 = 0 → (∃ (v_80 : Int32) (J_80 : cw_M), cw_C (cr_w K) mX11_semicolon [.ref (cw_a (cr_w K) 0)] J_73 (some (.int v_80)) J_80 ∧ ((¬ v_80 = 0 → bX11_parseScript_0_2 K r J0 (x1 + 1) J_80) ∧ (v_80 = 0 → (r = some (.int (-1)) ∧ J0 = J_80)))))))))) ∧ (v_43 = 0 → (r = some (.int (-1)) ∧ J0 = J_43))))) ∧ (¬ v_10 = (-1) → ((x1 < 30 → (∃ J_54 : cw_M, cw_C (cr_w K) mX11_token [.ref (cw_a (cr_w K) 0)] J_10 none J_54 ∧ (vp_in (x1 * 4) 120 ∧ (∃ (v_73 : Int32) (J_73 : cw_M), cw_C (cr_w K) mX11_parseArguments [.ref (cw_a (cr_w K) 0), .int v_10, .int ((x1 * 4) + 1)] (cw_st J_54 10 (x1 * 4).toNatClampNeg v_10) (some (.int v_73)) J_73 ∧ ((v_73 = 0 → (r = some (.int (-1)) ∧ J0 = J_73)) ∧ (¬ v_73 = 0 → (∃ (v_80 : Int32) (J_80 : cw_M), cw_C (cr_w K) mX11_semicolon [.ref (cw_a (cr_w K) 0)] J_73 (some (.int v_80)) J_80 ∧ ((¬ v_80 = 0 → bX11_parseScript_0_2 K r J0 (x1 + 1) J_80) ∧ (v_80 = 0 → (r = some (.int (-1)) ∧ J0 = J_80)))))))))) ∧ (¬ x1 < 30 → (∃ (v_27 : Int32) (J_27 : cw_M), cw_C (cr_w K) mX11_wrong [.ref (cw_a (cr_w K) 0), .int 4] J_10 (some (.int v_27)) J_27 ∧ ((v_27 = 0 → (r = some (.int (-1)) ∧ J0 = J_27)) ∧ (¬ v_27 = 0 → (∃ J_54 : cw_M, cw_C (cr_w K) mX11_token [.ref (cw_a (cr_w K) 0)] J_27 none J_54 ∧ (vp_in (x1 * 4) 120 ∧ (∃ (v_73 : Int32) (J_73 : cw_M), cw_C (cr_w K) mX11_parseArguments [.ref (cw_a (cr_w K) 0), .int v_10, .int ((x1 * 4) + 1)] (cw_st J_54 10 (x1 * 4).toNatClampNeg v_10) (some (.int v_73)) J_73 ∧ ((v_73 = 0 → (r = some (.int (-1)) ∧ J0 = J_73)) ∧ (¬ v_73 = 0 → (∃ (v_80 : Int32) (J_80 : cw_M), cw_C (cr_w K) mX11_semicolon [.ref (cw_a (cr_w K) 0)] J_73 (some (.int v_80)) J_80 ∧ ((¬ v_80 = 0 → bX11_parseScript_0_2 K r J0 (x1 + 1) J_80) ∧ (v_80 = 0 → (r = some (.int (-1)) ∧ J0 = J_80)))))))))))))))))))) : bX11_parseScript_0_2 K r J0 x1 I := by
  refine cw_aload_n dX11_parseScript_2 0 rfl rfl ?_
  refine cw_getf (C := RX11) (T := TX11) (N := 20) (ci := 9) inX11_parseScript_RX11 0 (show 0 < 11 by decide) rfl rfl 16 (by decide) (by decide +kernel) rfl dX11_parseScript_3 ?_
  refine cw_if_eq (tgt := 94) dX11_parseScript_6 (by decide) (fun q => ?_) (fun q => ?_)
  · have h := h.1 q
    refine cw_iload_n dX11_parseScript_94 1 rfl rfl ?_
    exact cw_iret rfl dX11_parseScript_95 h
  · have h := h.2 q
    refine cw_aload_n dX11_parseScript_9 0 rfl rfl ?_
    obtain ⟨v_10, J_10, hc_10, h⟩ := h
    refine cw_callV (o := 0) (As := []) hc_10 okX11_commandHere rfl gX11_parseScript_X11_commandHere (by decide) (show 0 < 11 by decide) rfl (ci := 9) rfl rfl (Nat.le_of_ble_eq_true rfl) dX11_parseScript_10 ?_
    refine cw_istore_n dX11_parseScript_13 rfl (by decide) rfl ?_
    refine cw_iload_n dX11_parseScript_14 0 rfl rfl ?_
    refine cw_iconst (v := (-1)) dX11_parseScript_15 (by decide) ?_
    refine cw_icmp_eq (tgt := 41) dX11_parseScript_16 (by decide) (fun q => ?_) (fun q => ?_)
    · have h := h.1 q
      refine cw_aload_n dX11_parseScript_41 1 rfl rfl ?_
      refine cw_iconst (v := 1) dX11_parseScript_42 (by decide) ?_
      obtain ⟨v_43, J_43, hc_43, h⟩ := h
      refine cw_callV (o := 0) (As := [.int 1]) hc_43 okX11_wrong rfl gX11_parseScript_X11_wrong (by decide) (show 0 < 11 by decide) rfl (ci := 9) rfl rfl (Nat.le_of_ble_eq_true rfl) dX11_parseScript_43 ?_
      refine cw_istore_n dX11_parseScript_46 rfl (by decide) rfl ?_
      refine cw_iload_n dX11_parseScript_47 0 rfl rfl ?_
      refine cw_if_ne (tgt := 53) dX11_parseScript_48 (by decide) (fun q => ?_) (fun q => ?_)
      · have h := h.1 q
        refine cw_aload_n dX11_parseScript_53 2 rfl rfl ?_
        obtain ⟨J_54, hc_54, h⟩ := h
        refine cw_callV (o := 0) (As := []) hc_54 okX11_token rfl gX11_parseScript_X11_token (by decide) (show 0 < 11 by decide) rfl (ci := 9) rfl rfl (Nat.le_of_ble_eq_true rfl) dX11_parseScript_54 ?_
        refine cw_aload_n dX11_parseScript_57 2 rfl rfl ?_
        refine cw_getf (C := RX11) (T := TX11) (N := 20) (ci := 9) inX11_parseScript_RX11 0 (show 0 < 11 by decide) rfl rfl 19 (by decide) (by decide +kernel) rfl dX11_parseScript_58 ?_
        refine cw_iload_n dX11_parseScript_61 3 rfl rfl ?_
        refine cw_iconst (v := 4) dX11_parseScript_62 (by decide) ?_
        refine cw_imul dX11_parseScript_63 ?_
        refine cw_iload_n dX11_parseScript_64 1 rfl rfl ?_
        obtain ⟨g_65, h⟩ := h
        refine cw_iast 10 (show 10 < 11 by decide) (fun _ => rfl) 0 rfl dX11_parseScript_65 g_65 ?_
        refine cw_aload_n dX11_parseScript_66 2 rfl rfl ?_
        refine cw_iload_n dX11_parseScript_67 1 rfl rfl ?_
        refine cw_iload_n dX11_parseScript_68 3 rfl rfl ?_
        refine cw_iconst (v := 4) dX11_parseScript_69 (by decide) ?_
        refine cw_imul dX11_parseScript_70 ?_
        refine cw_iconst (v := 1) dX11_parseScript_71 (by decide) ?_
        refine cw_iadd dX11_parseScript_72 ?_
        obtain ⟨v_73, J_73, hc_73, h⟩ := h
        refine cw_callV (o := 0) (As := [.int v_10, .int ((x1 * 4) + 1)]) hc_73 okX11_parseArguments rfl gX11_parseScript_X11_parseArguments (by decide) (show 0 < 11 by decide) rfl (ci := 9) rfl rfl (Nat.le_of_ble_eq_true rfl) dX11_parseScript_73 ?_
        refine cw_if_eq (tgt := 86) dX11_parseScript_76 (by decide) (fun q => ?_) (fun q => ?_)
        · have h := h.1 q
          refine cw_iconst (v := (-1)) dX11_parseScript_86 (by decide) ?_
          exact cw_iret rfl dX11_parseScript_87 h
        · have h := h.2 q
          refine cw_aload_n dX11_parseScript_79 2 rfl rfl ?_
          obtain ⟨v_80, J_80, hc_80, h⟩ := h
          refine cw_callV (o := 0) (As := []) hc_80 okX11_semicolon rfl gX11_parseScript_X11_semicolon (by decide) (show 0 < 11 by decide) rfl (ci := 9) rfl rfl (Nat.le_of_ble_eq_true rfl) dX11_parseScript_80 ?_
          refine cw_if_ne (tgt := 88) dX11_parseScript_83 (by decide) (fun q => ?_) (fun q => ?_)
          · have h := h.1 q
            refine cw_iinc (v := x1 + 1) dX11_parseScript_88 (j := 3) rfl rfl (by decide) rfl ?_
            refine cw_goto (tgt := 2) dX11_parseScript_91 (by decide) ?_
            refine cw_sub [3, 0] rfl ?_
            exact h
          · have h := h.2 q
            refine cw_iconst (v := (-1)) dX11_parseScript_86 (by decide) ?_
            exact cw_iret rfl dX11_parseScript_87 h
      · have h := h.2 q
        refine cw_iconst (v := (-1)) dX11_parseScript_51 (by decide) ?_
        exact cw_iret rfl dX11_parseScript_52 h
    · have h := h.2 q
      refine cw_iload_n dX11_parseScript_19 2 rfl rfl ?_
      refine cw_bipush (v := 30) dX11_parseScript_20 (by decide) ?_
      refine cw_icmp_lt (tgt := 33) dX11_parseScript_22 (by decide) (fun q => ?_) (fun q => ?_)
      · have h := h.1 q
        refine cw_iconst (v := 1) dX11_parseScript_33 (by decide) ?_
        refine cw_goto (tgt := 46) dX11_parseScript_34 (by decide) ?_
        refine cw_istore_n dX11_parseScript_46 rfl (by decide) rfl ?_
        refine cw_iload_n dX11_parseScript_47 0 rfl rfl ?_
        refine cw_if_ne (tgt := 53) dX11_parseScript_48 (by decide) (fun _ => ?_) (fun q => absurd q (by decide))
        refine cw_aload_n dX11_parseScript_53 2 rfl rfl ?_
        obtain ⟨J_54, hc_54, h⟩ := h
        refine cw_callV (o := 0) (As := []) hc_54 okX11_token rfl gX11_parseScript_X11_token (by decide) (show 0 < 11 by decide) rfl (ci := 9) rfl rfl (Nat.le_of_ble_eq_true rfl) dX11_parseScript_54 ?_
        refine cw_aload_n dX11_parseScript_57 2 rfl rfl ?_
        refine cw_getf (C := RX11) (T := TX11) (N := 20) (ci := 9) inX11_parseScript_RX11 0 (show 0 < 11 by decide) rfl rfl 19 (by decide) (by decide +kernel) rfl dX11_parseScript_58 ?_
        refine cw_iload_n dX11_parseScript_61 3 rfl rfl ?_
        refine cw_iconst (v := 4) dX11_parseScript_62 (by decide) ?_
        refine cw_imul dX11_parseScript_63 ?_
        refine cw_iload_n dX11_parseScript_64 1 rfl rfl ?_
        obtain ⟨g_65, h⟩ := h
        refine cw_iast 10 (show 10 < 11 by decide) (fun _ => rfl) 0 rfl dX11_parseScript_65 g_65 ?_
        refine cw_aload_n dX11_parseScript_66 2 rfl rfl ?_
        refine cw_iload_n dX11_parseScript_67 1 rfl rfl ?_
        refine cw_iload_n dX11_parseScript_68 3 rfl rfl ?_
        refine cw_iconst (v := 4) dX11_parseScript_69 (by decide) ?_
        refine cw_imul dX11_parseScript_70 ?_
        refine cw_iconst (v := 1) dX11_parseScript_71 (by decide) ?_
        refine cw_iadd dX11_parseScript_72 ?_
        obtain ⟨v_73, J_73, hc_73, h⟩ := h
        refine cw_callV (o := 0) (As := [.int v_10, .int ((x1 * 4) + 1)]) hc_73 okX11_parseArguments rfl gX11_parseScript_X11_parseArguments (by decide) (show 0 < 11 by decide) rfl (ci := 9) rfl rfl (Nat.le_of_ble_eq_true rfl) dX11_parseScript_73 ?_
        refine cw_if_eq (tgt := 86) dX11_parseScript_76 (by decide) (fun q => ?_) (fun q => ?_)
        · have h := h.1 q
          refine cw_iconst (v := (-1)) dX11_parseScript_86 (by decide) ?_
          exact cw_iret rfl dX11_parseScript_87 h
        · have h := h.2 q
          refine cw_aload_n dX11_parseScript_79 2 rfl rfl ?_
          obtain ⟨v_80, J_80, hc_80, h⟩ := h
          refine cw_callV (o := 0) (As := []) hc_80 okX11_semicolon rfl gX11_parseScript_X11_semicolon (by decide) (show 0 < 11 by decide) rfl (ci := 9) rfl rfl (Nat.le_of_ble_eq_true rfl) dX11_parseScript_80 ?_
          refine cw_if_ne (tgt := 88) dX11_parseScript_83 (by decide) (fun q => ?_) (fun q => ?_)
          · have h := h.1 q
            refine cw_iinc (v := x1 + 1) dX11_parseScript_88 (j := 3) rfl rfl (by decide) rfl ?_
            refine cw_goto (tgt := 2) dX11_parseScript_91 (by decide) ?_
            refine cw_sub [3, 0] rfl ?_
            exact h
          · have h := h.2 q
            refine cw_iconst (v := (-1)) dX11_parseScript_86 (by decide) ?_
            exact cw_iret rfl dX11_parseScript_87 h
      · have h := h.2 q
        refine cw_aload_n dX11_parseScript_25 1 rfl rfl ?_
        refine cw_iconst (v := 4) dX11_parseScript_26 (by decide) ?_
        obtain ⟨v_27, J_27, hc_27, h⟩ := h
        refine cw_callV (o := 0) (As := [.int 4]) hc_27 okX11_wrong rfl gX11_parseScript_X11_wrong (by decide) (show 0 < 11 by decide) rfl (ci := 9) rfl rfl (Nat.le_of_ble_eq_true rfl) dX11_parseScript_27 ?_
        refine cw_if_eq (tgt := 37) dX11_parseScript_30 (by decide) (fun q => ?_) (fun q => ?_)
        · have h := h.1 q
          refine cw_iconst (v := 0) dX11_parseScript_37 (by decide) ?_
          refine cw_goto (tgt := 46) dX11_parseScript_38 (by decide) ?_
          refine cw_istore_n dX11_parseScript_46 rfl (by decide) rfl ?_
          refine cw_iload_n dX11_parseScript_47 0 rfl rfl ?_
          refine cw_if_ne (tgt := 53) dX11_parseScript_48 (by decide) (fun q => absurd q (by decide)) (fun _ => ?_)
          refine cw_iconst (v := (-1)) dX11_parseScript_51 (by decide) ?_
          exact cw_iret rfl dX11_parseScript_52 h
        · have h := h.2 q
          refine cw_iconst (v := 1) dX11_parseScript_33 (by decide) ?_
          refine cw_goto (tgt := 46) dX11_parseScript_34 (by decide) ?_
          refine cw_istore_n dX11_parseScript_46 rfl (by decide) rfl ?_
          refine cw_iload_n dX11_parseScript_47 0 rfl rfl ?_
          refine cw_if_ne (tgt := 53) dX11_parseScript_48 (by decide) (fun _ => ?_) (fun q => absurd q (by decide))
          refine cw_aload_n dX11_parseScript_53 2 rfl rfl ?_
          obtain ⟨J_54, hc_54, h⟩ := h
          refine cw_callV (o := 0) (As := []) hc_54 okX11_token rfl gX11_parseScript_X11_token (by decide) (show 0 < 11 by decide) rfl (ci := 9) rfl rfl (Nat.le_of_ble_eq_true rfl) dX11_parseScript_54 ?_
          refine cw_aload_n dX11_parseScript_57 2 rfl rfl ?_
          refine cw_getf (C := RX11) (T := TX11) (N := 20) (ci := 9) inX11_parseScript_RX11 0 (show 0 < 11 by decide) rfl rfl 19 (by decide) (by decide +kernel) rfl dX11_parseScript_58 ?_
          refine cw_iload_n dX11_parseScript_61 3 rfl rfl ?_
          refine cw_iconst (v := 4) dX11_parseScript_62 (by decide) ?_
          refine cw_imul dX11_parseScript_63 ?_
          refine cw_iload_n dX11_parseScript_64 1 rfl rfl ?_
          obtain ⟨g_65, h⟩ := h
          refine cw_iast 10 (show 10 < 11 by decide) (fun _ => rfl) 0 rfl dX11_parseScript_65 g_65 ?_
          refine cw_aload_n dX11_parseScript_66 2 rfl rfl ?_
          refine cw_iload_n dX11_parseScript_67 1 rfl rfl ?_
          refine cw_iload_n dX11_parseScript_68 3 rfl rfl ?_
          refine cw_iconst (v := 4) dX11_parseScript_69 (by decide) ?_
          refine cw_imul dX11_parseScript_70 ?_
          refine cw_iconst (v := 1) dX11_parseScript_71 (by decide) ?_
          refine cw_iadd dX11_parseScript_72 ?_
          obtain ⟨v_73, J_73, hc_73, h⟩ := h
          refine cw_callV (o := 0) (As := [.int v_10, .int ((x1 * 4) + 1)]) hc_73 okX11_parseArguments rfl gX11_parseScript_X11_parseArguments (by decide) (show 0 < 11 by decide) rfl (ci := 9) rfl rfl (Nat.le_of_ble_eq_true rfl) dX11_parseScript_73 ?_
          refine cw_if_eq (tgt := 86) dX11_parseScript_76 (by decide) (fun q => ?_) (fun q => ?_)
          · have h := h.1 q
            refine cw_iconst (v := (-1)) dX11_parseScript_86 (by decide) ?_
            exact cw_iret rfl dX11_parseScript_87 h
          · have h := h.2 q
            refine cw_aload_n dX11_parseScript_79 2 rfl rfl ?_
            obtain ⟨v_80, J_80, hc_80, h⟩ := h
            refine cw_callV (o := 0) (As := []) hc_80 okX11_semicolon rfl gX11_parseScript_X11_semicolon (by decide) (show 0 < 11 by decide) rfl (ci := 9) rfl rfl (Nat.le_of_ble_eq_true rfl) dX11_parseScript_80 ?_
            refine cw_if_ne (tgt := 88) dX11_parseScript_83 (by decide) (fun q => ?_) (fun q => ?_)
            · have h := h.1 q
              refine cw_iinc (v := x1 + 1) dX11_parseScript_88 (j := 3) rfl rfl (by decide) rfl ?_
              refine cw_goto (tgt := 2) dX11_parseScript_91 (by decide) ?_
              refine cw_sub [3, 0] rfl ?_
              exact h
            · have h := h.2 q
              refine cw_iconst (v := (-1)) dX11_parseScript_86 (by decide) ?_
              exact cw_iret rfl dX11_parseScript_87 h
abbrev bX11_parseSetup_0_2 (K : cw_K) (r : Option Value) (J0 : cw_M) (x1 : Int32) (I : cw_M) : Prop := cw_B (cr_w K) mX11_parseSetup (cw_Z (cr_w K) r J0) 0 0 I 2 [(0, .ref (cw_a (cr_w K) 0)), (1, .int x1)] []
abbrev bX11_parseSetup_0_80 (K : cw_K) (r : Option Value) (J0 : cw_M) (I : cw_M) : Prop := cw_B (cr_w K) mX11_parseSetup (cw_Z (cr_w K) r J0) 0 0 I 80 [(0, .ref (cw_a (cr_w K) 0))] []
set_option maxRecDepth 20000 in
set_option maxHeartbeats 4000000 in
theorem eX11_parseSetup_0 {K : cw_K} {r : Option Value} {J0 I : cw_M} (h : bX11_parseSetup_0_2 K r J0 0 I) : cw_C (cr_w K) mX11_parseSetup [.ref (cw_a (cr_w K) 0)] I r J0 := by
  refine cw_entry okX11_parseSetup (Nat.le_of_ble_eq_true rfl) (show cw_B (cr_w K) mX11_parseSetup (cw_Z (cr_w K) r J0) 0 0 I 0 [(0, .ref (cw_a (cr_w K) 0))] [] from ?_)
  refine cw_iconst (v := 0) dX11_parseSetup_0 (by decide) ?_
  refine cw_istore_n dX11_parseSetup_1 rfl (by decide) rfl ?_
  refine cw_sub [1, 0] rfl ?_
  exact h
set_option maxRecDepth 20000 in
set_option maxHeartbeats 4000000 in
theorem tbX11_parseSetup_0_2 {K : cw_K} {r : Option Value} {J0 I : cw_M} {x1 : Int32} (hFC : cw_FC K) (h : ((212 ≤ x1 → (∃ (v_25 : Int32) (J_25 : cw_M), cw_C (cr_w K) mX11_isWord [.ref (cw_a (cr_w K) 0), .ref (cw_sd K 0)] I (some (.int v_25)) J_25 ∧ ((¬ v_25 = 0 → (∃ J_38 : cw_M, cw_C (cr_w K) mX11_token [.ref (cw_a (cr_w K) 0)] J_25 none J_38 ∧ (∃ (v_46 : Int32) (J_46 : cw_M), cw_C (cr_w K) mX11_parseRanged [.ref (cw_a (cr_w K) 0), .int 0, .int 1, .int 24] J_38 (some (.int v_46)) J_46 ∧ ((v_46 = 0 → (r = some (.int 0) ∧ J0 = J_46)) ∧ (¬ v_46 = 0 → (∃ (v_53 : Int32) (J_53 : cw_M), cw_C (cr_w K) mX11_semicolon [.ref (cw_a (cr_w K) 0)] J_46 (some (.int v_53)) J_53 ∧ ((¬ v_53 = 0 → (∃ J_62 : cw_M, cw_C (cr_w K) mX11_clear [.ref (cw_a (cr_w K) 0)] J_53 none J_62 ∧ (∃ (v_68 : Int32) (J_68 : cw_M), cw_C (cr_w K) mX11_isWord [.ref (cw_a (cr_w K) 0), .ref (cw_sd K 1)] J_62 (some (.int v_68)) J_68 ∧ ((¬ v_68 = 0 → bX11_parseSetup_0_80 K r J0 J_68) ∧ (v_68 = 0 → (∃ (v_76 : Int32) (J_76 : cw_M), cw_C (cr_w K) mX11_wrong [.ref (cw_a (cr_w K) 0), .int 1] J_68 (some (.int v_76)) J_76 ∧ ((v_76 = 0 ∨ v_76 = 1) ∧ (r = some (.int v_76) ∧ J0 = J_76)))))))) ∧ (v_53 = 0 → (r = some (.int 0) ∧ J0 = J_53))))))))) ∧ (v_25 = 0 → (∃ (v_33 : Int32) (J_33 : cw_M), cw_C (cr_w K) mX11_wrong [.ref (cw_a (cr_w K) 0), .int 1] J_25 (some (.int v_33)) J_33 ∧ ((v_33 = 0 ∨ v_33 = 1) ∧ (r = some (.int v_33) ∧ J0 = J_33))))))) ∧ (¬ 212 ≤ x1 → (vp_in x1 2120 ∧ bX11_parseSetup_0_2 K r J0 (x1 + 1) (cw_st I 1 x1.toNatClampNeg 0))))) : bX11_parseSetup_0_2 K r J0 x1 I := by
  refine cw_iload_n dX11_parseSetup_2 1 rfl rfl ?_
  refine cw_sipush (v := 212) dX11_parseSetup_3 (by decide) ?_
  refine cw_icmp_ge (tgt := 22) dX11_parseSetup_6 (by decide) (fun q => ?_) (fun q => ?_)
  · have h := h.1 q
    refine cw_aload_n dX11_parseSetup_22 0 rfl rfl ?_
    refine cw_ldcS (tx := "cake") (hFC (RX11, 202, "cake", 0) (by decide +kernel)) dX11_parseSetup_23 ?_
    obtain ⟨v_25, J_25, hc_25, h⟩ := h
    refine cw_callV (o := 0) (As := [.ref (cw_sd K 0)]) hc_25 okX11_isWord rfl gX11_parseSetup_X11_isWord (by decide) (show 0 < 11 by decide) rfl (ci := 9) rfl rfl (Nat.le_of_ble_eq_true rfl) dX11_parseSetup_25 ?_
    refine cw_if_ne (tgt := 37) dX11_parseSetup_28 (by decide) (fun q => ?_) (fun q => ?_)
    · have h := h.1 q
      refine cw_aload_n dX11_parseSetup_37 0 rfl rfl ?_
      obtain ⟨J_38, hc_38, h⟩ := h
      refine cw_callV (o := 0) (As := []) hc_38 okX11_token rfl gX11_parseSetup_X11_token (by decide) (show 0 < 11 by decide) rfl (ci := 9) rfl rfl (Nat.le_of_ble_eq_true rfl) dX11_parseSetup_38 ?_
      refine cw_aload_n dX11_parseSetup_41 0 rfl rfl ?_
      refine cw_iconst (v := 0) dX11_parseSetup_42 (by decide) ?_
      refine cw_iconst (v := 1) dX11_parseSetup_43 (by decide) ?_
      refine cw_bipush (v := 24) dX11_parseSetup_44 (by decide) ?_
      obtain ⟨v_46, J_46, hc_46, h⟩ := h
      refine cw_callV (o := 0) (As := [.int 0, .int 1, .int 24]) hc_46 okX11_parseRanged rfl gX11_parseSetup_X11_parseRanged (by decide) (show 0 < 11 by decide) rfl (ci := 9) rfl rfl (Nat.le_of_ble_eq_true rfl) dX11_parseSetup_46 ?_
      refine cw_if_eq (tgt := 59) dX11_parseSetup_49 (by decide) (fun q => ?_) (fun q => ?_)
      · have h := h.1 q
        refine cw_iconst (v := 0) dX11_parseSetup_59 (by decide) ?_
        exact cw_bret rfl dX11_parseSetup_60 (by decide) h
      · have h := h.2 q
        refine cw_aload_n dX11_parseSetup_52 0 rfl rfl ?_
        obtain ⟨v_53, J_53, hc_53, h⟩ := h
        refine cw_callV (o := 0) (As := []) hc_53 okX11_semicolon rfl gX11_parseSetup_X11_semicolon (by decide) (show 0 < 11 by decide) rfl (ci := 9) rfl rfl (Nat.le_of_ble_eq_true rfl) dX11_parseSetup_53 ?_
        refine cw_if_ne (tgt := 61) dX11_parseSetup_56 (by decide) (fun q => ?_) (fun q => ?_)
        · have h := h.1 q
          refine cw_aload_n dX11_parseSetup_61 0 rfl rfl ?_
          obtain ⟨J_62, hc_62, h⟩ := h
          refine cw_callV (o := 0) (As := []) hc_62 okX11_clear rfl gX11_parseSetup_X11_clear (by decide) (show 0 < 11 by decide) rfl (ci := 9) rfl rfl (Nat.le_of_ble_eq_true rfl) dX11_parseSetup_62 ?_
          refine cw_aload_n dX11_parseSetup_65 0 rfl rfl ?_
          refine cw_ldcS (tx := "sibling") (hFC (RX11, 208, "sibling", 1) (by decide +kernel)) dX11_parseSetup_66 ?_
          obtain ⟨v_68, J_68, hc_68, h⟩ := h
          refine cw_callV (o := 0) (As := [.ref (cw_sd K 1)]) hc_68 okX11_isWord rfl gX11_parseSetup_X11_isWord (by decide) (show 0 < 11 by decide) rfl (ci := 9) rfl rfl (Nat.le_of_ble_eq_true rfl) dX11_parseSetup_68 ?_
          refine cw_if_ne (tgt := 80) dX11_parseSetup_71 (by decide) (fun q => ?_) (fun q => ?_)
          · have h := h.1 q
            refine cw_sub [0] rfl ?_
            exact h
          · have h := h.2 q
            refine cw_aload_n dX11_parseSetup_74 0 rfl rfl ?_
            refine cw_iconst (v := 1) dX11_parseSetup_75 (by decide) ?_
            obtain ⟨v_76, J_76, hc_76, h⟩ := h
            refine cw_callV (o := 0) (As := [.int 1]) hc_76 okX11_wrong rfl gX11_parseSetup_X11_wrong (by decide) (show 0 < 11 by decide) rfl (ci := 9) rfl rfl (Nat.le_of_ble_eq_true rfl) dX11_parseSetup_76 ?_
            exact cw_bret rfl dX11_parseSetup_79 h.1 h.2
        · have h := h.2 q
          refine cw_iconst (v := 0) dX11_parseSetup_59 (by decide) ?_
          exact cw_bret rfl dX11_parseSetup_60 (by decide) h
    · have h := h.2 q
      refine cw_aload_n dX11_parseSetup_31 0 rfl rfl ?_
      refine cw_iconst (v := 1) dX11_parseSetup_32 (by decide) ?_
      obtain ⟨v_33, J_33, hc_33, h⟩ := h
      refine cw_callV (o := 0) (As := [.int 1]) hc_33 okX11_wrong rfl gX11_parseSetup_X11_wrong (by decide) (show 0 < 11 by decide) rfl (ci := 9) rfl rfl (Nat.le_of_ble_eq_true rfl) dX11_parseSetup_33 ?_
      exact cw_bret rfl dX11_parseSetup_36 h.1 h.2
  · have h := h.2 q
    refine cw_aload_n dX11_parseSetup_9 0 rfl rfl ?_
    refine cw_getf (C := RX11) (T := TX11) (N := 20) (ci := 9) inX11_parseSetup_RX11 0 (show 0 < 11 by decide) rfl rfl 0 (by decide) (by decide +kernel) rfl dX11_parseSetup_10 ?_
    refine cw_iload_n dX11_parseSetup_13 1 rfl rfl ?_
    refine cw_iconst (v := 0) dX11_parseSetup_14 (by decide) ?_
    obtain ⟨g_15, h⟩ := h
    refine cw_iast 1 (show 1 < 11 by decide) (fun _ => rfl) 0 rfl dX11_parseSetup_15 g_15 ?_
    refine cw_iinc (v := x1 + 1) dX11_parseSetup_16 (j := 1) rfl rfl (by decide) rfl ?_
    refine cw_goto (tgt := 2) dX11_parseSetup_19 (by decide) ?_
    refine cw_sub [1, 0] rfl ?_
    exact h
set_option maxRecDepth 20000 in
set_option maxHeartbeats 4000000 in
theorem tbX11_parseSetup_0_80 {K : cw_K} {r : Option Value} {J0 I : cw_M} (hFC : cw_FC K) (h : (∃ (v_83 : Int32) (J_83 : cw_M), cw_C (cr_w K) mX11_isWord [.ref (cw_a (cr_w K) 0), .ref (cw_sd K 1)] I (some (.int v_83)) J_83 ∧ ((v_83 = 0 → (((J_83 0 16) = 0 → (r = some (.int 1) ∧ J0 = J_83)) ∧ (¬ (J_83 0 16) = 0 → (∃ (v_107 : Int32) (J_107 : cw_M), cw_C (cr_w K) mX11_wrong [.ref (cw_a (cr_w K) 0), .int 1] J_83 (some (.int v_107)) J_107 ∧ ((v_107 = 0 → (r = some (.int 0) ∧ J0 = J_107)) ∧ (¬ v_107 = 0 → (r = some (.int 1) ∧ J0 = J_107))))))) ∧ (¬ v_83 = 0 → (∃ (v_90 : Int32) (J_90 : cw_M), cw_C (cr_w K) mX11_parseNewSibling [.ref (cw_a (cr_w K) 0)] J_83 (some (.int v_90)) J_90 ∧ ((¬ v_90 = 0 → bX11_parseSetup_0_80 K r J0 J_90) ∧ (v_90 = 0 → (r = some (.int 0) ∧ J0 = J_90)))))))) : bX11_parseSetup_0_80 K r J0  I := by
  refine cw_aload_n dX11_parseSetup_80 0 rfl rfl ?_
  refine cw_ldcS (tx := "sibling") (hFC (RX11, 208, "sibling", 1) (by decide +kernel)) dX11_parseSetup_81 ?_
  obtain ⟨v_83, J_83, hc_83, h⟩ := h
  refine cw_callV (o := 0) (As := [.ref (cw_sd K 1)]) hc_83 okX11_isWord rfl gX11_parseSetup_X11_isWord (by decide) (show 0 < 11 by decide) rfl (ci := 9) rfl rfl (Nat.le_of_ble_eq_true rfl) dX11_parseSetup_83 ?_
  refine cw_if_eq (tgt := 98) dX11_parseSetup_86 (by decide) (fun q => ?_) (fun q => ?_)
  · have h := h.1 q
    refine cw_aload_n dX11_parseSetup_98 0 rfl rfl ?_
    refine cw_getf (C := RX11) (T := TX11) (N := 20) (ci := 9) inX11_parseSetup_RX11 0 (show 0 < 11 by decide) rfl rfl 16 (by decide) (by decide +kernel) rfl dX11_parseSetup_99 ?_
    refine cw_if_eq (tgt := 113) dX11_parseSetup_102 (by decide) (fun q => ?_) (fun q => ?_)
    · have h := h.1 q
      refine cw_iconst (v := 1) dX11_parseSetup_113 (by decide) ?_
      refine cw_goto (tgt := 118) dX11_parseSetup_114 (by decide) ?_
      exact cw_bret rfl dX11_parseSetup_118 (by decide) h
    · have h := h.2 q
      refine cw_aload_n dX11_parseSetup_105 0 rfl rfl ?_
      refine cw_iconst (v := 1) dX11_parseSetup_106 (by decide) ?_
      obtain ⟨v_107, J_107, hc_107, h⟩ := h
      refine cw_callV (o := 0) (As := [.int 1]) hc_107 okX11_wrong rfl gX11_parseSetup_X11_wrong (by decide) (show 0 < 11 by decide) rfl (ci := 9) rfl rfl (Nat.le_of_ble_eq_true rfl) dX11_parseSetup_107 ?_
      refine cw_if_eq (tgt := 117) dX11_parseSetup_110 (by decide) (fun q => ?_) (fun q => ?_)
      · have h := h.1 q
        refine cw_iconst (v := 0) dX11_parseSetup_117 (by decide) ?_
        exact cw_bret rfl dX11_parseSetup_118 (by decide) h
      · have h := h.2 q
        refine cw_iconst (v := 1) dX11_parseSetup_113 (by decide) ?_
        refine cw_goto (tgt := 118) dX11_parseSetup_114 (by decide) ?_
        exact cw_bret rfl dX11_parseSetup_118 (by decide) h
  · have h := h.2 q
    refine cw_aload_n dX11_parseSetup_89 0 rfl rfl ?_
    obtain ⟨v_90, J_90, hc_90, h⟩ := h
    refine cw_callV (o := 0) (As := []) hc_90 okX11_parseNewSibling rfl gX11_parseSetup_X11_parseNewSibling (by decide) (show 0 < 11 by decide) rfl (ci := 9) rfl rfl (Nat.le_of_ble_eq_true rfl) dX11_parseSetup_90 ?_
    refine cw_if_ne (tgt := 80) dX11_parseSetup_93 (by decide) (fun q => ?_) (fun q => ?_)
    · have h := h.1 q
      exact h
    · have h := h.2 q
      refine cw_iconst (v := 0) dX11_parseSetup_96 (by decide) ?_
      exact cw_bret rfl dX11_parseSetup_97 (by decide) h
set_option maxRecDepth 20000 in
set_option maxHeartbeats 4000000 in
theorem eX11_parseSibling_0 {K : cw_K} {r : Option Value} {J0 I : cw_M} {x1 : Int32} (h : (∃ (v_1 : Int32) (J_1 : cw_M), cw_C (cr_w K) mX11_isShortWord [.ref (cw_a (cr_w K) 0)] I (some (.int v_1)) J_1 ∧ ((¬ v_1 = 0 → (∃ (v_28 : Int32) (J_28 : cw_M), cw_C (cr_w K) mX11_siblingNamed [.ref (cw_a (cr_w K) 0), .int (J_1 0 17), .int ((J_1 0 15) - (J_1 0 17))] J_1 (some (.int v_28)) J_28 ∧ (vp_in x1 120 ∧ (vp_in x1 120 ∧ ((¬ ((cw_st J_28 10 x1.toNatClampNeg v_28) 10 x1.toNatClampNeg) = (-1) → (∃ J_49 : cw_M, cw_C (cr_w K) mX11_token [.ref (cw_a (cr_w K) 0)] (cw_st J_28 10 x1.toNatClampNeg v_28) none J_49 ∧ (r = some (.int 1) ∧ J0 = J_49))) ∧ (((cw_st J_28 10 x1.toNatClampNeg v_28) 10 x1.toNatClampNeg) = (-1) → (∃ (v_44 : Int32) (J_44 : cw_M), cw_C (cr_w K) mX11_wrong [.ref (cw_a (cr_w K) 0), .int 3] (cw_st J_28 10 x1.toNatClampNeg v_28) (some (.int v_44)) J_44 ∧ ((v_44 = 0 ∨ v_44 = 1) ∧ (r = some (.int v_44) ∧ J0 = J_44))))))))) ∧ (v_1 = 0 → (r = some (.int 0) ∧ J0 = J_1))))) : cw_C (cr_w K) mX11_parseSibling [.ref (cw_a (cr_w K) 0), .int x1] I r J0 := by
  refine cw_entry okX11_parseSibling (Nat.le_of_ble_eq_true rfl) (show cw_B (cr_w K) mX11_parseSibling (cw_Z (cr_w K) r J0) 0 0 I 0 [(0, .ref (cw_a (cr_w K) 0)), (1, .int x1)] [] from ?_)
  refine cw_aload_n dX11_parseSibling_0 0 rfl rfl ?_
  obtain ⟨v_1, J_1, hc_1, h⟩ := h
  refine cw_callV (o := 0) (As := []) hc_1 okX11_isShortWord rfl gX11_parseSibling_X11_isShortWord (by decide) (show 0 < 11 by decide) rfl (ci := 9) rfl rfl (Nat.le_of_ble_eq_true rfl) dX11_parseSibling_1 ?_
  refine cw_if_ne (tgt := 9) dX11_parseSibling_4 (by decide) (fun q => ?_) (fun q => ?_)
  · have h := h.1 q
    refine cw_aload_n dX11_parseSibling_9 0 rfl rfl ?_
    refine cw_getf (C := RX11) (T := TX11) (N := 20) (ci := 9) inX11_parseSibling_RX11 0 (show 0 < 11 by decide) rfl rfl 19 (by decide) (by decide +kernel) rfl dX11_parseSibling_10 ?_
    refine cw_iload_n dX11_parseSibling_13 1 rfl rfl ?_
    refine cw_aload_n dX11_parseSibling_14 0 rfl rfl ?_
    refine cw_aload_n dX11_parseSibling_15 0 rfl rfl ?_
    refine cw_getf (C := RX11) (T := TX11) (N := 20) (ci := 9) inX11_parseSibling_RX11 0 (show 0 < 11 by decide) rfl rfl 17 (by decide) (by decide +kernel) rfl dX11_parseSibling_16 ?_
    refine cw_aload_n dX11_parseSibling_19 0 rfl rfl ?_
    refine cw_getf (C := RX11) (T := TX11) (N := 20) (ci := 9) inX11_parseSibling_RX11 0 (show 0 < 11 by decide) rfl rfl 15 (by decide) (by decide +kernel) rfl dX11_parseSibling_20 ?_
    refine cw_aload_n dX11_parseSibling_23 0 rfl rfl ?_
    refine cw_getf (C := RX11) (T := TX11) (N := 20) (ci := 9) inX11_parseSibling_RX11 0 (show 0 < 11 by decide) rfl rfl 17 (by decide) (by decide +kernel) rfl dX11_parseSibling_24 ?_
    refine cw_isub dX11_parseSibling_27 ?_
    obtain ⟨v_28, J_28, hc_28, h⟩ := h
    refine cw_callV (o := 0) (As := [.int (J_1 0 17), .int ((J_1 0 15) - (J_1 0 17))]) hc_28 okX11_siblingNamed rfl gX11_parseSibling_X11_siblingNamed (by decide) (show 0 < 11 by decide) rfl (ci := 9) rfl rfl (Nat.le_of_ble_eq_true rfl) dX11_parseSibling_28 ?_
    obtain ⟨g_31, h⟩ := h
    refine cw_iast 10 (show 10 < 11 by decide) (fun _ => rfl) 0 rfl dX11_parseSibling_31 g_31 ?_
    refine cw_aload_n dX11_parseSibling_32 0 rfl rfl ?_
    refine cw_getf (C := RX11) (T := TX11) (N := 20) (ci := 9) inX11_parseSibling_RX11 0 (show 0 < 11 by decide) rfl rfl 19 (by decide) (by decide +kernel) rfl dX11_parseSibling_33 ?_
    refine cw_iload_n dX11_parseSibling_36 1 rfl rfl ?_
    obtain ⟨g_37, h⟩ := h
    refine cw_iald 10 (show 10 < 11 by decide) rfl 0 rfl dX11_parseSibling_37 g_37 ?_
    refine cw_iconst (v := (-1)) dX11_parseSibling_38 (by decide) ?_
    refine cw_icmp_ne (tgt := 48) dX11_parseSibling_39 (by decide) (fun q => ?_) (fun q => ?_)
    · have h := h.1 q
      refine cw_aload_n dX11_parseSibling_48 0 rfl rfl ?_
      obtain ⟨J_49, hc_49, h⟩ := h
      refine cw_callV (o := 0) (As := []) hc_49 okX11_token rfl gX11_parseSibling_X11_token (by decide) (show 0 < 11 by decide) rfl (ci := 9) rfl rfl (Nat.le_of_ble_eq_true rfl) dX11_parseSibling_49 ?_
      refine cw_iconst (v := 1) dX11_parseSibling_52 (by decide) ?_
      exact cw_bret rfl dX11_parseSibling_53 (by decide) h
    · have h := h.2 q
      refine cw_aload_n dX11_parseSibling_42 0 rfl rfl ?_
      refine cw_iconst (v := 3) dX11_parseSibling_43 (by decide) ?_
      obtain ⟨v_44, J_44, hc_44, h⟩ := h
      refine cw_callV (o := 0) (As := [.int 3]) hc_44 okX11_wrong rfl gX11_parseSibling_X11_wrong (by decide) (show 0 < 11 by decide) rfl (ci := 9) rfl rfl (Nat.le_of_ble_eq_true rfl) dX11_parseSibling_44 ?_
      exact cw_bret rfl dX11_parseSibling_47 h.1 h.2
  · have h := h.2 q
    refine cw_iconst (v := 0) dX11_parseSibling_7 (by decide) ?_
    exact cw_bret rfl dX11_parseSibling_8 (by decide) h
set_option maxRecDepth 20000 in
set_option maxHeartbeats 4000000 in
theorem eX11_pieceCount_0 {K : cw_K} {r : Option Value} {J0 I : cw_M} {x1 : Int32} (h : (∃ (v_3 : Int32) (J_3 : cw_M), cw_C (cr_w K) mX11_isSibling [.ref (cw_a (cr_w K) 0), .int x1] I (some (.int v_3)) J_3 ∧ ((¬ v_3 = 0 → (∃ (v_16 : Int32) (J_16 : cw_M), cw_C (cr_w K) mX11_fails [.ref (cw_a (cr_w K) 0), .int 0, .int 0, .int 0] J_3 (some (.int v_16)) J_16 ∧ ((v_16 = 0 → (∃ (v_26 : Int32) (J_26 : cw_M), cw_C (cr_w K) mX11_pieces [.ref (cw_a (cr_w K) 0), .int x1] J_16 (some (.int v_26)) J_26 ∧ (r = some (.int v_26) ∧ J0 = J_26))) ∧ (¬ v_16 = 0 → (r = some (.int 0) ∧ J0 = J_16))))) ∧ (v_3 = 0 → (∃ (v_16 : Int32) (J_16 : cw_M), cw_C (cr_w K) mX11_fails [.ref (cw_a (cr_w K) 0), .int 1, .int 0, .int 0] J_3 (some (.int v_16)) J_16 ∧ ((v_16 = 0 → (∃ (v_26 : Int32) (J_26 : cw_M), cw_C (cr_w K) mX11_pieces [.ref (cw_a (cr_w K) 0), .int x1] J_16 (some (.int v_26)) J_26 ∧ (r = some (.int v_26) ∧ J0 = J_26))) ∧ (¬ v_16 = 0 → (r = some (.int 0) ∧ J0 = J_16)))))))) : cw_C (cr_w K) mX11_pieceCount [.ref (cw_a (cr_w K) 0), .int x1] I r J0 := by
  refine cw_entry okX11_pieceCount (Nat.le_of_ble_eq_true rfl) (show cw_B (cr_w K) mX11_pieceCount (cw_Z (cr_w K) r J0) 0 0 I 0 [(0, .ref (cw_a (cr_w K) 0)), (1, .int x1)] [] from ?_)
  refine cw_aload_n dX11_pieceCount_0 0 rfl rfl ?_
  refine cw_aload_n dX11_pieceCount_1 0 rfl rfl ?_
  refine cw_iload_n dX11_pieceCount_2 1 rfl rfl ?_
  obtain ⟨v_3, J_3, hc_3, h⟩ := h
  refine cw_callV (o := 0) (As := [.int x1]) hc_3 okX11_isSibling rfl gX11_pieceCount_X11_isSibling (by decide) (show 0 < 11 by decide) rfl (ci := 9) rfl rfl (Nat.le_of_ble_eq_true rfl) dX11_pieceCount_3 ?_
  refine cw_if_ne (tgt := 13) dX11_pieceCount_6 (by decide) (fun q => ?_) (fun q => ?_)
  · have h := h.1 q
    refine cw_iconst (v := 0) dX11_pieceCount_13 (by decide) ?_
    refine cw_iconst (v := 0) dX11_pieceCount_14 (by decide) ?_
    refine cw_iconst (v := 0) dX11_pieceCount_15 (by decide) ?_
    obtain ⟨v_16, J_16, hc_16, h⟩ := h
    refine cw_callV (o := 0) (As := [.int 0, .int 0, .int 0]) hc_16 okX11_fails rfl gX11_pieceCount_X11_fails (by decide) (show 0 < 11 by decide) rfl (ci := 9) rfl rfl (Nat.le_of_ble_eq_true rfl) dX11_pieceCount_16 ?_
    refine cw_if_eq (tgt := 24) dX11_pieceCount_19 (by decide) (fun q => ?_) (fun q => ?_)
    · have h := h.1 q
      refine cw_aload_n dX11_pieceCount_24 0 rfl rfl ?_
      refine cw_iload_n dX11_pieceCount_25 1 rfl rfl ?_
      obtain ⟨v_26, J_26, hc_26, h⟩ := h
      refine cw_callV (o := 0) (As := [.int x1]) hc_26 okX11_pieces rfl gX11_pieceCount_X11_pieces (by decide) (show 0 < 11 by decide) rfl (ci := 9) rfl rfl (Nat.le_of_ble_eq_true rfl) dX11_pieceCount_26 ?_
      exact cw_iret rfl dX11_pieceCount_29 h
    · have h := h.2 q
      refine cw_iconst (v := 0) dX11_pieceCount_22 (by decide) ?_
      exact cw_iret rfl dX11_pieceCount_23 h
  · have h := h.2 q
    refine cw_iconst (v := 1) dX11_pieceCount_9 (by decide) ?_
    refine cw_goto (tgt := 14) dX11_pieceCount_10 (by decide) ?_
    refine cw_iconst (v := 0) dX11_pieceCount_14 (by decide) ?_
    refine cw_iconst (v := 0) dX11_pieceCount_15 (by decide) ?_
    obtain ⟨v_16, J_16, hc_16, h⟩ := h
    refine cw_callV (o := 0) (As := [.int 1, .int 0, .int 0]) hc_16 okX11_fails rfl gX11_pieceCount_X11_fails (by decide) (show 0 < 11 by decide) rfl (ci := 9) rfl rfl (Nat.le_of_ble_eq_true rfl) dX11_pieceCount_16 ?_
    refine cw_if_eq (tgt := 24) dX11_pieceCount_19 (by decide) (fun q => ?_) (fun q => ?_)
    · have h := h.1 q
      refine cw_aload_n dX11_pieceCount_24 0 rfl rfl ?_
      refine cw_iload_n dX11_pieceCount_25 1 rfl rfl ?_
      obtain ⟨v_26, J_26, hc_26, h⟩ := h
      refine cw_callV (o := 0) (As := [.int x1]) hc_26 okX11_pieces rfl gX11_pieceCount_X11_pieces (by decide) (show 0 < 11 by decide) rfl (ci := 9) rfl rfl (Nat.le_of_ble_eq_true rfl) dX11_pieceCount_26 ?_
      exact cw_iret rfl dX11_pieceCount_29 h
    · have h := h.2 q
      refine cw_iconst (v := 0) dX11_pieceCount_22 (by decide) ?_
      exact cw_iret rfl dX11_pieceCount_23 h
abbrev bX11_pieces_0_4 (K : cw_K) (r : Option Value) (J0 : cw_M) (x1 : Int32) (x2 : Int32) (x3 : Int32) (I : cw_M) : Prop := cw_B (cr_w K) mX11_pieces (cw_Z (cr_w K) r J0) 0 0 I 4 [(0, .ref (cw_a (cr_w K) 0)), (1, .int x1), (2, .int x2), (3, .int x3)] []
set_option maxRecDepth 20000 in
set_option maxHeartbeats 4000000 in
theorem eX11_pieces_0 {K : cw_K} {r : Option Value} {J0 I : cw_M} {x1 : Int32} (h : bX11_pieces_0_4 K r J0 x1 0 0 I) : cw_C (cr_w K) mX11_pieces [.ref (cw_a (cr_w K) 0), .int x1] I r J0 := by
  refine cw_entry okX11_pieces (Nat.le_of_ble_eq_true rfl) (show cw_B (cr_w K) mX11_pieces (cw_Z (cr_w K) r J0) 0 0 I 0 [(0, .ref (cw_a (cr_w K) 0)), (1, .int x1)] [] from ?_)
  refine cw_iconst (v := 0) dX11_pieces_0 (by decide) ?_
  refine cw_istore_n dX11_pieces_1 rfl (by decide) rfl ?_
  refine cw_iconst (v := 0) dX11_pieces_2 (by decide) ?_
  refine cw_istore_n dX11_pieces_3 rfl (by decide) rfl ?_
  refine cw_sub [2, 3, 1, 0] rfl ?_
  exact h
set_option maxRecDepth 20000 in
set_option maxHeartbeats 4000000 in
theorem tbX11_pieces_0_4 {K : cw_K} {r : Option Value} {J0 I : cw_M} {x1 : Int32} {x2 : Int32} {x3 : Int32} (h : (((I 1 0) ≤ x3 → (r = some (.int x2) ∧ J0 = I)) ∧ (¬ (I 1 0) ≤ x3 → (∃ (v_17 : Int32) (J_17 : cw_M), cw_C (cr_w K) mX11_ownerOf [.ref (cw_a (cr_w K) 0), .int x3] I (some (.int v_17)) J_17 ∧ ((¬ v_17 = x1 → bX11_pieces_0_4 K r J0 x1 (x2 + 0) (x3 + 1) J_17) ∧ (v_17 = x1 → ((x3 = 0 → bX11_pieces_0_4 K r J0 x1 (x2 + 1) (x3 + 1) J_17) ∧ (¬ x3 = 0 → (∃ (v_32 : Int32) (J_32 : cw_M), cw_C (cr_w K) mX11_ownerOf [.ref (cw_a (cr_w K) 0), .int (x3 - 1)] J_17 (some (.int v_32)) J_32 ∧ ((v_32 = x1 → bX11_pieces_0_4 K r J0 x1 (x2 + 0) (x3 + 1) J_32) ∧ (¬ v_32 = x1 → bX11_pieces_0_4 K r J0 x1 (x2 + 1) (x3 + 1) J_32))))))))))) : bX11_pieces_0_4 K r J0 x1 x2 x3 I := by
  refine cw_iload_n dX11_pieces_4 3 rfl rfl ?_
  refine cw_aload_n dX11_pieces_5 0 rfl rfl ?_
  refine cw_getf (C := RX11) (T := TX11) (N := 20) (ci := 9) inX11_pieces_RX11 0 (show 0 < 11 by decide) rfl rfl 0 (by decide) (by decide +kernel) rfl dX11_pieces_6 ?_
  refine cw_iconst (v := 0) dX11_pieces_9 (by decide) ?_
  refine cw_ialdL (j := 0) 1 (show 1 < 11 by decide) rfl 0 rfl dX11_pieces_10 rfl (by decide) (by decide) ?_
  refine cw_icmp_ge (tgt := 52) dX11_pieces_11 (by decide) (fun q => ?_) (fun q => ?_)
  · have h := h.1 q
    refine cw_iload_n dX11_pieces_52 2 rfl rfl ?_
    exact cw_iret rfl dX11_pieces_53 h
  · have h := h.2 q
    refine cw_iload_n dX11_pieces_14 2 rfl rfl ?_
    refine cw_aload_n dX11_pieces_15 0 rfl rfl ?_
    refine cw_iload_n dX11_pieces_16 3 rfl rfl ?_
    obtain ⟨v_17, J_17, hc_17, h⟩ := h
    refine cw_callV (o := 0) (As := [.int x3]) hc_17 okX11_ownerOf rfl gX11_pieces_X11_ownerOf (by decide) (show 0 < 11 by decide) rfl (ci := 9) rfl rfl (Nat.le_of_ble_eq_true rfl) dX11_pieces_17 ?_
    refine cw_iload_n dX11_pieces_20 1 rfl rfl ?_
    refine cw_icmp_ne (tgt := 43) dX11_pieces_21 (by decide) (fun q => ?_) (fun q => ?_)
    · have h := h.1 q
      refine cw_iconst (v := 0) dX11_pieces_43 (by decide) ?_
      refine cw_iadd dX11_pieces_44 ?_
      refine cw_istore_n dX11_pieces_45 rfl (by decide) rfl ?_
      refine cw_iinc (v := x3 + 1) dX11_pieces_46 (j := 3) rfl rfl (by decide) rfl ?_
      refine cw_goto (tgt := 4) dX11_pieces_49 (by decide) ?_
      refine cw_sub [2, 3, 1, 0] rfl ?_
      exact h
    · have h := h.2 q
      refine cw_iload_n dX11_pieces_24 3 rfl rfl ?_
      refine cw_if_eq (tgt := 39) dX11_pieces_25 (by decide) (fun q => ?_) (fun q => ?_)
      · have h := h.1 q
        refine cw_iconst (v := 1) dX11_pieces_39 (by decide) ?_
        refine cw_goto (tgt := 44) dX11_pieces_40 (by decide) ?_
        refine cw_iadd dX11_pieces_44 ?_
        refine cw_istore_n dX11_pieces_45 rfl (by decide) rfl ?_
        refine cw_iinc (v := x3 + 1) dX11_pieces_46 (j := 3) rfl rfl (by decide) rfl ?_
        refine cw_goto (tgt := 4) dX11_pieces_49 (by decide) ?_
        refine cw_sub [2, 3, 1, 0] rfl ?_
        exact h
      · have h := h.2 q
        refine cw_aload_n dX11_pieces_28 0 rfl rfl ?_
        refine cw_iload_n dX11_pieces_29 3 rfl rfl ?_
        refine cw_iconst (v := 1) dX11_pieces_30 (by decide) ?_
        refine cw_isub dX11_pieces_31 ?_
        obtain ⟨v_32, J_32, hc_32, h⟩ := h
        refine cw_callV (o := 0) (As := [.int (x3 - 1)]) hc_32 okX11_ownerOf rfl gX11_pieces_X11_ownerOf (by decide) (show 0 < 11 by decide) rfl (ci := 9) rfl rfl (Nat.le_of_ble_eq_true rfl) dX11_pieces_32 ?_
        refine cw_iload_n dX11_pieces_35 1 rfl rfl ?_
        refine cw_icmp_eq (tgt := 43) dX11_pieces_36 (by decide) (fun q => ?_) (fun q => ?_)
        · have h := h.1 q
          refine cw_iconst (v := 0) dX11_pieces_43 (by decide) ?_
          refine cw_iadd dX11_pieces_44 ?_
          refine cw_istore_n dX11_pieces_45 rfl (by decide) rfl ?_
          refine cw_iinc (v := x3 + 1) dX11_pieces_46 (j := 3) rfl rfl (by decide) rfl ?_
          refine cw_goto (tgt := 4) dX11_pieces_49 (by decide) ?_
          refine cw_sub [2, 3, 1, 0] rfl ?_
          exact h
        · have h := h.2 q
          refine cw_iconst (v := 1) dX11_pieces_39 (by decide) ?_
          refine cw_goto (tgt := 44) dX11_pieces_40 (by decide) ?_
          refine cw_iadd dX11_pieces_44 ?_
          refine cw_istore_n dX11_pieces_45 rfl (by decide) rfl ?_
          refine cw_iinc (v := x3 + 1) dX11_pieces_46 (j := 3) rfl rfl (by decide) rfl ?_
          refine cw_goto (tgt := 4) dX11_pieces_49 (by decide) ?_
          refine cw_sub [2, 3, 1, 0] rfl ?_
          exact h
set_option maxRecDepth 20000 in
set_option maxHeartbeats 4000000 in
theorem eX11_plain_0 {K : cw_K} {r : Option Value} {J0 I : cw_M} {x1 : Int32} (h : (r = some (.int x1) ∧ J0 = cw_st I 0 9 0)) : cw_C (cr_w K) mX11_plain [.ref (cw_a (cr_w K) 0), .int x1] I r J0 := by
  refine cw_entry okX11_plain (Nat.le_of_ble_eq_true rfl) (show cw_B (cr_w K) mX11_plain (cw_Z (cr_w K) r J0) 0 0 I 0 [(0, .ref (cw_a (cr_w K) 0)), (1, .int x1)] [] from ?_)
  refine cw_aload_n dX11_plain_0 0 rfl rfl ?_
  refine cw_iconst (v := 0) dX11_plain_1 (by decide) ?_
  refine cw_putf (C := RX11) (T := TX11) (N := 20) (ci := 9) inX11_plain_RX11 tyX11 tyX11_ok nmX11 0 (show 0 < 11 by decide) rfl rfl 9 (by decide) (by decide +kernel) rfl rfl (show 9 < 20 by decide) rfl dX11_plain_2 ?_
  refine cw_iload_n dX11_plain_5 1 rfl rfl ?_
  exact cw_iret rfl dX11_plain_6 h
set_option maxRecDepth 20000 in
set_option maxHeartbeats 4000000 in
theorem eX11_put_0 {K : cw_K} {r : Option Value} {J0 I : cw_M} {x1 : Int32} (h : (vp_in (I 0 8) 240 ∧ (r = none ∧ J0 = cw_st (cw_st I 4 (I 0 8).toNatClampNeg x1) 0 8 (((cw_st I 4 (I 0 8).toNatClampNeg x1) 0 8) + 1)))) : cw_C (cr_w K) mX11_put [.ref (cw_a (cr_w K) 0), .int x1] I r J0 := by
  refine cw_entry okX11_put (Nat.le_of_ble_eq_true rfl) (show cw_B (cr_w K) mX11_put (cw_Z (cr_w K) r J0) 0 0 I 0 [(0, .ref (cw_a (cr_w K) 0)), (1, .int x1)] [] from ?_)
  refine cw_aload_n dX11_put_0 0 rfl rfl ?_
  refine cw_getf (C := RX11) (T := TX11) (N := 20) (ci := 9) inX11_put_RX11 0 (show 0 < 11 by decide) rfl rfl 7 (by decide) (by decide +kernel) rfl dX11_put_1 ?_
  refine cw_aload_n dX11_put_4 0 rfl rfl ?_
  refine cw_getf (C := RX11) (T := TX11) (N := 20) (ci := 9) inX11_put_RX11 0 (show 0 < 11 by decide) rfl rfl 8 (by decide) (by decide +kernel) rfl dX11_put_5 ?_
  refine cw_iload_n dX11_put_8 1 rfl rfl ?_
  obtain ⟨g_9, h⟩ := h
  refine cw_iast 4 (show 4 < 11 by decide) (fun _ => rfl) 0 rfl dX11_put_9 g_9 ?_
  refine cw_aload_n dX11_put_10 0 rfl rfl ?_
  refine cw_dup dX11_put_11 rfl ?_
  refine cw_getf (C := RX11) (T := TX11) (N := 20) (ci := 9) inX11_put_RX11 0 (show 0 < 11 by decide) rfl rfl 8 (by decide) (by decide +kernel) rfl dX11_put_12 ?_
  refine cw_iconst (v := 1) dX11_put_15 (by decide) ?_
  refine cw_iadd dX11_put_16 ?_
  refine cw_putf (C := RX11) (T := TX11) (N := 20) (ci := 9) inX11_put_RX11 tyX11 tyX11_ok nmX11 0 (show 0 < 11 by decide) rfl rfl 8 (by decide) (by decide +kernel) rfl rfl (show 8 < 20 by decide) rfl dX11_put_17 ?_
  exact cw_vret rfl dX11_put_20 h
abbrev bX11_putRun_0_64 (K : cw_K) (r : Option Value) (J0 : cw_M) (x3 : Int32) (x4 : Int32) (I : cw_M) : Prop := cw_B (cr_w K) mX11_putRun (cw_Z (cr_w K) r J0) 0 0 I 64 [(0, .ref (cw_a (cr_w K) 0)), (3, .int x3), (4, .int x4)] []
set_option maxRecDepth 20000 in
set_option maxHeartbeats 4000000 in
theorem eX11_putRun_0 {K : cw_K} {r : Option Value} {J0 I : cw_M} {x1 : Int32} {x2 : Int32} (h : (((I 0 8) ≤ 0 → ((x1 < 10 → (¬ (10 : Int32) = 0 ∧ (∃ J_38 : cw_M, cw_C (cr_w K) mX11_put [.ref (cw_a (cr_w K) 0), .int (48 + (x1 - x1 / 10 * 10))] I none J_38 ∧ ((¬ x2 = (-1) → bX11_putRun_0_64 K r J0 (26 + (x2 * 31)) 0 J_38) ∧ (x2 = (-1) → (∃ J_49 : cw_M, cw_C (cr_w K) mX11_put [.ref (cw_a (cr_w K) 0), .int 45] J_38 none J_49 ∧ (r = none ∧ J0 = J_49))))))) ∧ (¬ x1 < 10 → (¬ (10 : Int32) = 0 ∧ (∃ J_27 : cw_M, cw_C (cr_w K) mX11_put [.ref (cw_a (cr_w K) 0), .int (48 + (x1 / 10))] I none J_27 ∧ (¬ (10 : Int32) = 0 ∧ (∃ J_38 : cw_M, cw_C (cr_w K) mX11_put [.ref (cw_a (cr_w K) 0), .int (48 + (x1 - x1 / 10 * 10))] J_27 none J_38 ∧ ((¬ x2 = (-1) → bX11_putRun_0_64 K r J0 (26 + (x2 * 31)) 0 J_38) ∧ (x2 = (-1) → (∃ J_49 : cw_M, cw_C (cr_w K) mX11_put [.ref (cw_a (cr_w K) 0), .int 45] J_38 none J_49 ∧ (r = none ∧ J0 = J_49))))))))))) ∧ (¬ (I 0 8) ≤ 0 → (∃ J_10 : cw_M, cw_C (cr_w K) mX11_put [.ref (cw_a (cr_w K) 0), .int 32] I none J_10 ∧ ((x1 < 10 → (¬ (10 : Int32) = 0 ∧ (∃ J_38 : cw_M, cw_C (cr_w K) mX11_put [.ref (cw_a (cr_w K) 0), .int (48 + (x1 - x1 / 10 * 10))] J_10 none J_38 ∧ ((¬ x2 = (-1) → bX11_putRun_0_64 K r J0 (26 + (x2 * 31)) 0 J_38) ∧ (x2 = (-1) → (∃ J_49 : cw_M, cw_C (cr_w K) mX11_put [.ref (cw_a (cr_w K) 0), .int 45] J_38 none J_49 ∧ (r = none ∧ J0 = J_49))))))) ∧ (¬ x1 < 10 → (¬ (10 : Int32) = 0 ∧ (∃ J_27 : cw_M, cw_C (cr_w K) mX11_put [.ref (cw_a (cr_w K) 0), .int (48 + (x1 / 10))] J_10 none J_27 ∧ (¬ (10 : Int32) = 0 ∧ (∃ J_38 : cw_M, cw_C (cr_w K) mX11_put [.ref (cw_a (cr_w K) 0), .int (48 + (x1 - x1 / 10 * 10))] J_27 none J_38 ∧ ((¬ x2 = (-1) → bX11_putRun_0_64 K r J0 (26 + (x2 * 31)) 0 J_38) ∧ (x2 = (-1) → (∃ J_49 : cw_M, cw_C (cr_w K) mX11_put [.ref (cw_a (cr_w K) 0), .int 45] J_38 none J_49 ∧ (r = none ∧ J0 = J_49)))))))))))))) : cw_C (cr_w K) mX11_putRun [.ref (cw_a (cr_w K) 0), .int x1, .int x2] I r J0 := by
  refine cw_entry okX11_putRun (Nat.le_of_ble_eq_true rfl) (show cw_B (cr_w K) mX11_putRun (cw_Z (cr_w K) r J0) 0 0 I 0 [(0, .ref (cw_a (cr_w K) 0)), (1, .int x1), (2, .int x2)] [] from ?_)
  refine cw_aload_n dX11_putRun_0 0 rfl rfl ?_
  refine cw_getf (C := RX11) (T := TX11) (N := 20) (ci := 9) inX11_putRun_RX11 0 (show 0 < 11 by decide) rfl rfl 8 (by decide) (by decide +kernel) rfl dX11_putRun_1 ?_
  refine cw_if_le (tgt := 13) dX11_putRun_4 (by decide) (fun q => ?_) (fun q => ?_)
  · have h := h.1 q
    refine cw_iload_n dX11_putRun_13 1 rfl rfl ?_
    refine cw_bipush (v := 10) dX11_putRun_14 (by decide) ?_
    refine cw_icmp_lt (tgt := 30) dX11_putRun_16 (by decide) (fun q => ?_) (fun q => ?_)
    · have h := h.1 q
      refine cw_aload_n dX11_putRun_30 0 rfl rfl ?_
      refine cw_bipush (v := 48) dX11_putRun_31 (by decide) ?_
      refine cw_iload_n dX11_putRun_33 1 rfl rfl ?_
      refine cw_bipush (v := 10) dX11_putRun_34 (by decide) ?_
      obtain ⟨g0_36, h⟩ := h
      refine cw_irem dX11_putRun_36 g0_36 ?_
      refine cw_iadd dX11_putRun_37 ?_
      obtain ⟨J_38, hc_38, h⟩ := h
      refine cw_callV (o := 0) (As := [.int (48 + (x1 - x1 / 10 * 10))]) hc_38 okX11_put rfl gX11_putRun_X11_put (by decide) (show 0 < 11 by decide) rfl (ci := 9) rfl rfl (Nat.le_of_ble_eq_true rfl) dX11_putRun_38 ?_
      refine cw_iload_n dX11_putRun_41 2 rfl rfl ?_
      refine cw_iconst (v := (-1)) dX11_putRun_42 (by decide) ?_
      refine cw_icmp_ne (tgt := 53) dX11_putRun_43 (by decide) (fun q => ?_) (fun q => ?_)
      · have h := h.1 q
        refine cw_bipush (v := 26) dX11_putRun_53 (by decide) ?_
        refine cw_iload_n dX11_putRun_55 2 rfl rfl ?_
        refine cw_bipush (v := 31) dX11_putRun_56 (by decide) ?_
        refine cw_imul dX11_putRun_58 ?_
        refine cw_iadd dX11_putRun_59 ?_
        refine cw_istore_n dX11_putRun_60 rfl (by decide) rfl ?_
        refine cw_iconst (v := 0) dX11_putRun_61 (by decide) ?_
        refine cw_istore dX11_putRun_62 (by decide) rfl ?_
        refine cw_sub [2, 1, 0] rfl ?_
        exact h
      · have h := h.2 q
        refine cw_aload_n dX11_putRun_46 0 rfl rfl ?_
        refine cw_bipush (v := 45) dX11_putRun_47 (by decide) ?_
        obtain ⟨J_49, hc_49, h⟩ := h
        refine cw_callV (o := 0) (As := [.int 45]) hc_49 okX11_put rfl gX11_putRun_X11_put (by decide) (show 0 < 11 by decide) rfl (ci := 9) rfl rfl (Nat.le_of_ble_eq_true rfl) dX11_putRun_49 ?_
        exact cw_vret rfl dX11_putRun_52 h
    · have h := h.2 q
      refine cw_aload_n dX11_putRun_19 0 rfl rfl ?_
      refine cw_bipush (v := 48) dX11_putRun_20 (by decide) ?_
      refine cw_iload_n dX11_putRun_22 1 rfl rfl ?_
      refine cw_bipush (v := 10) dX11_putRun_23 (by decide) ?_
      obtain ⟨g0_25, h⟩ := h
      refine cw_idiv dX11_putRun_25 g0_25 ?_
      refine cw_iadd dX11_putRun_26 ?_
      obtain ⟨J_27, hc_27, h⟩ := h
      refine cw_callV (o := 0) (As := [.int (48 + (x1 / 10))]) hc_27 okX11_put rfl gX11_putRun_X11_put (by decide) (show 0 < 11 by decide) rfl (ci := 9) rfl rfl (Nat.le_of_ble_eq_true rfl) dX11_putRun_27 ?_
      refine cw_aload_n dX11_putRun_30 0 rfl rfl ?_
      refine cw_bipush (v := 48) dX11_putRun_31 (by decide) ?_
      refine cw_iload_n dX11_putRun_33 1 rfl rfl ?_
      refine cw_bipush (v := 10) dX11_putRun_34 (by decide) ?_
      obtain ⟨g0_36, h⟩ := h
      refine cw_irem dX11_putRun_36 g0_36 ?_
      refine cw_iadd dX11_putRun_37 ?_
      obtain ⟨J_38, hc_38, h⟩ := h
      refine cw_callV (o := 0) (As := [.int (48 + (x1 - x1 / 10 * 10))]) hc_38 okX11_put rfl gX11_putRun_X11_put (by decide) (show 0 < 11 by decide) rfl (ci := 9) rfl rfl (Nat.le_of_ble_eq_true rfl) dX11_putRun_38 ?_
      refine cw_iload_n dX11_putRun_41 2 rfl rfl ?_
      refine cw_iconst (v := (-1)) dX11_putRun_42 (by decide) ?_
      refine cw_icmp_ne (tgt := 53) dX11_putRun_43 (by decide) (fun q => ?_) (fun q => ?_)
      · have h := h.1 q
        refine cw_bipush (v := 26) dX11_putRun_53 (by decide) ?_
        refine cw_iload_n dX11_putRun_55 2 rfl rfl ?_
        refine cw_bipush (v := 31) dX11_putRun_56 (by decide) ?_
        refine cw_imul dX11_putRun_58 ?_
        refine cw_iadd dX11_putRun_59 ?_
        refine cw_istore_n dX11_putRun_60 rfl (by decide) rfl ?_
        refine cw_iconst (v := 0) dX11_putRun_61 (by decide) ?_
        refine cw_istore dX11_putRun_62 (by decide) rfl ?_
        refine cw_sub [2, 1, 0] rfl ?_
        exact h
      · have h := h.2 q
        refine cw_aload_n dX11_putRun_46 0 rfl rfl ?_
        refine cw_bipush (v := 45) dX11_putRun_47 (by decide) ?_
        obtain ⟨J_49, hc_49, h⟩ := h
        refine cw_callV (o := 0) (As := [.int 45]) hc_49 okX11_put rfl gX11_putRun_X11_put (by decide) (show 0 < 11 by decide) rfl (ci := 9) rfl rfl (Nat.le_of_ble_eq_true rfl) dX11_putRun_49 ?_
        exact cw_vret rfl dX11_putRun_52 h
  · have h := h.2 q
    refine cw_aload_n dX11_putRun_7 0 rfl rfl ?_
    refine cw_bipush (v := 32) dX11_putRun_8 (by decide) ?_
    obtain ⟨J_10, hc_10, h⟩ := h
    refine cw_callV (o := 0) (As := [.int 32]) hc_10 okX11_put rfl gX11_putRun_X11_put (by decide) (show 0 < 11 by decide) rfl (ci := 9) rfl rfl (Nat.le_of_ble_eq_true rfl) dX11_putRun_10 ?_
    refine cw_iload_n dX11_putRun_13 1 rfl rfl ?_
    refine cw_bipush (v := 10) dX11_putRun_14 (by decide) ?_
    refine cw_icmp_lt (tgt := 30) dX11_putRun_16 (by decide) (fun q => ?_) (fun q => ?_)
    · have h := h.1 q
      refine cw_aload_n dX11_putRun_30 0 rfl rfl ?_
      refine cw_bipush (v := 48) dX11_putRun_31 (by decide) ?_
      refine cw_iload_n dX11_putRun_33 1 rfl rfl ?_
      refine cw_bipush (v := 10) dX11_putRun_34 (by decide) ?_
      obtain ⟨g0_36, h⟩ := h
      refine cw_irem dX11_putRun_36 g0_36 ?_
      refine cw_iadd dX11_putRun_37 ?_
      obtain ⟨J_38, hc_38, h⟩ := h
      refine cw_callV (o := 0) (As := [.int (48 + (x1 - x1 / 10 * 10))]) hc_38 okX11_put rfl gX11_putRun_X11_put (by decide) (show 0 < 11 by decide) rfl (ci := 9) rfl rfl (Nat.le_of_ble_eq_true rfl) dX11_putRun_38 ?_
      refine cw_iload_n dX11_putRun_41 2 rfl rfl ?_
      refine cw_iconst (v := (-1)) dX11_putRun_42 (by decide) ?_
      refine cw_icmp_ne (tgt := 53) dX11_putRun_43 (by decide) (fun q => ?_) (fun q => ?_)
      · have h := h.1 q
        refine cw_bipush (v := 26) dX11_putRun_53 (by decide) ?_
        refine cw_iload_n dX11_putRun_55 2 rfl rfl ?_
        refine cw_bipush (v := 31) dX11_putRun_56 (by decide) ?_
        refine cw_imul dX11_putRun_58 ?_
        refine cw_iadd dX11_putRun_59 ?_
        refine cw_istore_n dX11_putRun_60 rfl (by decide) rfl ?_
        refine cw_iconst (v := 0) dX11_putRun_61 (by decide) ?_
        refine cw_istore dX11_putRun_62 (by decide) rfl ?_
        refine cw_sub [2, 1, 0] rfl ?_
        exact h
      · have h := h.2 q
        refine cw_aload_n dX11_putRun_46 0 rfl rfl ?_
        refine cw_bipush (v := 45) dX11_putRun_47 (by decide) ?_
        obtain ⟨J_49, hc_49, h⟩ := h
        refine cw_callV (o := 0) (As := [.int 45]) hc_49 okX11_put rfl gX11_putRun_X11_put (by decide) (show 0 < 11 by decide) rfl (ci := 9) rfl rfl (Nat.le_of_ble_eq_true rfl) dX11_putRun_49 ?_
        exact cw_vret rfl dX11_putRun_52 h
    · have h := h.2 q
      refine cw_aload_n dX11_putRun_19 0 rfl rfl ?_
      refine cw_bipush (v := 48) dX11_putRun_20 (by decide) ?_
      refine cw_iload_n dX11_putRun_22 1 rfl rfl ?_
      refine cw_bipush (v := 10) dX11_putRun_23 (by decide) ?_
      obtain ⟨g0_25, h⟩ := h
      refine cw_idiv dX11_putRun_25 g0_25 ?_
      refine cw_iadd dX11_putRun_26 ?_
      obtain ⟨J_27, hc_27, h⟩ := h
      refine cw_callV (o := 0) (As := [.int (48 + (x1 / 10))]) hc_27 okX11_put rfl gX11_putRun_X11_put (by decide) (show 0 < 11 by decide) rfl (ci := 9) rfl rfl (Nat.le_of_ble_eq_true rfl) dX11_putRun_27 ?_
      refine cw_aload_n dX11_putRun_30 0 rfl rfl ?_
      refine cw_bipush (v := 48) dX11_putRun_31 (by decide) ?_
      refine cw_iload_n dX11_putRun_33 1 rfl rfl ?_
      refine cw_bipush (v := 10) dX11_putRun_34 (by decide) ?_
      obtain ⟨g0_36, h⟩ := h
      refine cw_irem dX11_putRun_36 g0_36 ?_
      refine cw_iadd dX11_putRun_37 ?_
      obtain ⟨J_38, hc_38, h⟩ := h
      refine cw_callV (o := 0) (As := [.int (48 + (x1 - x1 / 10 * 10))]) hc_38 okX11_put rfl gX11_putRun_X11_put (by decide) (show 0 < 11 by decide) rfl (ci := 9) rfl rfl (Nat.le_of_ble_eq_true rfl) dX11_putRun_38 ?_
      refine cw_iload_n dX11_putRun_41 2 rfl rfl ?_
      refine cw_iconst (v := (-1)) dX11_putRun_42 (by decide) ?_
      refine cw_icmp_ne (tgt := 53) dX11_putRun_43 (by decide) (fun q => ?_) (fun q => ?_)
      · have h := h.1 q
        refine cw_bipush (v := 26) dX11_putRun_53 (by decide) ?_
        refine cw_iload_n dX11_putRun_55 2 rfl rfl ?_
        refine cw_bipush (v := 31) dX11_putRun_56 (by decide) ?_
        refine cw_imul dX11_putRun_58 ?_
        refine cw_iadd dX11_putRun_59 ?_
        refine cw_istore_n dX11_putRun_60 rfl (by decide) rfl ?_
        refine cw_iconst (v := 0) dX11_putRun_61 (by decide) ?_
        refine cw_istore dX11_putRun_62 (by decide) rfl ?_
        refine cw_sub [2, 1, 0] rfl ?_
        exact h
      · have h := h.2 q
        refine cw_aload_n dX11_putRun_46 0 rfl rfl ?_
        refine cw_bipush (v := 45) dX11_putRun_47 (by decide) ?_
        obtain ⟨J_49, hc_49, h⟩ := h
        refine cw_callV (o := 0) (As := [.int 45]) hc_49 okX11_put rfl gX11_putRun_X11_put (by decide) (show 0 < 11 by decide) rfl (ci := 9) rfl rfl (Nat.le_of_ble_eq_true rfl) dX11_putRun_49 ?_
        exact cw_vret rfl dX11_putRun_52 h
set_option maxRecDepth 20000 in
set_option maxHeartbeats 4000000 in
theorem tbX11_putRun_0_64 {K : cw_K} {r : Option Value} {J0 I : cw_M} {x3 : Int32} {x4 : Int32} (h : (vp_in x3 2120 ∧ (((I 1 x3.toNatClampNeg) ≤ x4 → (r = none ∧ J0 = I)) ∧ (¬ (I 1 x3.toNatClampNeg) ≤ x4 → (vp_in ((x3 + 1) + x4) 2120 ∧ (∃ J_87 : cw_M, cw_C (cr_w K) mX11_put [.ref (cw_a (cr_w K) 0), .int (I 1 ((x3 + 1) + x4).toNatClampNeg)] I none J_87 ∧ bX11_putRun_0_64 K r J0 x3 (x4 + 1) J_87)))))) : bX11_putRun_0_64 K r J0 x3 x4 I := by
  refine cw_iload dX11_putRun_64 2 rfl ?_
  refine cw_aload_n dX11_putRun_66 0 rfl rfl ?_
  refine cw_getf (C := RX11) (T := TX11) (N := 20) (ci := 9) inX11_putRun_RX11 0 (show 0 < 11 by decide) rfl rfl 0 (by decide) (by decide +kernel) rfl dX11_putRun_67 ?_
  refine cw_iload_n dX11_putRun_70 1 rfl rfl ?_
  obtain ⟨g_71, h⟩ := h
  refine cw_iald 1 (show 1 < 11 by decide) rfl 0 rfl dX11_putRun_71 g_71 ?_
  refine cw_icmp_ge (tgt := 96) dX11_putRun_72 (by decide) (fun q => ?_) (fun q => ?_)
  · have h := h.1 q
    exact cw_vret rfl dX11_putRun_96 h
  · have h := h.2 q
    refine cw_aload_n dX11_putRun_75 0 rfl rfl ?_
    refine cw_aload_n dX11_putRun_76 0 rfl rfl ?_
    refine cw_getf (C := RX11) (T := TX11) (N := 20) (ci := 9) inX11_putRun_RX11 0 (show 0 < 11 by decide) rfl rfl 0 (by decide) (by decide +kernel) rfl dX11_putRun_77 ?_
    refine cw_iload_n dX11_putRun_80 1 rfl rfl ?_
    refine cw_iconst (v := 1) dX11_putRun_81 (by decide) ?_
    refine cw_iadd dX11_putRun_82 ?_
    refine cw_iload dX11_putRun_83 2 rfl ?_
    refine cw_iadd dX11_putRun_85 ?_
    obtain ⟨g_86, h⟩ := h
    refine cw_iald 1 (show 1 < 11 by decide) rfl 0 rfl dX11_putRun_86 g_86 ?_
    obtain ⟨J_87, hc_87, h⟩ := h
    refine cw_callV (o := 0) (As := [.int (I 1 ((x3 + 1) + x4).toNatClampNeg)]) hc_87 okX11_put rfl gX11_putRun_X11_put (by decide) (show 0 < 11 by decide) rfl (ci := 9) rfl rfl (Nat.le_of_ble_eq_true rfl) dX11_putRun_87 ?_
    refine cw_iinc (v := x4 + 1) dX11_putRun_90 (j := 2) rfl rfl (by decide) rfl ?_
    refine cw_goto (tgt := 64) dX11_putRun_93 (by decide) ?_
    refine cw_sub [1, 2, 0] rfl ?_
    exact h
abbrev bX11_reaches_0_4 (K : cw_K) (r : Option Value) (J0 : cw_M) (x1 : Int32) (x2 : Int32) (x3 : Int32) (I : cw_M) : Prop := cw_B (cr_w K) mX11_reaches (cw_Z (cr_w K) r J0) 0 0 I 4 [(0, .ref (cw_a (cr_w K) 0)), (1, .int x1), (2, .int x2), (3, .int x3)] []
abbrev bX11_reaches_0_17 (K : cw_K) (r : Option Value) (J0 : cw_M) (x1 : Int32) (x2 : Int32) (x3 : Int32) (x4 : Int32) (I : cw_M) : Prop := cw_B (cr_w K) mX11_reaches (cw_Z (cr_w K) r J0) 0 0 I 17 [(0, .ref (cw_a (cr_w K) 0)), (1, .int x1), (2, .int x2), (3, .int x3), (4, .int x4)] []
set_option maxRecDepth 20000 in
set_option maxHeartbeats 4000000 in
theorem eX11_reaches_0 {K : cw_K} {r : Option Value} {J0 I : cw_M} {x1 : Int32} (h : bX11_reaches_0_4 K r J0 x1 0 0 I) : cw_C (cr_w K) mX11_reaches [.ref (cw_a (cr_w K) 0), .int x1] I r J0 := by
  refine cw_entry okX11_reaches (Nat.le_of_ble_eq_true rfl) (show cw_B (cr_w K) mX11_reaches (cw_Z (cr_w K) r J0) 0 0 I 0 [(0, .ref (cw_a (cr_w K) 0)), (1, .int x1)] [] from ?_)
  refine cw_iconst (v := 0) dX11_reaches_0 (by decide) ?_
  refine cw_istore_n dX11_reaches_1 rfl (by decide) rfl ?_
  refine cw_iconst (v := 0) dX11_reaches_2 (by decide) ?_
  refine cw_istore_n dX11_reaches_3 rfl (by decide) rfl ?_
  refine cw_sub [2, 3, 1, 0] rfl ?_
  exact h
set_option maxRecDepth 20000 in
set_option maxHeartbeats 4000000 in
theorem tbX11_reaches_0_4 {K : cw_K} {r : Option Value} {J0 I : cw_M} {x1 : Int32} {x2 : Int32} {x3 : Int32} (h : (((I 1 1) ≤ x3 → (r = some (.int 1) ∧ J0 = I)) ∧ (¬ (I 1 1) ≤ x3 → bX11_reaches_0_17 K r J0 x1 x2 x3 0 I))) : bX11_reaches_0_4 K r J0 x1 x2 x3 I := by
  refine cw_iload_n dX11_reaches_4 3 rfl rfl ?_
  refine cw_aload_n dX11_reaches_5 0 rfl rfl ?_
  refine cw_getf (C := RX11) (T := TX11) (N := 20) (ci := 9) inX11_reaches_RX11 0 (show 0 < 11 by decide) rfl rfl 0 (by decide) (by decide +kernel) rfl dX11_reaches_6 ?_
  refine cw_iconst (v := 1) dX11_reaches_9 (by decide) ?_
  refine cw_ialdL (j := 1) 1 (show 1 < 11 by decide) rfl 0 rfl dX11_reaches_10 rfl (by decide) (by decide) ?_
  refine cw_icmp_ge (tgt := 69) dX11_reaches_11 (by decide) (fun q => ?_) (fun q => ?_)
  · have h := h.1 q
    refine cw_iconst (v := 1) dX11_reaches_69 (by decide) ?_
    exact cw_bret rfl dX11_reaches_70 (by decide) h
  · have h := h.2 q
    refine cw_iconst (v := 0) dX11_reaches_14 (by decide) ?_
    refine cw_istore dX11_reaches_15 (by decide) rfl ?_
    refine cw_sub [1, 2, 3, 4, 0] rfl ?_
    exact h
set_option maxRecDepth 20000 in
set_option maxHeartbeats 4000000 in
theorem tbX11_reaches_0_17 {K : cw_K} {r : Option Value} {J0 I : cw_M} {x1 : Int32} {x2 : Int32} {x3 : Int32} {x4 : Int32} (h : ((x1 ≤ x4 → ((x1 ≤ x4 → bX11_reaches_0_4 K r J0 x1 x2 (x3 + 1) I) ∧ (¬ x1 ≤ x4 → (r = some (.int 0) ∧ J0 = I)))) ∧ (¬ x1 ≤ x4 → (((I 1 0) ≤ x2 → ((x1 ≤ x4 → bX11_reaches_0_4 K r J0 x1 x2 (x3 + 1) I) ∧ (¬ x1 ≤ x4 → (r = some (.int 0) ∧ J0 = I)))) ∧ (¬ (I 1 0) ≤ x2 → (vp_in x3 6 ∧ (∃ (v_43 : Int32) (J_43 : cw_M), cw_C (cr_w K) mX11_valueOf [.ref (cw_a (cr_w K) 0), .int (I 9 x3.toNatClampNeg), .int x2] I (some (.int v_43)) J_43 ∧ bX11_reaches_0_17 K r J0 x1 (x2 + 1) x3 (x4 + v_43) J_43))))))) : bX11_reaches_0_17 K r J0 x1 x2 x3 x4 I := by
  refine cw_iload dX11_reaches_17 4 rfl ?_
  refine cw_iload_n dX11_reaches_19 1 rfl rfl ?_
  refine cw_icmp_ge (tgt := 55) dX11_reaches_20 (by decide) (fun q => ?_) (fun q => ?_)
  · have h := h.1 q
    refine cw_iload dX11_reaches_55 4 rfl ?_
    refine cw_iload_n dX11_reaches_57 1 rfl rfl ?_
    refine cw_icmp_ge (tgt := 63) dX11_reaches_58 (by decide) (fun q => ?_) (fun q => ?_)
    · have h := h.1 q
      refine cw_iinc (v := x3 + 1) dX11_reaches_63 (j := 3) rfl rfl (by decide) rfl ?_
      refine cw_goto (tgt := 4) dX11_reaches_66 (by decide) ?_
      refine cw_sub [1, 2, 3, 0] rfl ?_
      exact h
    · have h := h.2 q
      refine cw_iconst (v := 0) dX11_reaches_61 (by decide) ?_
      exact cw_bret rfl dX11_reaches_62 (by decide) h
  · have h := h.2 q
    refine cw_iload_n dX11_reaches_23 2 rfl rfl ?_
    refine cw_aload_n dX11_reaches_24 0 rfl rfl ?_
    refine cw_getf (C := RX11) (T := TX11) (N := 20) (ci := 9) inX11_reaches_RX11 0 (show 0 < 11 by decide) rfl rfl 0 (by decide) (by decide +kernel) rfl dX11_reaches_25 ?_
    refine cw_iconst (v := 0) dX11_reaches_28 (by decide) ?_
    refine cw_ialdL (j := 0) 1 (show 1 < 11 by decide) rfl 0 rfl dX11_reaches_29 rfl (by decide) (by decide) ?_
    refine cw_icmp_ge (tgt := 55) dX11_reaches_30 (by decide) (fun q => ?_) (fun q => ?_)
    · have h := h.1 q
      refine cw_iload dX11_reaches_55 4 rfl ?_
      refine cw_iload_n dX11_reaches_57 1 rfl rfl ?_
      refine cw_icmp_ge (tgt := 63) dX11_reaches_58 (by decide) (fun q => ?_) (fun q => ?_)
      · have h := h.1 q
        refine cw_iinc (v := x3 + 1) dX11_reaches_63 (j := 3) rfl rfl (by decide) rfl ?_
        refine cw_goto (tgt := 4) dX11_reaches_66 (by decide) ?_
        refine cw_sub [1, 2, 3, 0] rfl ?_
        exact h
      · have h := h.2 q
        refine cw_iconst (v := 0) dX11_reaches_61 (by decide) ?_
        exact cw_bret rfl dX11_reaches_62 (by decide) h
    · have h := h.2 q
      refine cw_iload dX11_reaches_33 4 rfl ?_
      refine cw_aload_n dX11_reaches_35 0 rfl rfl ?_
      refine cw_aload_n dX11_reaches_36 0 rfl rfl ?_
      refine cw_getf (C := RX11) (T := TX11) (N := 20) (ci := 9) inX11_reaches_RX11 0 (show 0 < 11 by decide) rfl rfl 14 (by decide) (by decide +kernel) rfl dX11_reaches_37 ?_
      refine cw_iload_n dX11_reaches_40 3 rfl rfl ?_
      obtain ⟨g_41, h⟩ := h
      refine cw_iald 9 (show 9 < 11 by decide) rfl 0 rfl dX11_reaches_41 g_41 ?_
      refine cw_iload_n dX11_reaches_42 2 rfl rfl ?_
      obtain ⟨v_43, J_43, hc_43, h⟩ := h
      refine cw_callV (o := 0) (As := [.int (I 9 x3.toNatClampNeg), .int x2]) hc_43 okX11_valueOf rfl gX11_reaches_X11_valueOf (by decide) (show 0 < 11 by decide) rfl (ci := 9) rfl rfl (Nat.le_of_ble_eq_true rfl) dX11_reaches_43 ?_
      refine cw_iadd dX11_reaches_46 ?_
      refine cw_istore dX11_reaches_47 (by decide) rfl ?_
      refine cw_iinc (v := x2 + 1) dX11_reaches_49 (j := 3) rfl rfl (by decide) rfl ?_
      refine cw_goto (tgt := 17) dX11_reaches_52 (by decide) ?_
      refine cw_sub [2, 3, 0, 4, 1] rfl ?_
      exact h
set_option maxRecDepth 20000 in
set_option maxHeartbeats 4000000 in
theorem eX11_release_0 {K : cw_K} {r : Option Value} {J0 I : cw_M} {x1 : Int32} {x2 : Int32} (h : (∃ (v_4 : Int32) (J_4 : cw_M), cw_C (cr_w K) mX11_isRange [.ref (cw_a (cr_w K) 0), .int x1, .int x2] I (some (.int v_4)) J_4 ∧ ((¬ v_4 = 0 → (∃ (v_17 : Int32) (J_17 : cw_M), cw_C (cr_w K) mX11_fails [.ref (cw_a (cr_w K) 0), .int 0, .int 0, .int 0] J_4 (some (.int v_17)) J_17 ∧ ((v_17 = 0 → (∃ J_27 : cw_M, cw_C (cr_w K) mX11_remember [.ref (cw_a (cr_w K) 0), .int 0] J_17 none J_27 ∧ (∃ J_34 : cw_M, cw_C (cr_w K) mX11_own [.ref (cw_a (cr_w K) 0), .int (-1), .int x1, .int x2] J_27 none J_34 ∧ (∃ (v_39 : Int32) (J_39 : cw_M), cw_C (cr_w K) mX11_sizeOf [.ref (cw_a (cr_w K) 0), .int (-1)] J_34 (some (.int v_39)) J_39 ∧ (r = some (.int v_39) ∧ J0 = J_39))))) ∧ (¬ v_17 = 0 → (r = some (.int 0) ∧ J0 = J_17))))) ∧ (v_4 = 0 → (∃ (v_17 : Int32) (J_17 : cw_M), cw_C (cr_w K) mX11_fails [.ref (cw_a (cr_w K) 0), .int 1, .int 0, .int 0] J_4 (some (.int v_17)) J_17 ∧ ((v_17 = 0 → (∃ J_27 : cw_M, cw_C (cr_w K) mX11_remember [.ref (cw_a (cr_w K) 0), .int 0] J_17 none J_27 ∧ (∃ J_34 : cw_M, cw_C (cr_w K) mX11_own [.ref (cw_a (cr_w K) 0), .int (-1), .int x1, .int x2] J_27 none J_34 ∧ (∃ (v_39 : Int32) (J_39 : cw_M), cw_C (cr_w K) mX11_sizeOf [.ref (cw_a (cr_w K) 0), .int (-1)] J_34 (some (.int v_39)) J_39 ∧ (r = some (.int v_39) ∧ J0 = J_39))))) ∧ (¬ v_17 = 0 → (r = some (.int 0) ∧ J0 = J_17)))))))) : cw_C (cr_w K) mX11_release [.ref (cw_a (cr_w K) 0), .int x1, .int x2] I r J0 := by
  refine cw_entry okX11_release (Nat.le_of_ble_eq_true rfl) (show cw_B (cr_w K) mX11_release (cw_Z (cr_w K) r J0) 0 0 I 0 [(0, .ref (cw_a (cr_w K) 0)), (1, .int x1), (2, .int x2)] [] from ?_)
  refine cw_aload_n dX11_release_0 0 rfl rfl ?_
  refine cw_aload_n dX11_release_1 0 rfl rfl ?_
  refine cw_iload_n dX11_release_2 1 rfl rfl ?_
  refine cw_iload_n dX11_release_3 2 rfl rfl ?_
  obtain ⟨v_4, J_4, hc_4, h⟩ := h
  refine cw_callV (o := 0) (As := [.int x1, .int x2]) hc_4 okX11_isRange rfl gX11_release_X11_isRange (by decide) (show 0 < 11 by decide) rfl (ci := 9) rfl rfl (Nat.le_of_ble_eq_true rfl) dX11_release_4 ?_
  refine cw_if_ne (tgt := 14) dX11_release_7 (by decide) (fun q => ?_) (fun q => ?_)
  · have h := h.1 q
    refine cw_iconst (v := 0) dX11_release_14 (by decide) ?_
    refine cw_iconst (v := 0) dX11_release_15 (by decide) ?_
    refine cw_iconst (v := 0) dX11_release_16 (by decide) ?_
    obtain ⟨v_17, J_17, hc_17, h⟩ := h
    refine cw_callV (o := 0) (As := [.int 0, .int 0, .int 0]) hc_17 okX11_fails rfl gX11_release_X11_fails (by decide) (show 0 < 11 by decide) rfl (ci := 9) rfl rfl (Nat.le_of_ble_eq_true rfl) dX11_release_17 ?_
    refine cw_if_eq (tgt := 25) dX11_release_20 (by decide) (fun q => ?_) (fun q => ?_)
    · have h := h.1 q
      refine cw_aload_n dX11_release_25 0 rfl rfl ?_
      refine cw_iconst (v := 0) dX11_release_26 (by decide) ?_
      obtain ⟨J_27, hc_27, h⟩ := h
      refine cw_callV (o := 0) (As := [.int 0]) hc_27 okX11_remember rfl gX11_release_X11_remember (by decide) (show 0 < 11 by decide) rfl (ci := 9) rfl rfl (Nat.le_of_ble_eq_true rfl) dX11_release_27 ?_
      refine cw_aload_n dX11_release_30 0 rfl rfl ?_
      refine cw_iconst (v := (-1)) dX11_release_31 (by decide) ?_
      refine cw_iload_n dX11_release_32 1 rfl rfl ?_
      refine cw_iload_n dX11_release_33 2 rfl rfl ?_
      obtain ⟨J_34, hc_34, h⟩ := h
      refine cw_callV (o := 0) (As := [.int (-1), .int x1, .int x2]) hc_34 okX11_own rfl gX11_release_X11_own (by decide) (show 0 < 11 by decide) rfl (ci := 9) rfl rfl (Nat.le_of_ble_eq_true rfl) dX11_release_34 ?_
      refine cw_aload_n dX11_release_37 0 rfl rfl ?_
      refine cw_iconst (v := (-1)) dX11_release_38 (by decide) ?_
      obtain ⟨v_39, J_39, hc_39, h⟩ := h
      refine cw_callV (o := 0) (As := [.int (-1)]) hc_39 okX11_sizeOf rfl gX11_release_X11_sizeOf (by decide) (show 0 < 11 by decide) rfl (ci := 9) rfl rfl (Nat.le_of_ble_eq_true rfl) dX11_release_39 ?_
      exact cw_iret rfl dX11_release_42 h
    · have h := h.2 q
      refine cw_iconst (v := 0) dX11_release_23 (by decide) ?_
      exact cw_iret rfl dX11_release_24 h
  · have h := h.2 q
    refine cw_iconst (v := 1) dX11_release_10 (by decide) ?_
    refine cw_goto (tgt := 15) dX11_release_11 (by decide) ?_
    refine cw_iconst (v := 0) dX11_release_15 (by decide) ?_
    refine cw_iconst (v := 0) dX11_release_16 (by decide) ?_
    obtain ⟨v_17, J_17, hc_17, h⟩ := h
    refine cw_callV (o := 0) (As := [.int 1, .int 0, .int 0]) hc_17 okX11_fails rfl gX11_release_X11_fails (by decide) (show 0 < 11 by decide) rfl (ci := 9) rfl rfl (Nat.le_of_ble_eq_true rfl) dX11_release_17 ?_
    refine cw_if_eq (tgt := 25) dX11_release_20 (by decide) (fun q => ?_) (fun q => ?_)
    · have h := h.1 q
      refine cw_aload_n dX11_release_25 0 rfl rfl ?_
      refine cw_iconst (v := 0) dX11_release_26 (by decide) ?_
      obtain ⟨J_27, hc_27, h⟩ := h
      refine cw_callV (o := 0) (As := [.int 0]) hc_27 okX11_remember rfl gX11_release_X11_remember (by decide) (show 0 < 11 by decide) rfl (ci := 9) rfl rfl (Nat.le_of_ble_eq_true rfl) dX11_release_27 ?_
      refine cw_aload_n dX11_release_30 0 rfl rfl ?_
      refine cw_iconst (v := (-1)) dX11_release_31 (by decide) ?_
      refine cw_iload_n dX11_release_32 1 rfl rfl ?_
      refine cw_iload_n dX11_release_33 2 rfl rfl ?_
      obtain ⟨J_34, hc_34, h⟩ := h
      refine cw_callV (o := 0) (As := [.int (-1), .int x1, .int x2]) hc_34 okX11_own rfl gX11_release_X11_own (by decide) (show 0 < 11 by decide) rfl (ci := 9) rfl rfl (Nat.le_of_ble_eq_true rfl) dX11_release_34 ?_
      refine cw_aload_n dX11_release_37 0 rfl rfl ?_
      refine cw_iconst (v := (-1)) dX11_release_38 (by decide) ?_
      obtain ⟨v_39, J_39, hc_39, h⟩ := h
      refine cw_callV (o := 0) (As := [.int (-1)]) hc_39 okX11_sizeOf rfl gX11_release_X11_sizeOf (by decide) (show 0 < 11 by decide) rfl (ci := 9) rfl rfl (Nat.le_of_ble_eq_true rfl) dX11_release_39 ?_
      exact cw_iret rfl dX11_release_42 h
    · have h := h.2 q
      refine cw_iconst (v := 0) dX11_release_23 (by decide) ?_
      exact cw_iret rfl dX11_release_24 h
abbrev bX11_remember_0_11 (K : cw_K) (r : Option Value) (J0 : cw_M) (x1 : Int32) (x2 : Int32) (I : cw_M) : Prop := cw_B (cr_w K) mX11_remember (cw_Z (cr_w K) r J0) 0 0 I 11 [(0, .ref (cw_a (cr_w K) 0)), (1, .int x1), (2, .int x2)] []
set_option maxRecDepth 20000 in
set_option maxHeartbeats 4000000 in
theorem eX11_remember_0 {K : cw_K} {r : Option Value} {J0 I : cw_M} {x1 : Int32} (h : ((¬ (I 0 2) = 6 → (∃ J_57 : cw_M, cw_C (cr_w K) mX11_copyBlock [.ref (cw_a (cr_w K) 0), .int x1, .int ((cw_st I 0 2 ((I 0 2) + 1)) 0 2)] (cw_st I 0 2 ((I 0 2) + 1)) none J_57 ∧ (r = none ∧ J0 = J_57))) ∧ ((I 0 2) = 6 → bX11_remember_0_11 K r J0 x1 1 I))) : cw_C (cr_w K) mX11_remember [.ref (cw_a (cr_w K) 0), .int x1] I r J0 := by
  refine cw_entry okX11_remember (Nat.le_of_ble_eq_true rfl) (show cw_B (cr_w K) mX11_remember (cw_Z (cr_w K) r J0) 0 0 I 0 [(0, .ref (cw_a (cr_w K) 0)), (1, .int x1)] [] from ?_)
  refine cw_aload_n dX11_remember_0 0 rfl rfl ?_
  refine cw_getf (C := RX11) (T := TX11) (N := 20) (ci := 9) inX11_remember_RX11 0 (show 0 < 11 by decide) rfl rfl 2 (by decide) (by decide +kernel) rfl dX11_remember_1 ?_
  refine cw_bipush (v := 6) dX11_remember_4 (by decide) ?_
  refine cw_icmp_ne (tgt := 41) dX11_remember_6 (by decide) (fun q => ?_) (fun q => ?_)
  · have h := h.1 q
    refine cw_aload_n dX11_remember_41 0 rfl rfl ?_
    refine cw_dup dX11_remember_42 rfl ?_
    refine cw_getf (C := RX11) (T := TX11) (N := 20) (ci := 9) inX11_remember_RX11 0 (show 0 < 11 by decide) rfl rfl 2 (by decide) (by decide +kernel) rfl dX11_remember_43 ?_
    refine cw_iconst (v := 1) dX11_remember_46 (by decide) ?_
    refine cw_iadd dX11_remember_47 ?_
    refine cw_putf (C := RX11) (T := TX11) (N := 20) (ci := 9) inX11_remember_RX11 tyX11 tyX11_ok nmX11 0 (show 0 < 11 by decide) rfl rfl 2 (by decide) (by decide +kernel) rfl rfl (show 2 < 20 by decide) rfl dX11_remember_48 ?_
    refine cw_aload_n dX11_remember_51 0 rfl rfl ?_
    refine cw_iload_n dX11_remember_52 1 rfl rfl ?_
    refine cw_aload_n dX11_remember_53 0 rfl rfl ?_
    refine cw_getf (C := RX11) (T := TX11) (N := 20) (ci := 9) inX11_remember_RX11 0 (show 0 < 11 by decide) rfl rfl 2 (by decide) (by decide +kernel) rfl dX11_remember_54 ?_
    obtain ⟨J_57, hc_57, h⟩ := h
    refine cw_callV (o := 0) (As := [.int x1, .int ((cw_st I 0 2 ((I 0 2) + 1)) 0 2)]) hc_57 okX11_copyBlock rfl gX11_remember_X11_copyBlock (by decide) (show 0 < 11 by decide) rfl (ci := 9) rfl rfl (Nat.le_of_ble_eq_true rfl) dX11_remember_57 ?_
    exact cw_vret rfl dX11_remember_60 h
  · have h := h.2 q
    refine cw_iconst (v := 1) dX11_remember_9 (by decide) ?_
    refine cw_istore_n dX11_remember_10 rfl (by decide) rfl ?_
    refine cw_sub [1, 2, 0] rfl ?_
    exact h
set_option maxRecDepth 20000 in
set_option maxHeartbeats 4000000 in
theorem tbX11_remember_0_11 {K : cw_K} {r : Option Value} {J0 I : cw_M} {x1 : Int32} {x2 : Int32} (h : ((6 ≤ x2 → (∃ J_57 : cw_M, cw_C (cr_w K) mX11_copyBlock [.ref (cw_a (cr_w K) 0), .int x1, .int ((cw_st (cw_st I 0 2 ((I 0 2) - 1)) 0 2 (((cw_st I 0 2 ((I 0 2) - 1)) 0 2) + 1)) 0 2)] (cw_st (cw_st I 0 2 ((I 0 2) - 1)) 0 2 (((cw_st I 0 2 ((I 0 2) - 1)) 0 2) + 1)) none J_57 ∧ (r = none ∧ J0 = J_57))) ∧ (¬ 6 ≤ x2 → (∃ J_22 : cw_M, cw_C (cr_w K) mX11_copyBlock [.ref (cw_a (cr_w K) 0), .int (x2 + 1), .int x2] I none J_22 ∧ bX11_remember_0_11 K r J0 x1 (x2 + 1) J_22)))) : bX11_remember_0_11 K r J0 x1 x2 I := by
  refine cw_iload_n dX11_remember_11 2 rfl rfl ?_
  refine cw_bipush (v := 6) dX11_remember_12 (by decide) ?_
  refine cw_icmp_ge (tgt := 31) dX11_remember_14 (by decide) (fun q => ?_) (fun q => ?_)
  · have h := h.1 q
    refine cw_aload_n dX11_remember_31 0 rfl rfl ?_
    refine cw_dup dX11_remember_32 rfl ?_
    refine cw_getf (C := RX11) (T := TX11) (N := 20) (ci := 9) inX11_remember_RX11 0 (show 0 < 11 by decide) rfl rfl 2 (by decide) (by decide +kernel) rfl dX11_remember_33 ?_
    refine cw_iconst (v := 1) dX11_remember_36 (by decide) ?_
    refine cw_isub dX11_remember_37 ?_
    refine cw_putf (C := RX11) (T := TX11) (N := 20) (ci := 9) inX11_remember_RX11 tyX11 tyX11_ok nmX11 0 (show 0 < 11 by decide) rfl rfl 2 (by decide) (by decide +kernel) rfl rfl (show 2 < 20 by decide) rfl dX11_remember_38 ?_
    refine cw_aload_n dX11_remember_41 0 rfl rfl ?_
    refine cw_dup dX11_remember_42 rfl ?_
    refine cw_getf (C := RX11) (T := TX11) (N := 20) (ci := 9) inX11_remember_RX11 0 (show 0 < 11 by decide) rfl rfl 2 (by decide) (by decide +kernel) rfl dX11_remember_43 ?_
    refine cw_iconst (v := 1) dX11_remember_46 (by decide) ?_
    refine cw_iadd dX11_remember_47 ?_
    refine cw_putf (C := RX11) (T := TX11) (N := 20) (ci := 9) inX11_remember_RX11 tyX11 tyX11_ok nmX11 0 (show 0 < 11 by decide) rfl rfl 2 (by decide) (by decide +kernel) rfl rfl (show 2 < 20 by decide) rfl dX11_remember_48 ?_
    refine cw_aload_n dX11_remember_51 0 rfl rfl ?_
    refine cw_iload_n dX11_remember_52 1 rfl rfl ?_
    refine cw_aload_n dX11_remember_53 0 rfl rfl ?_
    refine cw_getf (C := RX11) (T := TX11) (N := 20) (ci := 9) inX11_remember_RX11 0 (show 0 < 11 by decide) rfl rfl 2 (by decide) (by decide +kernel) rfl dX11_remember_54 ?_
    obtain ⟨J_57, hc_57, h⟩ := h
    refine cw_callV (o := 0) (As := [.int x1, .int ((cw_st (cw_st I 0 2 ((I 0 2) - 1)) 0 2 (((cw_st I 0 2 ((I 0 2) - 1)) 0 2) + 1)) 0 2)]) hc_57 okX11_copyBlock rfl gX11_remember_X11_copyBlock (by decide) (show 0 < 11 by decide) rfl (ci := 9) rfl rfl (Nat.le_of_ble_eq_true rfl) dX11_remember_57 ?_
    exact cw_vret rfl dX11_remember_60 h
  · have h := h.2 q
    refine cw_aload_n dX11_remember_17 0 rfl rfl ?_
    refine cw_iload_n dX11_remember_18 2 rfl rfl ?_
    refine cw_iconst (v := 1) dX11_remember_19 (by decide) ?_
    refine cw_iadd dX11_remember_20 ?_
    refine cw_iload_n dX11_remember_21 2 rfl rfl ?_
    obtain ⟨J_22, hc_22, h⟩ := h
    refine cw_callV (o := 0) (As := [.int (x2 + 1), .int x2]) hc_22 okX11_copyBlock rfl gX11_remember_X11_copyBlock (by decide) (show 0 < 11 by decide) rfl (ci := 9) rfl rfl (Nat.le_of_ble_eq_true rfl) dX11_remember_22 ?_
    refine cw_iinc (v := x2 + 1) dX11_remember_25 (j := 2) rfl rfl (by decide) rfl ?_
    refine cw_goto (tgt := 11) dX11_remember_28 (by decide) ?_
    refine cw_sub [1, 2, 0] rfl ?_
    exact h
set_option maxRecDepth 20000 in
set_option maxHeartbeats 4000000 in
theorem eX11_restore_0 {K : cw_K} {r : Option Value} {J0 I : cw_M} {x1 : Int32} (h : (∃ (v_3 : Int32) (J_3 : cw_M), cw_C (cr_w K) mX11_in [.int x1, .int 0, .int 1] I (some (.int v_3)) J_3 ∧ ((¬ v_3 = 0 → ((v_3 = 0 → (∃ (v_36 : Int32) (J_36 : cw_M), cw_C (cr_w K) mX11_fails [.ref (cw_a (cr_w K) 0), .int 0, .int 0, .int 0] J_3 (some (.int v_36)) J_36 ∧ ((v_36 = 0 → (∃ J_50 : cw_M, cw_C (cr_w K) mX11_copyBlock [.ref (cw_a (cr_w K) 0), .int (7 + x1), .int 0] J_36 none J_50 ∧ (∃ (v_60 : Int32) (J_60 : cw_M), cw_C (cr_w K) mX11_sizeOf [.ref (cw_a (cr_w K) 0), .int (-1)] (cw_st J_50 0 2 0) (some (.int v_60)) J_60 ∧ (r = some (.int v_60) ∧ J0 = J_60)))) ∧ (¬ v_36 = 0 → (r = some (.int 0) ∧ J0 = J_36))))) ∧ (¬ v_3 = 0 → (vp_in x1 2 ∧ ((¬ (J_3 2 x1.toNatClampNeg) = 0 → (∃ (v_36 : Int32) (J_36 : cw_M), cw_C (cr_w K) mX11_fails [.ref (cw_a (cr_w K) 0), .int 0, .int 0, .int 0] J_3 (some (.int v_36)) J_36 ∧ ((v_36 = 0 → (∃ J_50 : cw_M, cw_C (cr_w K) mX11_copyBlock [.ref (cw_a (cr_w K) 0), .int (7 + x1), .int 0] J_36 none J_50 ∧ (∃ (v_60 : Int32) (J_60 : cw_M), cw_C (cr_w K) mX11_sizeOf [.ref (cw_a (cr_w K) 0), .int (-1)] (cw_st J_50 0 2 0) (some (.int v_60)) J_60 ∧ (r = some (.int v_60) ∧ J0 = J_60)))) ∧ (¬ v_36 = 0 → (r = some (.int 0) ∧ J0 = J_36))))) ∧ ((J_3 2 x1.toNatClampNeg) = 0 → (∃ (v_36 : Int32) (J_36 : cw_M), cw_C (cr_w K) mX11_fails [.ref (cw_a (cr_w K) 0), .int 0, .int 1, .int 0] J_3 (some (.int v_36)) J_36 ∧ ((v_36 = 0 → (∃ J_50 : cw_M, cw_C (cr_w K) mX11_copyBlock [.ref (cw_a (cr_w K) 0), .int (7 + x1), .int 0] J_36 none J_50 ∧ (∃ (v_60 : Int32) (J_60 : cw_M), cw_C (cr_w K) mX11_sizeOf [.ref (cw_a (cr_w K) 0), .int (-1)] (cw_st J_50 0 2 0) (some (.int v_60)) J_60 ∧ (r = some (.int v_60) ∧ J0 = J_60)))) ∧ (¬ v_36 = 0 → (r = some (.int 0) ∧ J0 = J_36)))))))))) ∧ (v_3 = 0 → ((v_3 = 0 → (∃ (v_36 : Int32) (J_36 : cw_M), cw_C (cr_w K) mX11_fails [.ref (cw_a (cr_w K) 0), .int 1, .int 0, .int 0] J_3 (some (.int v_36)) J_36 ∧ ((v_36 = 0 → (∃ J_50 : cw_M, cw_C (cr_w K) mX11_copyBlock [.ref (cw_a (cr_w K) 0), .int (7 + x1), .int 0] J_36 none J_50 ∧ (∃ (v_60 : Int32) (J_60 : cw_M), cw_C (cr_w K) mX11_sizeOf [.ref (cw_a (cr_w K) 0), .int (-1)] (cw_st J_50 0 2 0) (some (.int v_60)) J_60 ∧ (r = some (.int v_60) ∧ J0 = J_60)))) ∧ (¬ v_36 = 0 → (r = some (.int 0) ∧ J0 = J_36))))) ∧ (¬ v_3 = 0 → (vp_in x1 2 ∧ ((¬ (J_3 2 x1.toNatClampNeg) = 0 → (∃ (v_36 : Int32) (J_36 : cw_M), cw_C (cr_w K) mX11_fails [.ref (cw_a (cr_w K) 0), .int 1, .int 0, .int 0] J_3 (some (.int v_36)) J_36 ∧ ((v_36 = 0 → (∃ J_50 : cw_M, cw_C (cr_w K) mX11_copyBlock [.ref (cw_a (cr_w K) 0), .int (7 + x1), .int 0] J_36 none J_50 ∧ (∃ (v_60 : Int32) (J_60 : cw_M), cw_C (cr_w K) mX11_sizeOf [.ref (cw_a (cr_w K) 0), .int (-1)] (cw_st J_50 0 2 0) (some (.int v_60)) J_60 ∧ (r = some (.int v_60) ∧ J0 = J_60)))) ∧ (¬ v_36 = 0 → (r = some (.int 0) ∧ J0 = J_36))))) ∧ ((J_3 2 x1.toNatClampNeg) = 0 → (∃ (v_36 : Int32) (J_36 : cw_M), cw_C (cr_w K) mX11_fails [.ref (cw_a (cr_w K) 0), .int 1, .int 1, .int 0] J_3 (some (.int v_36)) J_36 ∧ ((v_36 = 0 → (∃ J_50 : cw_M, cw_C (cr_w K) mX11_copyBlock [.ref (cw_a (cr_w K) 0), .int (7 + x1), .int 0] J_36 none J_50 ∧ (∃ (v_60 : Int32) (J_60 : cw_M), cw_C (cr_w K) mX11_sizeOf [.ref (cw_a (cr_w K) 0), .int (-1)] (cw_st J_50 0 2 0) (some (.int v_60)) J_60 ∧ (r = some (.int v_60) ∧ J0 = J_60)))) ∧ (¬ v_36 = 0 → (r = some (.int 0) ∧ J0 = J_36))))))))))))) : cw_C (cr_w K) mX11_restore [.ref (cw_a (cr_w K) 0), .int x1] I r J0 := by
  refine cw_entry okX11_restore (Nat.le_of_ble_eq_true rfl) (show cw_B (cr_w K) mX11_restore (cw_Z (cr_w K) r J0) 0 0 I 0 [(0, .ref (cw_a (cr_w K) 0)), (1, .int x1)] [] from ?_)
  refine cw_iload_n dX11_restore_0 1 rfl rfl ?_
  refine cw_iconst (v := 0) dX11_restore_1 (by decide) ?_
  refine cw_iconst (v := 1) dX11_restore_2 (by decide) ?_
  obtain ⟨v_3, J_3, hc_3, h⟩ := h
  refine cw_callS (As := [.int x1, .int 0, .int 1]) hc_3 okX11_in rfl gX11_restore_X11_in (by decide) rfl rfl (Nat.le_of_ble_eq_true rfl) dX11_restore_3 ?_
  refine cw_istore_n dX11_restore_6 rfl (by decide) rfl ?_
  refine cw_aload_n dX11_restore_7 1 rfl rfl ?_
  refine cw_iload_n dX11_restore_8 0 rfl rfl ?_
  refine cw_if_ne (tgt := 16) dX11_restore_9 (by decide) (fun q => ?_) (fun q => ?_)
  · have h := h.1 q
    refine cw_iconst (v := 0) dX11_restore_16 (by decide) ?_
    refine cw_iload_n dX11_restore_17 0 rfl rfl ?_
    refine cw_if_eq (tgt := 34) dX11_restore_18 (by decide) (fun q => ?_) (fun q => ?_)
    · have h := h.1 q
      refine cw_iconst (v := 0) dX11_restore_34 (by decide) ?_
      refine cw_iconst (v := 0) dX11_restore_35 (by decide) ?_
      obtain ⟨v_36, J_36, hc_36, h⟩ := h
      refine cw_callV (o := 0) (As := [.int 0, .int 0, .int 0]) hc_36 okX11_fails rfl gX11_restore_X11_fails (by decide) (show 0 < 11 by decide) rfl (ci := 9) rfl rfl (Nat.le_of_ble_eq_true rfl) dX11_restore_36 ?_
      refine cw_if_eq (tgt := 44) dX11_restore_39 (by decide) (fun q => ?_) (fun q => ?_)
      · have h := h.1 q
        refine cw_aload_n dX11_restore_44 1 rfl rfl ?_
        refine cw_bipush (v := 7) dX11_restore_45 (by decide) ?_
        refine cw_iload_n dX11_restore_47 2 rfl rfl ?_
        refine cw_iadd dX11_restore_48 ?_
        refine cw_iconst (v := 0) dX11_restore_49 (by decide) ?_
        obtain ⟨J_50, hc_50, h⟩ := h
        refine cw_callV (o := 0) (As := [.int (7 + x1), .int 0]) hc_50 okX11_copyBlock rfl gX11_restore_X11_copyBlock (by decide) (show 0 < 11 by decide) rfl (ci := 9) rfl rfl (Nat.le_of_ble_eq_true rfl) dX11_restore_50 ?_
        refine cw_aload_n dX11_restore_53 1 rfl rfl ?_
        refine cw_iconst (v := 0) dX11_restore_54 (by decide) ?_
        refine cw_putf (C := RX11) (T := TX11) (N := 20) (ci := 9) inX11_restore_RX11 tyX11 tyX11_ok nmX11 0 (show 0 < 11 by decide) rfl rfl 2 (by decide) (by decide +kernel) rfl rfl (show 2 < 20 by decide) rfl dX11_restore_55 ?_
        refine cw_aload_n dX11_restore_58 1 rfl rfl ?_
        refine cw_iconst (v := (-1)) dX11_restore_59 (by decide) ?_
        obtain ⟨v_60, J_60, hc_60, h⟩ := h
        refine cw_callV (o := 0) (As := [.int (-1)]) hc_60 okX11_sizeOf rfl gX11_restore_X11_sizeOf (by decide) (show 0 < 11 by decide) rfl (ci := 9) rfl rfl (Nat.le_of_ble_eq_true rfl) dX11_restore_60 ?_
        exact cw_iret rfl dX11_restore_63 h
      · have h := h.2 q
        refine cw_iconst (v := 0) dX11_restore_42 (by decide) ?_
        exact cw_iret rfl dX11_restore_43 h
    · have h := h.2 q
      refine cw_aload_n dX11_restore_21 1 rfl rfl ?_
      refine cw_getf (C := RX11) (T := TX11) (N := 20) (ci := 9) inX11_restore_RX11 0 (show 0 < 11 by decide) rfl rfl 1 (by decide) (by decide +kernel) rfl dX11_restore_22 ?_
      refine cw_iload_n dX11_restore_25 2 rfl rfl ?_
      obtain ⟨g_26, h⟩ := h
      refine cw_zald 2 (show 2 < 11 by decide) rfl 1 rfl dX11_restore_26 g_26 ?_
      refine cw_if_ne (tgt := 34) dX11_restore_27 (by decide) (fun q => ?_) (fun q => ?_)
      · have h := h.1 q
        refine cw_iconst (v := 0) dX11_restore_34 (by decide) ?_
        refine cw_iconst (v := 0) dX11_restore_35 (by decide) ?_
        obtain ⟨v_36, J_36, hc_36, h⟩ := h
        refine cw_callV (o := 0) (As := [.int 0, .int 0, .int 0]) hc_36 okX11_fails rfl gX11_restore_X11_fails (by decide) (show 0 < 11 by decide) rfl (ci := 9) rfl rfl (Nat.le_of_ble_eq_true rfl) dX11_restore_36 ?_
        refine cw_if_eq (tgt := 44) dX11_restore_39 (by decide) (fun q => ?_) (fun q => ?_)
        · have h := h.1 q
          refine cw_aload_n dX11_restore_44 1 rfl rfl ?_
          refine cw_bipush (v := 7) dX11_restore_45 (by decide) ?_
          refine cw_iload_n dX11_restore_47 2 rfl rfl ?_
          refine cw_iadd dX11_restore_48 ?_
          refine cw_iconst (v := 0) dX11_restore_49 (by decide) ?_
          obtain ⟨J_50, hc_50, h⟩ := h
          refine cw_callV (o := 0) (As := [.int (7 + x1), .int 0]) hc_50 okX11_copyBlock rfl gX11_restore_X11_copyBlock (by decide) (show 0 < 11 by decide) rfl (ci := 9) rfl rfl (Nat.le_of_ble_eq_true rfl) dX11_restore_50 ?_
          refine cw_aload_n dX11_restore_53 1 rfl rfl ?_
          refine cw_iconst (v := 0) dX11_restore_54 (by decide) ?_
          refine cw_putf (C := RX11) (T := TX11) (N := 20) (ci := 9) inX11_restore_RX11 tyX11 tyX11_ok nmX11 0 (show 0 < 11 by decide) rfl rfl 2 (by decide) (by decide +kernel) rfl rfl (show 2 < 20 by decide) rfl dX11_restore_55 ?_
          refine cw_aload_n dX11_restore_58 1 rfl rfl ?_
          refine cw_iconst (v := (-1)) dX11_restore_59 (by decide) ?_
          obtain ⟨v_60, J_60, hc_60, h⟩ := h
          refine cw_callV (o := 0) (As := [.int (-1)]) hc_60 okX11_sizeOf rfl gX11_restore_X11_sizeOf (by decide) (show 0 < 11 by decide) rfl (ci := 9) rfl rfl (Nat.le_of_ble_eq_true rfl) dX11_restore_60 ?_
          exact cw_iret rfl dX11_restore_63 h
        · have h := h.2 q
          refine cw_iconst (v := 0) dX11_restore_42 (by decide) ?_
          exact cw_iret rfl dX11_restore_43 h
      · have h := h.2 q
        refine cw_iconst (v := 1) dX11_restore_30 (by decide) ?_
        refine cw_goto (tgt := 35) dX11_restore_31 (by decide) ?_
        refine cw_iconst (v := 0) dX11_restore_35 (by decide) ?_
        obtain ⟨v_36, J_36, hc_36, h⟩ := h
        refine cw_callV (o := 0) (As := [.int 0, .int 1, .int 0]) hc_36 okX11_fails rfl gX11_restore_X11_fails (by decide) (show 0 < 11 by decide) rfl (ci := 9) rfl rfl (Nat.le_of_ble_eq_true rfl) dX11_restore_36 ?_
        refine cw_if_eq (tgt := 44) dX11_restore_39 (by decide) (fun q => ?_) (fun q => ?_)
        · have h := h.1 q
          refine cw_aload_n dX11_restore_44 1 rfl rfl ?_
          refine cw_bipush (v := 7) dX11_restore_45 (by decide) ?_
          refine cw_iload_n dX11_restore_47 2 rfl rfl ?_
          refine cw_iadd dX11_restore_48 ?_
          refine cw_iconst (v := 0) dX11_restore_49 (by decide) ?_
          obtain ⟨J_50, hc_50, h⟩ := h
          refine cw_callV (o := 0) (As := [.int (7 + x1), .int 0]) hc_50 okX11_copyBlock rfl gX11_restore_X11_copyBlock (by decide) (show 0 < 11 by decide) rfl (ci := 9) rfl rfl (Nat.le_of_ble_eq_true rfl) dX11_restore_50 ?_
          refine cw_aload_n dX11_restore_53 1 rfl rfl ?_
          refine cw_iconst (v := 0) dX11_restore_54 (by decide) ?_
          refine cw_putf (C := RX11) (T := TX11) (N := 20) (ci := 9) inX11_restore_RX11 tyX11 tyX11_ok nmX11 0 (show 0 < 11 by decide) rfl rfl 2 (by decide) (by decide +kernel) rfl rfl (show 2 < 20 by decide) rfl dX11_restore_55 ?_
          refine cw_aload_n dX11_restore_58 1 rfl rfl ?_
          refine cw_iconst (v := (-1)) dX11_restore_59 (by decide) ?_
          obtain ⟨v_60, J_60, hc_60, h⟩ := h
          refine cw_callV (o := 0) (As := [.int (-1)]) hc_60 okX11_sizeOf rfl gX11_restore_X11_sizeOf (by decide) (show 0 < 11 by decide) rfl (ci := 9) rfl rfl (Nat.le_of_ble_eq_true rfl) dX11_restore_60 ?_
          exact cw_iret rfl dX11_restore_63 h
        · have h := h.2 q
          refine cw_iconst (v := 0) dX11_restore_42 (by decide) ?_
          exact cw_iret rfl dX11_restore_43 h
  · have h := h.2 q
    refine cw_iconst (v := 1) dX11_restore_12 (by decide) ?_
    refine cw_goto (tgt := 17) dX11_restore_13 (by decide) ?_
    refine cw_iload_n dX11_restore_17 0 rfl rfl ?_
    refine cw_if_eq (tgt := 34) dX11_restore_18 (by decide) (fun q => ?_) (fun q => ?_)
    · have h := h.1 q
      refine cw_iconst (v := 0) dX11_restore_34 (by decide) ?_
      refine cw_iconst (v := 0) dX11_restore_35 (by decide) ?_
      obtain ⟨v_36, J_36, hc_36, h⟩ := h
      refine cw_callV (o := 0) (As := [.int 1, .int 0, .int 0]) hc_36 okX11_fails rfl gX11_restore_X11_fails (by decide) (show 0 < 11 by decide) rfl (ci := 9) rfl rfl (Nat.le_of_ble_eq_true rfl) dX11_restore_36 ?_
      refine cw_if_eq (tgt := 44) dX11_restore_39 (by decide) (fun q => ?_) (fun q => ?_)
      · have h := h.1 q
        refine cw_aload_n dX11_restore_44 1 rfl rfl ?_
        refine cw_bipush (v := 7) dX11_restore_45 (by decide) ?_
        refine cw_iload_n dX11_restore_47 2 rfl rfl ?_
        refine cw_iadd dX11_restore_48 ?_
        refine cw_iconst (v := 0) dX11_restore_49 (by decide) ?_
        obtain ⟨J_50, hc_50, h⟩ := h
        refine cw_callV (o := 0) (As := [.int (7 + x1), .int 0]) hc_50 okX11_copyBlock rfl gX11_restore_X11_copyBlock (by decide) (show 0 < 11 by decide) rfl (ci := 9) rfl rfl (Nat.le_of_ble_eq_true rfl) dX11_restore_50 ?_
        refine cw_aload_n dX11_restore_53 1 rfl rfl ?_
        refine cw_iconst (v := 0) dX11_restore_54 (by decide) ?_
        refine cw_putf (C := RX11) (T := TX11) (N := 20) (ci := 9) inX11_restore_RX11 tyX11 tyX11_ok nmX11 0 (show 0 < 11 by decide) rfl rfl 2 (by decide) (by decide +kernel) rfl rfl (show 2 < 20 by decide) rfl dX11_restore_55 ?_
        refine cw_aload_n dX11_restore_58 1 rfl rfl ?_
        refine cw_iconst (v := (-1)) dX11_restore_59 (by decide) ?_
        obtain ⟨v_60, J_60, hc_60, h⟩ := h
        refine cw_callV (o := 0) (As := [.int (-1)]) hc_60 okX11_sizeOf rfl gX11_restore_X11_sizeOf (by decide) (show 0 < 11 by decide) rfl (ci := 9) rfl rfl (Nat.le_of_ble_eq_true rfl) dX11_restore_60 ?_
        exact cw_iret rfl dX11_restore_63 h
      · have h := h.2 q
        refine cw_iconst (v := 0) dX11_restore_42 (by decide) ?_
        exact cw_iret rfl dX11_restore_43 h
    · have h := h.2 q
      refine cw_aload_n dX11_restore_21 1 rfl rfl ?_
      refine cw_getf (C := RX11) (T := TX11) (N := 20) (ci := 9) inX11_restore_RX11 0 (show 0 < 11 by decide) rfl rfl 1 (by decide) (by decide +kernel) rfl dX11_restore_22 ?_
      refine cw_iload_n dX11_restore_25 2 rfl rfl ?_
      obtain ⟨g_26, h⟩ := h
      refine cw_zald 2 (show 2 < 11 by decide) rfl 1 rfl dX11_restore_26 g_26 ?_
      refine cw_if_ne (tgt := 34) dX11_restore_27 (by decide) (fun q => ?_) (fun q => ?_)
      · have h := h.1 q
        refine cw_iconst (v := 0) dX11_restore_34 (by decide) ?_
        refine cw_iconst (v := 0) dX11_restore_35 (by decide) ?_
        obtain ⟨v_36, J_36, hc_36, h⟩ := h
        refine cw_callV (o := 0) (As := [.int 1, .int 0, .int 0]) hc_36 okX11_fails rfl gX11_restore_X11_fails (by decide) (show 0 < 11 by decide) rfl (ci := 9) rfl rfl (Nat.le_of_ble_eq_true rfl) dX11_restore_36 ?_
        refine cw_if_eq (tgt := 44) dX11_restore_39 (by decide) (fun q => ?_) (fun q => ?_)
        · have h := h.1 q
          refine cw_aload_n dX11_restore_44 1 rfl rfl ?_
          refine cw_bipush (v := 7) dX11_restore_45 (by decide) ?_
          refine cw_iload_n dX11_restore_47 2 rfl rfl ?_
          refine cw_iadd dX11_restore_48 ?_
          refine cw_iconst (v := 0) dX11_restore_49 (by decide) ?_
          obtain ⟨J_50, hc_50, h⟩ := h
          refine cw_callV (o := 0) (As := [.int (7 + x1), .int 0]) hc_50 okX11_copyBlock rfl gX11_restore_X11_copyBlock (by decide) (show 0 < 11 by decide) rfl (ci := 9) rfl rfl (Nat.le_of_ble_eq_true rfl) dX11_restore_50 ?_
          refine cw_aload_n dX11_restore_53 1 rfl rfl ?_
          refine cw_iconst (v := 0) dX11_restore_54 (by decide) ?_
          refine cw_putf (C := RX11) (T := TX11) (N := 20) (ci := 9) inX11_restore_RX11 tyX11 tyX11_ok nmX11 0 (show 0 < 11 by decide) rfl rfl 2 (by decide) (by decide +kernel) rfl rfl (show 2 < 20 by decide) rfl dX11_restore_55 ?_
          refine cw_aload_n dX11_restore_58 1 rfl rfl ?_
          refine cw_iconst (v := (-1)) dX11_restore_59 (by decide) ?_
          obtain ⟨v_60, J_60, hc_60, h⟩ := h
          refine cw_callV (o := 0) (As := [.int (-1)]) hc_60 okX11_sizeOf rfl gX11_restore_X11_sizeOf (by decide) (show 0 < 11 by decide) rfl (ci := 9) rfl rfl (Nat.le_of_ble_eq_true rfl) dX11_restore_60 ?_
          exact cw_iret rfl dX11_restore_63 h
        · have h := h.2 q
          refine cw_iconst (v := 0) dX11_restore_42 (by decide) ?_
          exact cw_iret rfl dX11_restore_43 h
      · have h := h.2 q
        refine cw_iconst (v := 1) dX11_restore_30 (by decide) ?_
        refine cw_goto (tgt := 35) dX11_restore_31 (by decide) ?_
        refine cw_iconst (v := 0) dX11_restore_35 (by decide) ?_
        obtain ⟨v_36, J_36, hc_36, h⟩ := h
        refine cw_callV (o := 0) (As := [.int 1, .int 1, .int 0]) hc_36 okX11_fails rfl gX11_restore_X11_fails (by decide) (show 0 < 11 by decide) rfl (ci := 9) rfl rfl (Nat.le_of_ble_eq_true rfl) dX11_restore_36 ?_
        refine cw_if_eq (tgt := 44) dX11_restore_39 (by decide) (fun q => ?_) (fun q => ?_)
        · have h := h.1 q
          refine cw_aload_n dX11_restore_44 1 rfl rfl ?_
          refine cw_bipush (v := 7) dX11_restore_45 (by decide) ?_
          refine cw_iload_n dX11_restore_47 2 rfl rfl ?_
          refine cw_iadd dX11_restore_48 ?_
          refine cw_iconst (v := 0) dX11_restore_49 (by decide) ?_
          obtain ⟨J_50, hc_50, h⟩ := h
          refine cw_callV (o := 0) (As := [.int (7 + x1), .int 0]) hc_50 okX11_copyBlock rfl gX11_restore_X11_copyBlock (by decide) (show 0 < 11 by decide) rfl (ci := 9) rfl rfl (Nat.le_of_ble_eq_true rfl) dX11_restore_50 ?_
          refine cw_aload_n dX11_restore_53 1 rfl rfl ?_
          refine cw_iconst (v := 0) dX11_restore_54 (by decide) ?_
          refine cw_putf (C := RX11) (T := TX11) (N := 20) (ci := 9) inX11_restore_RX11 tyX11 tyX11_ok nmX11 0 (show 0 < 11 by decide) rfl rfl 2 (by decide) (by decide +kernel) rfl rfl (show 2 < 20 by decide) rfl dX11_restore_55 ?_
          refine cw_aload_n dX11_restore_58 1 rfl rfl ?_
          refine cw_iconst (v := (-1)) dX11_restore_59 (by decide) ?_
          obtain ⟨v_60, J_60, hc_60, h⟩ := h
          refine cw_callV (o := 0) (As := [.int (-1)]) hc_60 okX11_sizeOf rfl gX11_restore_X11_sizeOf (by decide) (show 0 < 11 by decide) rfl (ci := 9) rfl rfl (Nat.le_of_ble_eq_true rfl) dX11_restore_60 ?_
          exact cw_iret rfl dX11_restore_63 h
        · have h := h.2 q
          refine cw_iconst (v := 0) dX11_restore_42 (by decide) ?_
          exact cw_iret rfl dX11_restore_43 h
abbrev bX11_robin_0_11 (K : cw_K) (r : Option Value) (J0 : cw_M) (x2 : Int32) (x3 : Int32) (x4 : Int32) (I : cw_M) : Prop := cw_B (cr_w K) mX11_robin (cw_Z (cr_w K) r J0) 0 0 I 11 [(0, .ref (cw_a (cr_w K) 0)), (2, .int x2), (3, .int x3), (4, .int x4)] []
set_option maxRecDepth 20000 in
set_option maxHeartbeats 4000000 in
theorem eX11_robin_0 {K : cw_K} {r : Option Value} {J0 I : cw_M} {x1 : Int32} (h : (∃ (v_6 : Int32) (J_6 : cw_M), cw_C (cr_w K) mX11_favourite [.ref (cw_a (cr_w K) 0), .int x1] I (some (.int v_6)) J_6 ∧ bX11_robin_0_11 K r J0 0 x1 v_6 J_6)) : cw_C (cr_w K) mX11_robin [.ref (cw_a (cr_w K) 0), .int x1] I r J0 := by
  refine cw_entry okX11_robin (Nat.le_of_ble_eq_true rfl) (show cw_B (cr_w K) mX11_robin (cw_Z (cr_w K) r J0) 0 0 I 0 [(0, .ref (cw_a (cr_w K) 0)), (1, .int x1)] [] from ?_)
  refine cw_iconst (v := 0) dX11_robin_0 (by decide) ?_
  refine cw_istore_n dX11_robin_1 rfl (by decide) rfl ?_
  refine cw_iload_n dX11_robin_2 2 rfl rfl ?_
  refine cw_istore_n dX11_robin_3 rfl (by decide) rfl ?_
  refine cw_aload_n dX11_robin_4 2 rfl rfl ?_
  refine cw_iload_n dX11_robin_5 0 rfl rfl ?_
  obtain ⟨v_6, J_6, hc_6, h⟩ := h
  refine cw_callV (o := 0) (As := [.int x1]) hc_6 okX11_favourite rfl gX11_robin_X11_favourite (by decide) (show 0 < 11 by decide) rfl (ci := 9) rfl rfl (Nat.le_of_ble_eq_true rfl) dX11_robin_6 ?_
  refine cw_istore dX11_robin_9 (by decide) rfl ?_
  refine cw_sub [3, 2, 1, 0] rfl ?_
  exact h
set_option maxRecDepth 20000 in
set_option maxHeartbeats 4000000 in
theorem tbX11_robin_0_11 {K : cw_K} {r : Option Value} {J0 I : cw_M} {x2 : Int32} {x3 : Int32} {x4 : Int32} (h : ((x4 = (-1) → (r = some (.int x2) ∧ J0 = I)) ∧ (¬ x4 = (-1) → (vp_in (2 + x4) 2120 ∧ (¬ ((cw_st I 1 (2 + x4).toNatClampNeg x3) 1 1) = 0 ∧ (∃ (v_43 : Int32) (J_43 : cw_M), cw_C (cr_w K) mX11_favourite [.ref (cw_a (cr_w K) 0), .int ((x3 + 1) - (x3 + 1) / ((cw_st I 1 (2 + x4).toNatClampNeg x3) 1 1) * ((cw_st I 1 (2 + x4).toNatClampNeg x3) 1 1))] (cw_st I 1 (2 + x4).toNatClampNeg x3) (some (.int v_43)) J_43 ∧ bX11_robin_0_11 K r J0 (x2 + 1) ((x3 + 1) - (x3 + 1) / ((cw_st I 1 (2 + x4).toNatClampNeg x3) 1 1) * ((cw_st I 1 (2 + x4).toNatClampNeg x3) 1 1)) v_43 J_43)))))) : bX11_robin_0_11 K r J0 x2 x3 x4 I := by
  refine cw_iload dX11_robin_11 3 rfl ?_
  refine cw_iconst (v := (-1)) dX11_robin_13 (by decide) ?_
  refine cw_icmp_eq (tgt := 51) dX11_robin_14 (by decide) (fun q => ?_) (fun q => ?_)
  · have h := h.1 q
    refine cw_iload_n dX11_robin_51 1 rfl rfl ?_
    exact cw_iret rfl dX11_robin_52 h
  · have h := h.2 q
    refine cw_aload_n dX11_robin_17 0 rfl rfl ?_
    refine cw_getf (C := RX11) (T := TX11) (N := 20) (ci := 9) inX11_robin_RX11 0 (show 0 < 11 by decide) rfl rfl 0 (by decide) (by decide +kernel) rfl dX11_robin_18 ?_
    refine cw_iconst (v := 2) dX11_robin_21 (by decide) ?_
    refine cw_iload dX11_robin_22 3 rfl ?_
    refine cw_iadd dX11_robin_24 ?_
    refine cw_iload_n dX11_robin_25 2 rfl rfl ?_
    obtain ⟨g_26, h⟩ := h
    refine cw_iast 1 (show 1 < 11 by decide) (fun _ => rfl) 0 rfl dX11_robin_26 g_26 ?_
    refine cw_iinc (v := x2 + 1) dX11_robin_27 (j := 1) rfl rfl (by decide) rfl ?_
    refine cw_iload_n dX11_robin_30 2 rfl rfl ?_
    refine cw_iconst (v := 1) dX11_robin_31 (by decide) ?_
    refine cw_iadd dX11_robin_32 ?_
    refine cw_aload_n dX11_robin_33 1 rfl rfl ?_
    refine cw_getf (C := RX11) (T := TX11) (N := 20) (ci := 9) inX11_robin_RX11 0 (show 0 < 11 by decide) rfl rfl 0 (by decide) (by decide +kernel) rfl dX11_robin_34 ?_
    refine cw_iconst (v := 1) dX11_robin_37 (by decide) ?_
    refine cw_ialdL (j := 1) 1 (show 1 < 11 by decide) rfl 0 rfl dX11_robin_38 rfl (by decide) (by decide) ?_
    obtain ⟨g0_39, h⟩ := h
    refine cw_irem dX11_robin_39 g0_39 ?_
    refine cw_istore_n dX11_robin_40 rfl (by decide) rfl ?_
    refine cw_aload_n dX11_robin_41 2 rfl rfl ?_
    refine cw_iload_n dX11_robin_42 0 rfl rfl ?_
    obtain ⟨v_43, J_43, hc_43, h⟩ := h
    refine cw_callV (o := 0) (As := [.int ((x3 + 1) - (x3 + 1) / ((cw_st I 1 (2 + x4).toNatClampNeg x3) 1 1) * ((cw_st I 1 (2 + x4).toNatClampNeg x3) 1 1))]) hc_43 okX11_favourite rfl gX11_robin_X11_favourite (by decide) (show 0 < 11 by decide) rfl (ci := 9) rfl rfl (Nat.le_of_ble_eq_true rfl) dX11_robin_43 ?_
    refine cw_istore dX11_robin_46 (by decide) rfl ?_
    refine cw_goto (tgt := 11) dX11_robin_48 (by decide) ?_
    refine cw_sub [3, 2, 1, 0] rfl ?_
    exact h
set_option maxRecDepth 20000 in
set_option maxHeartbeats 4000000 in
theorem eX11_rotate_0 {K : cw_K} {r : Option Value} {J0 I : cw_M} {x1 : Int32} (h : (∃ (v_2 : Int32) (J_2 : cw_M), cw_C (cr_w K) mX11_isSibling [.ref (cw_a (cr_w K) 0), .int x1] I (some (.int v_2)) J_2 ∧ ((¬ v_2 = 0 → ((v_2 = 0 → (∃ (v_35 : Int32) (J_35 : cw_M), cw_C (cr_w K) mX11_fails [.ref (cw_a (cr_w K) 0), .int 0, .int 0, .int 0] J_2 (some (.int v_35)) J_35 ∧ ((v_35 = 0 → (∃ J_45 : cw_M, cw_C (cr_w K) mX11_remember [.ref (cw_a (cr_w K) 0), .int 0] J_35 none J_45 ∧ (∃ (v_50 : Int32) (J_50 : cw_M), cw_C (cr_w K) mX11_turnCycle [.ref (cw_a (cr_w K) 0), .int x1] J_45 (some (.int v_50)) J_50 ∧ (r = some (.int v_50) ∧ J0 = J_50)))) ∧ (¬ v_35 = 0 → (r = some (.int 0) ∧ J0 = J_35))))) ∧ (¬ v_2 = 0 → (∃ (v_22 : Int32) (J_22 : cw_M), cw_C (cr_w K) mX11_findCycle [.ref (cw_a (cr_w K) 0), .int x1] J_2 (some (.int v_22)) J_22 ∧ ((¬ v_22 = (-1) → (∃ (v_35 : Int32) (J_35 : cw_M), cw_C (cr_w K) mX11_fails [.ref (cw_a (cr_w K) 0), .int 0, .int 0, .int 0] J_22 (some (.int v_35)) J_35 ∧ ((v_35 = 0 → (∃ J_45 : cw_M, cw_C (cr_w K) mX11_remember [.ref (cw_a (cr_w K) 0), .int 0] J_35 none J_45 ∧ (∃ (v_50 : Int32) (J_50 : cw_M), cw_C (cr_w K) mX11_turnCycle [.ref (cw_a (cr_w K) 0), .int x1] J_45 (some (.int v_50)) J_50 ∧ (r = some (.int v_50) ∧ J0 = J_50)))) ∧ (¬ v_35 = 0 → (r = some (.int 0) ∧ J0 = J_35))))) ∧ (v_22 = (-1) → (∃ (v_35 : Int32) (J_35 : cw_M), cw_C (cr_w K) mX11_fails [.ref (cw_a (cr_w K) 0), .int 0, .int 1, .int 0] J_22 (some (.int v_35)) J_35 ∧ ((v_35 = 0 → (∃ J_45 : cw_M, cw_C (cr_w K) mX11_remember [.ref (cw_a (cr_w K) 0), .int 0] J_35 none J_45 ∧ (∃ (v_50 : Int32) (J_50 : cw_M), cw_C (cr_w K) mX11_turnCycle [.ref (cw_a (cr_w K) 0), .int x1] J_45 (some (.int v_50)) J_50 ∧ (r = some (.int v_50) ∧ J0 = J_50)))) ∧ (¬ v_35 = 0 → (r = some (.int 0) ∧ J0 = J_35)))))))))) ∧ (v_2 = 0 → ((v_2 = 0 → (∃ (v_35 : Int32) (J_35 : cw_M), cw_C (cr_w K) mX11_fails [.ref (cw_a (cr_w K) 0), .int 1, .int 0, .int 0] J_2 (some (.int v_35)) J_35 ∧ ((v_35 = 0 → (∃ J_45 : cw_M, cw_C (cr_w K) mX11_remember [.ref (cw_a (cr_w K) 0), .int 0] J_35 none J_45 ∧ (∃ (v_50 : Int32) (J_50 : cw_M), cw_C (cr_w K) mX11_turnCycle [.ref (cw_a (cr_w K) 0), .int x1] J_45 (some (.int v_50)) J_50 ∧ (r = some (.int v_50) ∧ J0 = J_50)))) ∧ (¬ v_35 = 0 → (r = some (.int 0) ∧ J0 = J_35))))) ∧ (¬ v_2 = 0 → (∃ (v_22 : Int32) (J_22 : cw_M), cw_C (cr_w K) mX11_findCycle [.ref (cw_a (cr_w K) 0), .int x1] J_2 (some (.int v_22)) J_22 ∧ ((¬ v_22 = (-1) → (∃ (v_35 : Int32) (J_35 : cw_M), cw_C (cr_w K) mX11_fails [.ref (cw_a (cr_w K) 0), .int 1, .int 0, .int 0] J_22 (some (.int v_35)) J_35 ∧ ((v_35 = 0 → (∃ J_45 : cw_M, cw_C (cr_w K) mX11_remember [.ref (cw_a (cr_w K) 0), .int 0] J_35 none J_45 ∧ (∃ (v_50 : Int32) (J_50 : cw_M), cw_C (cr_w K) mX11_turnCycle [.ref (cw_a (cr_w K) 0), .int x1] J_45 (some (.int v_50)) J_50 ∧ (r = some (.int v_50) ∧ J0 = J_50)))) ∧ (¬ v_35 = 0 → (r = some (.int 0) ∧ J0 = J_35))))) ∧ (v_22 = (-1) → (∃ (v_35 : Int32) (J_35 : cw_M), cw_C (cr_w K) mX11_fails [.ref (cw_a (cr_w K) 0), .int 1, .int 1, .int 0] J_22 (some (.int v_35)) J_35 ∧ ((v_35 = 0 → (∃ J_45 : cw_M, cw_C (cr_w K) mX11_remember [.ref (cw_a (cr_w K) 0), .int 0] J_35 none J_45 ∧ (∃ (v_50 : Int32) (J_50 : cw_M), cw_C (cr_w K) mX11_turnCycle [.ref (cw_a (cr_w K) 0), .int x1] J_45 (some (.int v_50)) J_50 ∧ (r = some (.int v_50) ∧ J0 = J_50)))) ∧ (¬ v_35 = 0 → (r = some (.int 0) ∧ J0 = J_35))))))))))))) : cw_C (cr_w K) mX11_rotate [.ref (cw_a (cr_w K) 0), .int x1] I r J0 := by
  refine cw_entry okX11_rotate (Nat.le_of_ble_eq_true rfl) (show cw_B (cr_w K) mX11_rotate (cw_Z (cr_w K) r J0) 0 0 I 0 [(0, .ref (cw_a (cr_w K) 0)), (1, .int x1)] [] from ?_)
  refine cw_aload_n dX11_rotate_0 0 rfl rfl ?_
  refine cw_iload_n dX11_rotate_1 1 rfl rfl ?_
  obtain ⟨v_2, J_2, hc_2, h⟩ := h
  refine cw_callV (o := 0) (As := [.int x1]) hc_2 okX11_isSibling rfl gX11_rotate_X11_isSibling (by decide) (show 0 < 11 by decide) rfl (ci := 9) rfl rfl (Nat.le_of_ble_eq_true rfl) dX11_rotate_2 ?_
  refine cw_istore_n dX11_rotate_5 rfl (by decide) rfl ?_
  refine cw_aload_n dX11_rotate_6 1 rfl rfl ?_
  refine cw_iload_n dX11_rotate_7 0 rfl rfl ?_
  refine cw_if_ne (tgt := 15) dX11_rotate_8 (by decide) (fun q => ?_) (fun q => ?_)
  · have h := h.1 q
    refine cw_iconst (v := 0) dX11_rotate_15 (by decide) ?_
    refine cw_iload_n dX11_rotate_16 0 rfl rfl ?_
    refine cw_if_eq (tgt := 33) dX11_rotate_17 (by decide) (fun q => ?_) (fun q => ?_)
    · have h := h.1 q
      refine cw_iconst (v := 0) dX11_rotate_33 (by decide) ?_
      refine cw_iconst (v := 0) dX11_rotate_34 (by decide) ?_
      obtain ⟨v_35, J_35, hc_35, h⟩ := h
      refine cw_callV (o := 0) (As := [.int 0, .int 0, .int 0]) hc_35 okX11_fails rfl gX11_rotate_X11_fails (by decide) (show 0 < 11 by decide) rfl (ci := 9) rfl rfl (Nat.le_of_ble_eq_true rfl) dX11_rotate_35 ?_
      refine cw_if_eq (tgt := 43) dX11_rotate_38 (by decide) (fun q => ?_) (fun q => ?_)
      · have h := h.1 q
        refine cw_aload_n dX11_rotate_43 1 rfl rfl ?_
        refine cw_iconst (v := 0) dX11_rotate_44 (by decide) ?_
        obtain ⟨J_45, hc_45, h⟩ := h
        refine cw_callV (o := 0) (As := [.int 0]) hc_45 okX11_remember rfl gX11_rotate_X11_remember (by decide) (show 0 < 11 by decide) rfl (ci := 9) rfl rfl (Nat.le_of_ble_eq_true rfl) dX11_rotate_45 ?_
        refine cw_aload_n dX11_rotate_48 1 rfl rfl ?_
        refine cw_iload_n dX11_rotate_49 2 rfl rfl ?_
        obtain ⟨v_50, J_50, hc_50, h⟩ := h
        refine cw_callV (o := 0) (As := [.int x1]) hc_50 okX11_turnCycle rfl gX11_rotate_X11_turnCycle (by decide) (show 0 < 11 by decide) rfl (ci := 9) rfl rfl (Nat.le_of_ble_eq_true rfl) dX11_rotate_50 ?_
        exact cw_iret rfl dX11_rotate_53 h
      · have h := h.2 q
        refine cw_iconst (v := 0) dX11_rotate_41 (by decide) ?_
        exact cw_iret rfl dX11_rotate_42 h
    · have h := h.2 q
      refine cw_aload_n dX11_rotate_20 1 rfl rfl ?_
      refine cw_iload_n dX11_rotate_21 2 rfl rfl ?_
      obtain ⟨v_22, J_22, hc_22, h⟩ := h
      refine cw_callV (o := 0) (As := [.int x1]) hc_22 okX11_findCycle rfl gX11_rotate_X11_findCycle (by decide) (show 0 < 11 by decide) rfl (ci := 9) rfl rfl (Nat.le_of_ble_eq_true rfl) dX11_rotate_22 ?_
      refine cw_iconst (v := (-1)) dX11_rotate_25 (by decide) ?_
      refine cw_icmp_ne (tgt := 33) dX11_rotate_26 (by decide) (fun q => ?_) (fun q => ?_)
      · have h := h.1 q
        refine cw_iconst (v := 0) dX11_rotate_33 (by decide) ?_
        refine cw_iconst (v := 0) dX11_rotate_34 (by decide) ?_
        obtain ⟨v_35, J_35, hc_35, h⟩ := h
        refine cw_callV (o := 0) (As := [.int 0, .int 0, .int 0]) hc_35 okX11_fails rfl gX11_rotate_X11_fails (by decide) (show 0 < 11 by decide) rfl (ci := 9) rfl rfl (Nat.le_of_ble_eq_true rfl) dX11_rotate_35 ?_
        refine cw_if_eq (tgt := 43) dX11_rotate_38 (by decide) (fun q => ?_) (fun q => ?_)
        · have h := h.1 q
          refine cw_aload_n dX11_rotate_43 1 rfl rfl ?_
          refine cw_iconst (v := 0) dX11_rotate_44 (by decide) ?_
          obtain ⟨J_45, hc_45, h⟩ := h
          refine cw_callV (o := 0) (As := [.int 0]) hc_45 okX11_remember rfl gX11_rotate_X11_remember (by decide) (show 0 < 11 by decide) rfl (ci := 9) rfl rfl (Nat.le_of_ble_eq_true rfl) dX11_rotate_45 ?_
          refine cw_aload_n dX11_rotate_48 1 rfl rfl ?_
          refine cw_iload_n dX11_rotate_49 2 rfl rfl ?_
          obtain ⟨v_50, J_50, hc_50, h⟩ := h
          refine cw_callV (o := 0) (As := [.int x1]) hc_50 okX11_turnCycle rfl gX11_rotate_X11_turnCycle (by decide) (show 0 < 11 by decide) rfl (ci := 9) rfl rfl (Nat.le_of_ble_eq_true rfl) dX11_rotate_50 ?_
          exact cw_iret rfl dX11_rotate_53 h
        · have h := h.2 q
          refine cw_iconst (v := 0) dX11_rotate_41 (by decide) ?_
          exact cw_iret rfl dX11_rotate_42 h
      · have h := h.2 q
        refine cw_iconst (v := 1) dX11_rotate_29 (by decide) ?_
        refine cw_goto (tgt := 34) dX11_rotate_30 (by decide) ?_
        refine cw_iconst (v := 0) dX11_rotate_34 (by decide) ?_
        obtain ⟨v_35, J_35, hc_35, h⟩ := h
        refine cw_callV (o := 0) (As := [.int 0, .int 1, .int 0]) hc_35 okX11_fails rfl gX11_rotate_X11_fails (by decide) (show 0 < 11 by decide) rfl (ci := 9) rfl rfl (Nat.le_of_ble_eq_true rfl) dX11_rotate_35 ?_
        refine cw_if_eq (tgt := 43) dX11_rotate_38 (by decide) (fun q => ?_) (fun q => ?_)
        · have h := h.1 q
          refine cw_aload_n dX11_rotate_43 1 rfl rfl ?_
          refine cw_iconst (v := 0) dX11_rotate_44 (by decide) ?_
          obtain ⟨J_45, hc_45, h⟩ := h
          refine cw_callV (o := 0) (As := [.int 0]) hc_45 okX11_remember rfl gX11_rotate_X11_remember (by decide) (show 0 < 11 by decide) rfl (ci := 9) rfl rfl (Nat.le_of_ble_eq_true rfl) dX11_rotate_45 ?_
          refine cw_aload_n dX11_rotate_48 1 rfl rfl ?_
          refine cw_iload_n dX11_rotate_49 2 rfl rfl ?_
          obtain ⟨v_50, J_50, hc_50, h⟩ := h
          refine cw_callV (o := 0) (As := [.int x1]) hc_50 okX11_turnCycle rfl gX11_rotate_X11_turnCycle (by decide) (show 0 < 11 by decide) rfl (ci := 9) rfl rfl (Nat.le_of_ble_eq_true rfl) dX11_rotate_50 ?_
          exact cw_iret rfl dX11_rotate_53 h
        · have h := h.2 q
          refine cw_iconst (v := 0) dX11_rotate_41 (by decide) ?_
          exact cw_iret rfl dX11_rotate_42 h
  · have h := h.2 q
    refine cw_iconst (v := 1) dX11_rotate_11 (by decide) ?_
    refine cw_goto (tgt := 16) dX11_rotate_12 (by decide) ?_
    refine cw_iload_n dX11_rotate_16 0 rfl rfl ?_
    refine cw_if_eq (tgt := 33) dX11_rotate_17 (by decide) (fun q => ?_) (fun q => ?_)
    · have h := h.1 q
      refine cw_iconst (v := 0) dX11_rotate_33 (by decide) ?_
      refine cw_iconst (v := 0) dX11_rotate_34 (by decide) ?_
      obtain ⟨v_35, J_35, hc_35, h⟩ := h
      refine cw_callV (o := 0) (As := [.int 1, .int 0, .int 0]) hc_35 okX11_fails rfl gX11_rotate_X11_fails (by decide) (show 0 < 11 by decide) rfl (ci := 9) rfl rfl (Nat.le_of_ble_eq_true rfl) dX11_rotate_35 ?_
      refine cw_if_eq (tgt := 43) dX11_rotate_38 (by decide) (fun q => ?_) (fun q => ?_)
      · have h := h.1 q
        refine cw_aload_n dX11_rotate_43 1 rfl rfl ?_
        refine cw_iconst (v := 0) dX11_rotate_44 (by decide) ?_
        obtain ⟨J_45, hc_45, h⟩ := h
        refine cw_callV (o := 0) (As := [.int 0]) hc_45 okX11_remember rfl gX11_rotate_X11_remember (by decide) (show 0 < 11 by decide) rfl (ci := 9) rfl rfl (Nat.le_of_ble_eq_true rfl) dX11_rotate_45 ?_
        refine cw_aload_n dX11_rotate_48 1 rfl rfl ?_
        refine cw_iload_n dX11_rotate_49 2 rfl rfl ?_
        obtain ⟨v_50, J_50, hc_50, h⟩ := h
        refine cw_callV (o := 0) (As := [.int x1]) hc_50 okX11_turnCycle rfl gX11_rotate_X11_turnCycle (by decide) (show 0 < 11 by decide) rfl (ci := 9) rfl rfl (Nat.le_of_ble_eq_true rfl) dX11_rotate_50 ?_
        exact cw_iret rfl dX11_rotate_53 h
      · have h := h.2 q
        refine cw_iconst (v := 0) dX11_rotate_41 (by decide) ?_
        exact cw_iret rfl dX11_rotate_42 h
    · have h := h.2 q
      refine cw_aload_n dX11_rotate_20 1 rfl rfl ?_
      refine cw_iload_n dX11_rotate_21 2 rfl rfl ?_
      obtain ⟨v_22, J_22, hc_22, h⟩ := h
      refine cw_callV (o := 0) (As := [.int x1]) hc_22 okX11_findCycle rfl gX11_rotate_X11_findCycle (by decide) (show 0 < 11 by decide) rfl (ci := 9) rfl rfl (Nat.le_of_ble_eq_true rfl) dX11_rotate_22 ?_
      refine cw_iconst (v := (-1)) dX11_rotate_25 (by decide) ?_
      refine cw_icmp_ne (tgt := 33) dX11_rotate_26 (by decide) (fun q => ?_) (fun q => ?_)
      · have h := h.1 q
        refine cw_iconst (v := 0) dX11_rotate_33 (by decide) ?_
        refine cw_iconst (v := 0) dX11_rotate_34 (by decide) ?_
        obtain ⟨v_35, J_35, hc_35, h⟩ := h
        refine cw_callV (o := 0) (As := [.int 1, .int 0, .int 0]) hc_35 okX11_fails rfl gX11_rotate_X11_fails (by decide) (show 0 < 11 by decide) rfl (ci := 9) rfl rfl (Nat.le_of_ble_eq_true rfl) dX11_rotate_35 ?_
        refine cw_if_eq (tgt := 43) dX11_rotate_38 (by decide) (fun q => ?_) (fun q => ?_)
        · have h := h.1 q
          refine cw_aload_n dX11_rotate_43 1 rfl rfl ?_
          refine cw_iconst (v := 0) dX11_rotate_44 (by decide) ?_
          obtain ⟨J_45, hc_45, h⟩ := h
          refine cw_callV (o := 0) (As := [.int 0]) hc_45 okX11_remember rfl gX11_rotate_X11_remember (by decide) (show 0 < 11 by decide) rfl (ci := 9) rfl rfl (Nat.le_of_ble_eq_true rfl) dX11_rotate_45 ?_
          refine cw_aload_n dX11_rotate_48 1 rfl rfl ?_
          refine cw_iload_n dX11_rotate_49 2 rfl rfl ?_
          obtain ⟨v_50, J_50, hc_50, h⟩ := h
          refine cw_callV (o := 0) (As := [.int x1]) hc_50 okX11_turnCycle rfl gX11_rotate_X11_turnCycle (by decide) (show 0 < 11 by decide) rfl (ci := 9) rfl rfl (Nat.le_of_ble_eq_true rfl) dX11_rotate_50 ?_
          exact cw_iret rfl dX11_rotate_53 h
        · have h := h.2 q
          refine cw_iconst (v := 0) dX11_rotate_41 (by decide) ?_
          exact cw_iret rfl dX11_rotate_42 h
      · have h := h.2 q
        refine cw_iconst (v := 1) dX11_rotate_29 (by decide) ?_
        refine cw_goto (tgt := 34) dX11_rotate_30 (by decide) ?_
        refine cw_iconst (v := 0) dX11_rotate_34 (by decide) ?_
        obtain ⟨v_35, J_35, hc_35, h⟩ := h
        refine cw_callV (o := 0) (As := [.int 1, .int 1, .int 0]) hc_35 okX11_fails rfl gX11_rotate_X11_fails (by decide) (show 0 < 11 by decide) rfl (ci := 9) rfl rfl (Nat.le_of_ble_eq_true rfl) dX11_rotate_35 ?_
        refine cw_if_eq (tgt := 43) dX11_rotate_38 (by decide) (fun q => ?_) (fun q => ?_)
        · have h := h.1 q
          refine cw_aload_n dX11_rotate_43 1 rfl rfl ?_
          refine cw_iconst (v := 0) dX11_rotate_44 (by decide) ?_
          obtain ⟨J_45, hc_45, h⟩ := h
          refine cw_callV (o := 0) (As := [.int 0]) hc_45 okX11_remember rfl gX11_rotate_X11_remember (by decide) (show 0 < 11 by decide) rfl (ci := 9) rfl rfl (Nat.le_of_ble_eq_true rfl) dX11_rotate_45 ?_
          refine cw_aload_n dX11_rotate_48 1 rfl rfl ?_
          refine cw_iload_n dX11_rotate_49 2 rfl rfl ?_
          obtain ⟨v_50, J_50, hc_50, h⟩ := h
          refine cw_callV (o := 0) (As := [.int x1]) hc_50 okX11_turnCycle rfl gX11_rotate_X11_turnCycle (by decide) (show 0 < 11 by decide) rfl (ci := 9) rfl rfl (Nat.le_of_ble_eq_true rfl) dX11_rotate_50 ?_
          exact cw_iret rfl dX11_rotate_53 h
        · have h := h.2 q
          refine cw_iconst (v := 0) dX11_rotate_41 (by decide) ?_
          exact cw_iret rfl dX11_rotate_42 h
set_option maxRecDepth 20000 in
set_option maxHeartbeats 4000000 in
theorem eX11_roundRobin_0 {K : cw_K} {r : Option Value} {J0 I : cw_M} {x1 : Int32} (h : (∃ (v_3 : Int32) (J_3 : cw_M), cw_C (cr_w K) mX11_isSibling [.ref (cw_a (cr_w K) 0), .int x1] I (some (.int v_3)) J_3 ∧ ((¬ v_3 = 0 → (∃ (v_16 : Int32) (J_16 : cw_M), cw_C (cr_w K) mX11_fails [.ref (cw_a (cr_w K) 0), .int 0, .int 0, .int 0] J_3 (some (.int v_16)) J_16 ∧ ((v_16 = 0 → (∃ J_26 : cw_M, cw_C (cr_w K) mX11_remember [.ref (cw_a (cr_w K) 0), .int 0] J_16 none J_26 ∧ (∃ (v_31 : Int32) (J_31 : cw_M), cw_C (cr_w K) mX11_robin [.ref (cw_a (cr_w K) 0), .int x1] J_26 (some (.int v_31)) J_31 ∧ (r = some (.int v_31) ∧ J0 = J_31)))) ∧ (¬ v_16 = 0 → (r = some (.int 0) ∧ J0 = J_16))))) ∧ (v_3 = 0 → (∃ (v_16 : Int32) (J_16 : cw_M), cw_C (cr_w K) mX11_fails [.ref (cw_a (cr_w K) 0), .int 1, .int 0, .int 0] J_3 (some (.int v_16)) J_16 ∧ ((v_16 = 0 → (∃ J_26 : cw_M, cw_C (cr_w K) mX11_remember [.ref (cw_a (cr_w K) 0), .int 0] J_16 none J_26 ∧ (∃ (v_31 : Int32) (J_31 : cw_M), cw_C (cr_w K) mX11_robin [.ref (cw_a (cr_w K) 0), .int x1] J_26 (some (.int v_31)) J_31 ∧ (r = some (.int v_31) ∧ J0 = J_31)))) ∧ (¬ v_16 = 0 → (r = some (.int 0) ∧ J0 = J_16)))))))) : cw_C (cr_w K) mX11_roundRobin [.ref (cw_a (cr_w K) 0), .int x1] I r J0 := by
  refine cw_entry okX11_roundRobin (Nat.le_of_ble_eq_true rfl) (show cw_B (cr_w K) mX11_roundRobin (cw_Z (cr_w K) r J0) 0 0 I 0 [(0, .ref (cw_a (cr_w K) 0)), (1, .int x1)] [] from ?_)
  refine cw_aload_n dX11_roundRobin_0 0 rfl rfl ?_
  refine cw_aload_n dX11_roundRobin_1 0 rfl rfl ?_
  refine cw_iload_n dX11_roundRobin_2 1 rfl rfl ?_
  obtain ⟨v_3, J_3, hc_3, h⟩ := h
  refine cw_callV (o := 0) (As := [.int x1]) hc_3 okX11_isSibling rfl gX11_roundRobin_X11_isSibling (by decide) (show 0 < 11 by decide) rfl (ci := 9) rfl rfl (Nat.le_of_ble_eq_true rfl) dX11_roundRobin_3 ?_
  refine cw_if_ne (tgt := 13) dX11_roundRobin_6 (by decide) (fun q => ?_) (fun q => ?_)
  · have h := h.1 q
    refine cw_iconst (v := 0) dX11_roundRobin_13 (by decide) ?_
    refine cw_iconst (v := 0) dX11_roundRobin_14 (by decide) ?_
    refine cw_iconst (v := 0) dX11_roundRobin_15 (by decide) ?_
    obtain ⟨v_16, J_16, hc_16, h⟩ := h
    refine cw_callV (o := 0) (As := [.int 0, .int 0, .int 0]) hc_16 okX11_fails rfl gX11_roundRobin_X11_fails (by decide) (show 0 < 11 by decide) rfl (ci := 9) rfl rfl (Nat.le_of_ble_eq_true rfl) dX11_roundRobin_16 ?_
    refine cw_if_eq (tgt := 24) dX11_roundRobin_19 (by decide) (fun q => ?_) (fun q => ?_)
    · have h := h.1 q
      refine cw_aload_n dX11_roundRobin_24 0 rfl rfl ?_
      refine cw_iconst (v := 0) dX11_roundRobin_25 (by decide) ?_
      obtain ⟨J_26, hc_26, h⟩ := h
      refine cw_callV (o := 0) (As := [.int 0]) hc_26 okX11_remember rfl gX11_roundRobin_X11_remember (by decide) (show 0 < 11 by decide) rfl (ci := 9) rfl rfl (Nat.le_of_ble_eq_true rfl) dX11_roundRobin_26 ?_
      refine cw_aload_n dX11_roundRobin_29 0 rfl rfl ?_
      refine cw_iload_n dX11_roundRobin_30 1 rfl rfl ?_
      obtain ⟨v_31, J_31, hc_31, h⟩ := h
      refine cw_callV (o := 0) (As := [.int x1]) hc_31 okX11_robin rfl gX11_roundRobin_X11_robin (by decide) (show 0 < 11 by decide) rfl (ci := 9) rfl rfl (Nat.le_of_ble_eq_true rfl) dX11_roundRobin_31 ?_
      exact cw_iret rfl dX11_roundRobin_34 h
    · have h := h.2 q
      refine cw_iconst (v := 0) dX11_roundRobin_22 (by decide) ?_
      exact cw_iret rfl dX11_roundRobin_23 h
  · have h := h.2 q
    refine cw_iconst (v := 1) dX11_roundRobin_9 (by decide) ?_
    refine cw_goto (tgt := 14) dX11_roundRobin_10 (by decide) ?_
    refine cw_iconst (v := 0) dX11_roundRobin_14 (by decide) ?_
    refine cw_iconst (v := 0) dX11_roundRobin_15 (by decide) ?_
    obtain ⟨v_16, J_16, hc_16, h⟩ := h
    refine cw_callV (o := 0) (As := [.int 1, .int 0, .int 0]) hc_16 okX11_fails rfl gX11_roundRobin_X11_fails (by decide) (show 0 < 11 by decide) rfl (ci := 9) rfl rfl (Nat.le_of_ble_eq_true rfl) dX11_roundRobin_16 ?_
    refine cw_if_eq (tgt := 24) dX11_roundRobin_19 (by decide) (fun q => ?_) (fun q => ?_)
    · have h := h.1 q
      refine cw_aload_n dX11_roundRobin_24 0 rfl rfl ?_
      refine cw_iconst (v := 0) dX11_roundRobin_25 (by decide) ?_
      obtain ⟨J_26, hc_26, h⟩ := h
      refine cw_callV (o := 0) (As := [.int 0]) hc_26 okX11_remember rfl gX11_roundRobin_X11_remember (by decide) (show 0 < 11 by decide) rfl (ci := 9) rfl rfl (Nat.le_of_ble_eq_true rfl) dX11_roundRobin_26 ?_
      refine cw_aload_n dX11_roundRobin_29 0 rfl rfl ?_
      refine cw_iload_n dX11_roundRobin_30 1 rfl rfl ?_
      obtain ⟨v_31, J_31, hc_31, h⟩ := h
      refine cw_callV (o := 0) (As := [.int x1]) hc_31 okX11_robin rfl gX11_roundRobin_X11_robin (by decide) (show 0 < 11 by decide) rfl (ci := 9) rfl rfl (Nat.le_of_ble_eq_true rfl) dX11_roundRobin_31 ?_
      exact cw_iret rfl dX11_roundRobin_34 h
    · have h := h.2 q
      refine cw_iconst (v := 0) dX11_roundRobin_22 (by decide) ?_
      exact cw_iret rfl dX11_roundRobin_23 h
abbrev bX11_runScript_0_42 (K : cw_K) (r : Option Value) (J0 : cw_M) (x1 : Int32) (x2 : Int32) (I : cw_M) : Prop := cw_B (cr_w K) mX11_runScript (cw_Z (cr_w K) r J0) 0 0 I 42 [(0, .ref (cw_a (cr_w K) 0)), (1, .int x1), (2, .int x2)] []
set_option maxRecDepth 20000 in
set_option maxHeartbeats 4000000 in
theorem eX11_runScript_0 {K : cw_K} {r : Option Value} {J0 I : cw_M} (h : (∃ J_1 : cw_M, cw_C (cr_w K) mX11_begin [.ref (cw_a (cr_w K) 0)] I none J_1 ∧ (∃ (v_5 : Int32) (J_5 : cw_M), cw_C (cr_w K) mX11_parseScript [.ref (cw_a (cr_w K) 0)] J_1 (some (.int v_5)) J_5 ∧ ((¬ v_5 = (-1) → (∃ (v_27 : Int32) (J_27 : cw_M), cw_C (cr_w K) mX11_fails [.ref (cw_a (cr_w K) 0), .int 0, .int 0, .int 0] (cw_st J_5 0 4 0) (some (.int v_27)) J_27 ∧ ((v_27 = 0 → (∃ J_37 : cw_M, cw_C (cr_w K) mX11_remember [.ref (cw_a (cr_w K) 0), .int 0] J_27 none J_37 ∧ bX11_runScript_0_42 K r J0 v_5 0 J_37)) ∧ (¬ v_27 = 0 → (r = some (.int 0) ∧ J0 = J_27))))) ∧ (v_5 = (-1) → (∃ (v_27 : Int32) (J_27 : cw_M), cw_C (cr_w K) mX11_fails [.ref (cw_a (cr_w K) 0), .int 1, .int 0, .int 0] (cw_st J_5 0 4 0) (some (.int v_27)) J_27 ∧ ((v_27 = 0 → (∃ J_37 : cw_M, cw_C (cr_w K) mX11_remember [.ref (cw_a (cr_w K) 0), .int 0] J_27 none J_37 ∧ bX11_runScript_0_42 K r J0 v_5 0 J_37)) ∧ (¬ v_27 = 0 → (r = some (.int 0) ∧ J0 = J_27))))))))) : cw_C (cr_w K) mX11_runScript [.ref (cw_a (cr_w K) 0)] I r J0 := by
  refine cw_entry okX11_runScript (Nat.le_of_ble_eq_true rfl) (show cw_B (cr_w K) mX11_runScript (cw_Z (cr_w K) r J0) 0 0 I 0 [(0, .ref (cw_a (cr_w K) 0))] [] from ?_)
  refine cw_aload_n dX11_runScript_0 0 rfl rfl ?_
  obtain ⟨J_1, hc_1, h⟩ := h
  refine cw_callV (o := 0) (As := []) hc_1 okX11_begin rfl gX11_runScript_X11_begin (by decide) (show 0 < 11 by decide) rfl (ci := 9) rfl rfl (Nat.le_of_ble_eq_true rfl) dX11_runScript_1 ?_
  refine cw_aload_n dX11_runScript_4 0 rfl rfl ?_
  obtain ⟨v_5, J_5, hc_5, h⟩ := h
  refine cw_callV (o := 0) (As := []) hc_5 okX11_parseScript rfl gX11_runScript_X11_parseScript (by decide) (show 0 < 11 by decide) rfl (ci := 9) rfl rfl (Nat.le_of_ble_eq_true rfl) dX11_runScript_5 ?_
  refine cw_istore_n dX11_runScript_8 rfl (by decide) rfl ?_
  refine cw_aload_n dX11_runScript_9 1 rfl rfl ?_
  refine cw_iconst (v := 0) dX11_runScript_10 (by decide) ?_
  refine cw_putf (C := RX11) (T := TX11) (N := 20) (ci := 9) inX11_runScript_RX11 tyX11 tyX11_ok nmX11 0 (show 0 < 11 by decide) rfl rfl 4 (by decide) (by decide +kernel) rfl rfl (show 4 < 20 by decide) rfl dX11_runScript_11 ?_
  refine cw_aload_n dX11_runScript_14 1 rfl rfl ?_
  refine cw_iload_n dX11_runScript_15 0 rfl rfl ?_
  refine cw_iconst (v := (-1)) dX11_runScript_16 (by decide) ?_
  refine cw_icmp_ne (tgt := 24) dX11_runScript_17 (by decide) (fun q => ?_) (fun q => ?_)
  · have h := h.1 q
    refine cw_iconst (v := 0) dX11_runScript_24 (by decide) ?_
    refine cw_iconst (v := 0) dX11_runScript_25 (by decide) ?_
    refine cw_iconst (v := 0) dX11_runScript_26 (by decide) ?_
    obtain ⟨v_27, J_27, hc_27, h⟩ := h
    refine cw_callV (o := 0) (As := [.int 0, .int 0, .int 0]) hc_27 okX11_fails rfl gX11_runScript_X11_fails (by decide) (show 0 < 11 by decide) rfl (ci := 9) rfl rfl (Nat.le_of_ble_eq_true rfl) dX11_runScript_27 ?_
    refine cw_if_eq (tgt := 35) dX11_runScript_30 (by decide) (fun q => ?_) (fun q => ?_)
    · have h := h.1 q
      refine cw_aload_n dX11_runScript_35 1 rfl rfl ?_
      refine cw_iconst (v := 0) dX11_runScript_36 (by decide) ?_
      obtain ⟨J_37, hc_37, h⟩ := h
      refine cw_callV (o := 0) (As := [.int 0]) hc_37 okX11_remember rfl gX11_runScript_X11_remember (by decide) (show 0 < 11 by decide) rfl (ci := 9) rfl rfl (Nat.le_of_ble_eq_true rfl) dX11_runScript_37 ?_
      refine cw_iconst (v := 0) dX11_runScript_40 (by decide) ?_
      refine cw_istore_n dX11_runScript_41 rfl (by decide) rfl ?_
      refine cw_sub [2, 1, 0] rfl ?_
      exact h
    · have h := h.2 q
      refine cw_iconst (v := 0) dX11_runScript_33 (by decide) ?_
      exact cw_iret rfl dX11_runScript_34 h
  · have h := h.2 q
    refine cw_iconst (v := 1) dX11_runScript_20 (by decide) ?_
    refine cw_goto (tgt := 25) dX11_runScript_21 (by decide) ?_
    refine cw_iconst (v := 0) dX11_runScript_25 (by decide) ?_
    refine cw_iconst (v := 0) dX11_runScript_26 (by decide) ?_
    obtain ⟨v_27, J_27, hc_27, h⟩ := h
    refine cw_callV (o := 0) (As := [.int 1, .int 0, .int 0]) hc_27 okX11_fails rfl gX11_runScript_X11_fails (by decide) (show 0 < 11 by decide) rfl (ci := 9) rfl rfl (Nat.le_of_ble_eq_true rfl) dX11_runScript_27 ?_
    refine cw_if_eq (tgt := 35) dX11_runScript_30 (by decide) (fun q => ?_) (fun q => ?_)
    · have h := h.1 q
      refine cw_aload_n dX11_runScript_35 1 rfl rfl ?_
      refine cw_iconst (v := 0) dX11_runScript_36 (by decide) ?_
      obtain ⟨J_37, hc_37, h⟩ := h
      refine cw_callV (o := 0) (As := [.int 0]) hc_37 okX11_remember rfl gX11_runScript_X11_remember (by decide) (show 0 < 11 by decide) rfl (ci := 9) rfl rfl (Nat.le_of_ble_eq_true rfl) dX11_runScript_37 ?_
      refine cw_iconst (v := 0) dX11_runScript_40 (by decide) ?_
      refine cw_istore_n dX11_runScript_41 rfl (by decide) rfl ?_
      refine cw_sub [2, 1, 0] rfl ?_
      exact h
    · have h := h.2 q
      refine cw_iconst (v := 0) dX11_runScript_33 (by decide) ?_
      exact cw_iret rfl dX11_runScript_34 h
set_option maxRecDepth 20000 in
set_option maxHeartbeats 4000000 in
theorem tbX11_runScript_0_42 {K : cw_K} {r : Option Value} {J0 I : cw_M} {x1 : Int32} {x2 : Int32} (h : ((x1 ≤ x2 → (r = some (.int x1) ∧ J0 = I)) ∧ (¬ x1 ≤ x2 → (vp_in (x2 * 4) 120 ∧ (vp_in ((x2 * 4) + 1) 120 ∧ (vp_in ((x2 * 4) + 2) 120 ∧ (vp_in ((x2 * 4) + 3) 120 ∧ (∃ (v_82 : Int32) (J_82 : cw_M), cw_C (cr_w K) mX11_canDo [.ref (cw_a (cr_w K) 0), .int (I 10 (x2 * 4).toNatClampNeg), .int (I 10 ((x2 * 4) + 1).toNatClampNeg), .int (I 10 ((x2 * 4) + 2).toNatClampNeg), .int (I 10 ((x2 * 4) + 3).toNatClampNeg)] I (some (.int v_82)) J_82 ∧ ((¬ v_82 = 0 → (vp_in (x2 * 4) 120 ∧ (vp_in ((x2 * 4) + 1) 120 ∧ (vp_in ((x2 * 4) + 2) 120 ∧ (vp_in ((x2 * 4) + 3) 120 ∧ (∃ J_121 : cw_M, cw_C (cr_w K) mX11_doIt [.ref (cw_a (cr_w K) 0), .int (J_82 10 (x2 * 4).toNatClampNeg), .int (J_82 10 ((x2 * 4) + 1).toNatClampNeg), .int (J_82 10 ((x2 * 4) + 2).toNatClampNeg), .int (J_82 10 ((x2 * 4) + 3).toNatClampNeg)] J_82 none J_121 ∧ bX11_runScript_0_42 K r J0 x1 (x2 + 1) J_121)))))) ∧ (v_82 = 0 → (r = some (.int x2) ∧ J0 = J_82))))))))))) : bX11_runScript_0_42 K r J0 x1 x2 I := by
  refine cw_iload_n dX11_runScript_42 2 rfl rfl ?_
  refine cw_iload_n dX11_runScript_43 1 rfl rfl ?_
  refine cw_icmp_ge (tgt := 130) dX11_runScript_44 (by decide) (fun q => ?_) (fun q => ?_)
  · have h := h.1 q
    refine cw_iload_n dX11_runScript_130 1 rfl rfl ?_
    exact cw_iret rfl dX11_runScript_131 h
  · have h := h.2 q
    refine cw_iload_n dX11_runScript_47 2 rfl rfl ?_
    refine cw_iconst (v := 4) dX11_runScript_48 (by decide) ?_
    refine cw_imul dX11_runScript_49 ?_
    refine cw_istore_n dX11_runScript_50 rfl (by decide) rfl ?_
    refine cw_aload_n dX11_runScript_51 1 rfl rfl ?_
    refine cw_aload_n dX11_runScript_52 1 rfl rfl ?_
    refine cw_getf (C := RX11) (T := TX11) (N := 20) (ci := 9) inX11_runScript_RX11 0 (show 0 < 11 by decide) rfl rfl 19 (by decide) (by decide +kernel) rfl dX11_runScript_53 ?_
    refine cw_iload_n dX11_runScript_56 0 rfl rfl ?_
    obtain ⟨g_57, h⟩ := h
    refine cw_iald 10 (show 10 < 11 by decide) rfl 0 rfl dX11_runScript_57 g_57 ?_
    refine cw_aload_n dX11_runScript_58 1 rfl rfl ?_
    refine cw_getf (C := RX11) (T := TX11) (N := 20) (ci := 9) inX11_runScript_RX11 0 (show 0 < 11 by decide) rfl rfl 19 (by decide) (by decide +kernel) rfl dX11_runScript_59 ?_
    refine cw_iload_n dX11_runScript_62 0 rfl rfl ?_
    refine cw_iconst (v := 1) dX11_runScript_63 (by decide) ?_
    refine cw_iadd dX11_runScript_64 ?_
    obtain ⟨g_65, h⟩ := h
    refine cw_iald 10 (show 10 < 11 by decide) rfl 0 rfl dX11_runScript_65 g_65 ?_
    refine cw_aload_n dX11_runScript_66 1 rfl rfl ?_
    refine cw_getf (C := RX11) (T := TX11) (N := 20) (ci := 9) inX11_runScript_RX11 0 (show 0 < 11 by decide) rfl rfl 19 (by decide) (by decide +kernel) rfl dX11_runScript_67 ?_
    refine cw_iload_n dX11_runScript_70 0 rfl rfl ?_
    refine cw_iconst (v := 2) dX11_runScript_71 (by decide) ?_
    refine cw_iadd dX11_runScript_72 ?_
    obtain ⟨g_73, h⟩ := h
    refine cw_iald 10 (show 10 < 11 by decide) rfl 0 rfl dX11_runScript_73 g_73 ?_
    refine cw_aload_n dX11_runScript_74 1 rfl rfl ?_
    refine cw_getf (C := RX11) (T := TX11) (N := 20) (ci := 9) inX11_runScript_RX11 0 (show 0 < 11 by decide) rfl rfl 19 (by decide) (by decide +kernel) rfl dX11_runScript_75 ?_
    refine cw_iload_n dX11_runScript_78 0 rfl rfl ?_
    refine cw_iconst (v := 3) dX11_runScript_79 (by decide) ?_
    refine cw_iadd dX11_runScript_80 ?_
    obtain ⟨g_81, h⟩ := h
    refine cw_iald 10 (show 10 < 11 by decide) rfl 0 rfl dX11_runScript_81 g_81 ?_
    obtain ⟨v_82, J_82, hc_82, h⟩ := h
    refine cw_callV (o := 0) (As := [.int (I 10 (x2 * 4).toNatClampNeg), .int (I 10 ((x2 * 4) + 1).toNatClampNeg), .int (I 10 ((x2 * 4) + 2).toNatClampNeg), .int (I 10 ((x2 * 4) + 3).toNatClampNeg)]) hc_82 okX11_canDo rfl gX11_runScript_X11_canDo (by decide) (show 0 < 11 by decide) rfl (ci := 9) rfl rfl (Nat.le_of_ble_eq_true rfl) dX11_runScript_82 ?_
    refine cw_if_ne (tgt := 90) dX11_runScript_85 (by decide) (fun q => ?_) (fun q => ?_)
    · have h := h.1 q
      refine cw_aload_n dX11_runScript_90 1 rfl rfl ?_
      refine cw_aload_n dX11_runScript_91 1 rfl rfl ?_
      refine cw_getf (C := RX11) (T := TX11) (N := 20) (ci := 9) inX11_runScript_RX11 0 (show 0 < 11 by decide) rfl rfl 19 (by decide) (by decide +kernel) rfl dX11_runScript_92 ?_
      refine cw_iload_n dX11_runScript_95 0 rfl rfl ?_
      obtain ⟨g_96, h⟩ := h
      refine cw_iald 10 (show 10 < 11 by decide) rfl 0 rfl dX11_runScript_96 g_96 ?_
      refine cw_aload_n dX11_runScript_97 1 rfl rfl ?_
      refine cw_getf (C := RX11) (T := TX11) (N := 20) (ci := 9) inX11_runScript_RX11 0 (show 0 < 11 by decide) rfl rfl 19 (by decide) (by decide +kernel) rfl dX11_runScript_98 ?_
      refine cw_iload_n dX11_runScript_101 0 rfl rfl ?_
      refine cw_iconst (v := 1) dX11_runScript_102 (by decide) ?_
      refine cw_iadd dX11_runScript_103 ?_
      obtain ⟨g_104, h⟩ := h
      refine cw_iald 10 (show 10 < 11 by decide) rfl 0 rfl dX11_runScript_104 g_104 ?_
      refine cw_aload_n dX11_runScript_105 1 rfl rfl ?_
      refine cw_getf (C := RX11) (T := TX11) (N := 20) (ci := 9) inX11_runScript_RX11 0 (show 0 < 11 by decide) rfl rfl 19 (by decide) (by decide +kernel) rfl dX11_runScript_106 ?_
      refine cw_iload_n dX11_runScript_109 0 rfl rfl ?_
      refine cw_iconst (v := 2) dX11_runScript_110 (by decide) ?_
      refine cw_iadd dX11_runScript_111 ?_
      obtain ⟨g_112, h⟩ := h
      refine cw_iald 10 (show 10 < 11 by decide) rfl 0 rfl dX11_runScript_112 g_112 ?_
      refine cw_aload_n dX11_runScript_113 1 rfl rfl ?_
      refine cw_getf (C := RX11) (T := TX11) (N := 20) (ci := 9) inX11_runScript_RX11 0 (show 0 < 11 by decide) rfl rfl 19 (by decide) (by decide +kernel) rfl dX11_runScript_114 ?_
      refine cw_iload_n dX11_runScript_117 0 rfl rfl ?_
      refine cw_iconst (v := 3) dX11_runScript_118 (by decide) ?_
      refine cw_iadd dX11_runScript_119 ?_
      obtain ⟨g_120, h⟩ := h
      refine cw_iald 10 (show 10 < 11 by decide) rfl 0 rfl dX11_runScript_120 g_120 ?_
      obtain ⟨J_121, hc_121, h⟩ := h
      refine cw_callV (o := 0) (As := [.int (J_82 10 (x2 * 4).toNatClampNeg), .int (J_82 10 ((x2 * 4) + 1).toNatClampNeg), .int (J_82 10 ((x2 * 4) + 2).toNatClampNeg), .int (J_82 10 ((x2 * 4) + 3).toNatClampNeg)]) hc_121 okX11_doIt rfl gX11_runScript_X11_doIt (by decide) (show 0 < 11 by decide) rfl (ci := 9) rfl rfl (Nat.le_of_ble_eq_true rfl) dX11_runScript_121 ?_
      refine cw_iinc (v := x2 + 1) dX11_runScript_124 (j := 3) rfl rfl (by decide) rfl ?_
      refine cw_goto (tgt := 42) dX11_runScript_127 (by decide) ?_
      refine cw_sub [2, 3, 0] rfl ?_
      exact h
    · have h := h.2 q
      refine cw_iload_n dX11_runScript_88 3 rfl rfl ?_
      exact cw_iret rfl dX11_runScript_89 h
set_option maxRecDepth 20000 in
set_option maxHeartbeats 4000000 in
theorem eX11_satisfaction_0 {K : cw_K} {r : Option Value} {J0 I : cw_M} {x1 : Int32} (h : (∃ (v_3 : Int32) (J_3 : cw_M), cw_C (cr_w K) mX11_isSibling [.ref (cw_a (cr_w K) 0), .int x1] I (some (.int v_3)) J_3 ∧ ((¬ v_3 = 0 → (∃ (v_16 : Int32) (J_16 : cw_M), cw_C (cr_w K) mX11_fails [.ref (cw_a (cr_w K) 0), .int 0, .int 0, .int 0] J_3 (some (.int v_16)) J_16 ∧ ((v_16 = 0 → (∃ (v_26 : Int32) (J_26 : cw_M), cw_C (cr_w K) mX11_totalOf [.ref (cw_a (cr_w K) 0), .int x1] J_16 (some (.int v_26)) J_26 ∧ ((¬ v_26 = 0 → (∃ (v_38 : Int32) (J_38 : cw_M), cw_C (cr_w K) mX11_welfareOf [.ref (cw_a (cr_w K) 0), .int x1] J_26 (some (.int v_38)) J_38 ∧ (∃ (v_44 : Int32) (J_44 : cw_M), cw_C (cr_w K) mX11_totalOf [.ref (cw_a (cr_w K) 0), .int x1] J_38 (some (.int v_44)) J_44 ∧ (vf_n32 (FP.fdiv (FP.i2f v_38) (FP.i2f v_44)) ∧ (r = some (.float (FP.fdiv (FP.i2f v_38) (FP.i2f v_44))) ∧ J0 = J_44))))) ∧ (v_26 = 0 → (r = some (.float FP.fconst0) ∧ J0 = J_26))))) ∧ (¬ v_16 = 0 → (r = some (.float FP.fconst0) ∧ J0 = J_16))))) ∧ (v_3 = 0 → (∃ (v_16 : Int32) (J_16 : cw_M), cw_C (cr_w K) mX11_fails [.ref (cw_a (cr_w K) 0), .int 1, .int 0, .int 0] J_3 (some (.int v_16)) J_16 ∧ ((v_16 = 0 → (∃ (v_26 : Int32) (J_26 : cw_M), cw_C (cr_w K) mX11_totalOf [.ref (cw_a (cr_w K) 0), .int x1] J_16 (some (.int v_26)) J_26 ∧ ((¬ v_26 = 0 → (∃ (v_38 : Int32) (J_38 : cw_M), cw_C (cr_w K) mX11_welfareOf [.ref (cw_a (cr_w K) 0), .int x1] J_26 (some (.int v_38)) J_38 ∧ (∃ (v_44 : Int32) (J_44 : cw_M), cw_C (cr_w K) mX11_totalOf [.ref (cw_a (cr_w K) 0), .int x1] J_38 (some (.int v_44)) J_44 ∧ (vf_n32 (FP.fdiv (FP.i2f v_38) (FP.i2f v_44)) ∧ (r = some (.float (FP.fdiv (FP.i2f v_38) (FP.i2f v_44))) ∧ J0 = J_44))))) ∧ (v_26 = 0 → (r = some (.float FP.fconst0) ∧ J0 = J_26))))) ∧ (¬ v_16 = 0 → (r = some (.float FP.fconst0) ∧ J0 = J_16)))))))) : cw_C (cr_w K) mX11_satisfaction [.ref (cw_a (cr_w K) 0), .int x1] I r J0 := by
  refine cw_entry okX11_satisfaction (Nat.le_of_ble_eq_true rfl) (show cw_B (cr_w K) mX11_satisfaction (cw_Z (cr_w K) r J0) 0 0 I 0 [(0, .ref (cw_a (cr_w K) 0)), (1, .int x1)] [] from ?_)
  refine cw_aload_n dX11_satisfaction_0 0 rfl rfl ?_
  refine cw_aload_n dX11_satisfaction_1 0 rfl rfl ?_
  refine cw_iload_n dX11_satisfaction_2 1 rfl rfl ?_
  obtain ⟨v_3, J_3, hc_3, h⟩ := h
  refine cw_callV (o := 0) (As := [.int x1]) hc_3 okX11_isSibling rfl gX11_satisfaction_X11_isSibling (by decide) (show 0 < 11 by decide) rfl (ci := 9) rfl rfl (Nat.le_of_ble_eq_true rfl) dX11_satisfaction_3 ?_
  refine cw_if_ne (tgt := 13) dX11_satisfaction_6 (by decide) (fun q => ?_) (fun q => ?_)
  · have h := h.1 q
    refine cw_iconst (v := 0) dX11_satisfaction_13 (by decide) ?_
    refine cw_iconst (v := 0) dX11_satisfaction_14 (by decide) ?_
    refine cw_iconst (v := 0) dX11_satisfaction_15 (by decide) ?_
    obtain ⟨v_16, J_16, hc_16, h⟩ := h
    refine cw_callV (o := 0) (As := [.int 0, .int 0, .int 0]) hc_16 okX11_fails rfl gX11_satisfaction_X11_fails (by decide) (show 0 < 11 by decide) rfl (ci := 9) rfl rfl (Nat.le_of_ble_eq_true rfl) dX11_satisfaction_16 ?_
    refine cw_if_eq (tgt := 24) dX11_satisfaction_19 (by decide) (fun q => ?_) (fun q => ?_)
    · have h := h.1 q
      refine cw_aload_n dX11_satisfaction_24 0 rfl rfl ?_
      refine cw_iload_n dX11_satisfaction_25 1 rfl rfl ?_
      obtain ⟨v_26, J_26, hc_26, h⟩ := h
      refine cw_callV (o := 0) (As := [.int x1]) hc_26 okX11_totalOf rfl gX11_satisfaction_X11_totalOf (by decide) (show 0 < 11 by decide) rfl (ci := 9) rfl rfl (Nat.le_of_ble_eq_true rfl) dX11_satisfaction_26 ?_
      refine cw_if_ne (tgt := 36) dX11_satisfaction_29 (by decide) (fun q => ?_) (fun q => ?_)
      · have h := h.1 q
        refine cw_aload_n dX11_satisfaction_36 0 rfl rfl ?_
        refine cw_iload_n dX11_satisfaction_37 1 rfl rfl ?_
        obtain ⟨v_38, J_38, hc_38, h⟩ := h
        refine cw_callV (o := 0) (As := [.int x1]) hc_38 okX11_welfareOf rfl gX11_satisfaction_X11_welfareOf (by decide) (show 0 < 11 by decide) rfl (ci := 9) rfl rfl (Nat.le_of_ble_eq_true rfl) dX11_satisfaction_38 ?_
        refine cw_i2f dX11_satisfaction_41 ?_
        refine cw_aload_n dX11_satisfaction_42 0 rfl rfl ?_
        refine cw_iload_n dX11_satisfaction_43 1 rfl rfl ?_
        obtain ⟨v_44, J_44, hc_44, h⟩ := h
        refine cw_callV (o := 0) (As := [.int x1]) hc_44 okX11_totalOf rfl gX11_satisfaction_X11_totalOf (by decide) (show 0 < 11 by decide) rfl (ci := 9) rfl rfl (Nat.le_of_ble_eq_true rfl) dX11_satisfaction_44 ?_
        refine cw_i2f dX11_satisfaction_47 ?_
        obtain ⟨g_48, h⟩ := h
        refine cw_fdiv dX11_satisfaction_48 g_48 ?_
        exact cw_fret rfl dX11_satisfaction_49 h
      · have h := h.2 q
        refine cw_fconst0 dX11_satisfaction_32 ?_
        refine cw_goto (tgt := 49) dX11_satisfaction_33 (by decide) ?_
        exact cw_fret rfl dX11_satisfaction_49 h
    · have h := h.2 q
      refine cw_fconst0 dX11_satisfaction_22 ?_
      exact cw_fret rfl dX11_satisfaction_23 h
  · have h := h.2 q
    refine cw_iconst (v := 1) dX11_satisfaction_9 (by decide) ?_
    refine cw_goto (tgt := 14) dX11_satisfaction_10 (by decide) ?_
    refine cw_iconst (v := 0) dX11_satisfaction_14 (by decide) ?_
    refine cw_iconst (v := 0) dX11_satisfaction_15 (by decide) ?_
    obtain ⟨v_16, J_16, hc_16, h⟩ := h
    refine cw_callV (o := 0) (As := [.int 1, .int 0, .int 0]) hc_16 okX11_fails rfl gX11_satisfaction_X11_fails (by decide) (show 0 < 11 by decide) rfl (ci := 9) rfl rfl (Nat.le_of_ble_eq_true rfl) dX11_satisfaction_16 ?_
    refine cw_if_eq (tgt := 24) dX11_satisfaction_19 (by decide) (fun q => ?_) (fun q => ?_)
    · have h := h.1 q
      refine cw_aload_n dX11_satisfaction_24 0 rfl rfl ?_
      refine cw_iload_n dX11_satisfaction_25 1 rfl rfl ?_
      obtain ⟨v_26, J_26, hc_26, h⟩ := h
      refine cw_callV (o := 0) (As := [.int x1]) hc_26 okX11_totalOf rfl gX11_satisfaction_X11_totalOf (by decide) (show 0 < 11 by decide) rfl (ci := 9) rfl rfl (Nat.le_of_ble_eq_true rfl) dX11_satisfaction_26 ?_
      refine cw_if_ne (tgt := 36) dX11_satisfaction_29 (by decide) (fun q => ?_) (fun q => ?_)
      · have h := h.1 q
        refine cw_aload_n dX11_satisfaction_36 0 rfl rfl ?_
        refine cw_iload_n dX11_satisfaction_37 1 rfl rfl ?_
        obtain ⟨v_38, J_38, hc_38, h⟩ := h
        refine cw_callV (o := 0) (As := [.int x1]) hc_38 okX11_welfareOf rfl gX11_satisfaction_X11_welfareOf (by decide) (show 0 < 11 by decide) rfl (ci := 9) rfl rfl (Nat.le_of_ble_eq_true rfl) dX11_satisfaction_38 ?_
        refine cw_i2f dX11_satisfaction_41 ?_
        refine cw_aload_n dX11_satisfaction_42 0 rfl rfl ?_
        refine cw_iload_n dX11_satisfaction_43 1 rfl rfl ?_
        obtain ⟨v_44, J_44, hc_44, h⟩ := h
        refine cw_callV (o := 0) (As := [.int x1]) hc_44 okX11_totalOf rfl gX11_satisfaction_X11_totalOf (by decide) (show 0 < 11 by decide) rfl (ci := 9) rfl rfl (Nat.le_of_ble_eq_true rfl) dX11_satisfaction_44 ?_
        refine cw_i2f dX11_satisfaction_47 ?_
        obtain ⟨g_48, h⟩ := h
        refine cw_fdiv dX11_satisfaction_48 g_48 ?_
        exact cw_fret rfl dX11_satisfaction_49 h
      · have h := h.2 q
        refine cw_fconst0 dX11_satisfaction_32 ?_
        refine cw_goto (tgt := 49) dX11_satisfaction_33 (by decide) ?_
        exact cw_fret rfl dX11_satisfaction_49 h
    · have h := h.2 q
      refine cw_fconst0 dX11_satisfaction_22 ?_
      exact cw_fret rfl dX11_satisfaction_23 h
set_option maxRecDepth 20000 in
set_option maxHeartbeats 4000000 in
theorem eX11_satisfiedCount_0 {K : cw_K} {r : Option Value} {J0 I : cw_M} (h : (∃ (v_2 : Int32) (J_2 : cw_M), cw_C (cr_w K) mX11_contentCount [.ref (cw_a (cr_w K) 0)] I (some (.int v_2)) J_2 ∧ (∃ (v_5 : Int32) (J_5 : cw_M), cw_C (cr_w K) mX11_plain [.ref (cw_a (cr_w K) 0), .int v_2] J_2 (some (.int v_5)) J_5 ∧ (r = some (.int v_5) ∧ J0 = J_5)))) : cw_C (cr_w K) mX11_satisfiedCount [.ref (cw_a (cr_w K) 0)] I r J0 := by
  refine cw_entry okX11_satisfiedCount (Nat.le_of_ble_eq_true rfl) (show cw_B (cr_w K) mX11_satisfiedCount (cw_Z (cr_w K) r J0) 0 0 I 0 [(0, .ref (cw_a (cr_w K) 0))] [] from ?_)
  refine cw_aload_n dX11_satisfiedCount_0 0 rfl rfl ?_
  refine cw_aload_n dX11_satisfiedCount_1 0 rfl rfl ?_
  obtain ⟨v_2, J_2, hc_2, h⟩ := h
  refine cw_callV (o := 0) (As := []) hc_2 okX11_contentCount rfl gX11_satisfiedCount_X11_contentCount (by decide) (show 0 < 11 by decide) rfl (ci := 9) rfl rfl (Nat.le_of_ble_eq_true rfl) dX11_satisfiedCount_2 ?_
  obtain ⟨v_5, J_5, hc_5, h⟩ := h
  refine cw_callV (o := 0) (As := [.int v_2]) hc_5 okX11_plain rfl gX11_satisfiedCount_X11_plain (by decide) (show 0 < 11 by decide) rfl (ci := 9) rfl rfl (Nat.le_of_ble_eq_true rfl) dX11_satisfiedCount_5 ?_
  exact cw_iret rfl dX11_satisfiedCount_8 h
set_option maxRecDepth 20000 in
set_option maxHeartbeats 4000000 in
theorem eX11_save_0 {K : cw_K} {r : Option Value} {J0 I : cw_M} {x1 : Int32} (h : (∃ (v_4 : Int32) (J_4 : cw_M), cw_C (cr_w K) mX11_in [.int x1, .int 0, .int 1] I (some (.int v_4)) J_4 ∧ ((¬ v_4 = 0 → (∃ (v_17 : Int32) (J_17 : cw_M), cw_C (cr_w K) mX11_fails [.ref (cw_a (cr_w K) 0), .int 0, .int 0, .int 0] J_4 (some (.int v_17)) J_17 ∧ ((v_17 = 0 → (∃ J_31 : cw_M, cw_C (cr_w K) mX11_copyBlock [.ref (cw_a (cr_w K) 0), .int 0, .int (7 + x1)] J_17 none J_31 ∧ (vp_in x1 2 ∧ (∃ (v_43 : Int32) (J_43 : cw_M), cw_C (cr_w K) mX11_sizeOf [.ref (cw_a (cr_w K) 0), .int (-1)] (cw_st J_31 2 x1.toNatClampNeg (vp_nar .boolean 1)) (some (.int v_43)) J_43 ∧ (r = some (.int v_43) ∧ J0 = J_43))))) ∧ (¬ v_17 = 0 → (r = some (.int 0) ∧ J0 = J_17))))) ∧ (v_4 = 0 → (∃ (v_17 : Int32) (J_17 : cw_M), cw_C (cr_w K) mX11_fails [.ref (cw_a (cr_w K) 0), .int 1, .int 0, .int 0] J_4 (some (.int v_17)) J_17 ∧ ((v_17 = 0 → (∃ J_31 : cw_M, cw_C (cr_w K) mX11_copyBlock [.ref (cw_a (cr_w K) 0), .int 0, .int (7 + x1)] J_17 none J_31 ∧ (vp_in x1 2 ∧ (∃ (v_43 : Int32) (J_43 : cw_M), cw_C (cr_w K) mX11_sizeOf [.ref (cw_a (cr_w K) 0), .int (-1)] (cw_st J_31 2 x1.toNatClampNeg (vp_nar .boolean 1)) (some (.int v_43)) J_43 ∧ (r = some (.int v_43) ∧ J0 = J_43))))) ∧ (¬ v_17 = 0 → (r = some (.int 0) ∧ J0 = J_17)))))))) : cw_C (cr_w K) mX11_save [.ref (cw_a (cr_w K) 0), .int x1] I r J0 := by
  refine cw_entry okX11_save (Nat.le_of_ble_eq_true rfl) (show cw_B (cr_w K) mX11_save (cw_Z (cr_w K) r J0) 0 0 I 0 [(0, .ref (cw_a (cr_w K) 0)), (1, .int x1)] [] from ?_)
  refine cw_aload_n dX11_save_0 0 rfl rfl ?_
  refine cw_iload_n dX11_save_1 1 rfl rfl ?_
  refine cw_iconst (v := 0) dX11_save_2 (by decide) ?_
  refine cw_iconst (v := 1) dX11_save_3 (by decide) ?_
  obtain ⟨v_4, J_4, hc_4, h⟩ := h
  refine cw_callS (As := [.int x1, .int 0, .int 1]) hc_4 okX11_in rfl gX11_save_X11_in (by decide) rfl rfl (Nat.le_of_ble_eq_true rfl) dX11_save_4 ?_
  refine cw_if_ne (tgt := 14) dX11_save_7 (by decide) (fun q => ?_) (fun q => ?_)
  · have h := h.1 q
    refine cw_iconst (v := 0) dX11_save_14 (by decide) ?_
    refine cw_iconst (v := 0) dX11_save_15 (by decide) ?_
    refine cw_iconst (v := 0) dX11_save_16 (by decide) ?_
    obtain ⟨v_17, J_17, hc_17, h⟩ := h
    refine cw_callV (o := 0) (As := [.int 0, .int 0, .int 0]) hc_17 okX11_fails rfl gX11_save_X11_fails (by decide) (show 0 < 11 by decide) rfl (ci := 9) rfl rfl (Nat.le_of_ble_eq_true rfl) dX11_save_17 ?_
    refine cw_if_eq (tgt := 25) dX11_save_20 (by decide) (fun q => ?_) (fun q => ?_)
    · have h := h.1 q
      refine cw_aload_n dX11_save_25 0 rfl rfl ?_
      refine cw_iconst (v := 0) dX11_save_26 (by decide) ?_
      refine cw_bipush (v := 7) dX11_save_27 (by decide) ?_
      refine cw_iload_n dX11_save_29 1 rfl rfl ?_
      refine cw_iadd dX11_save_30 ?_
      obtain ⟨J_31, hc_31, h⟩ := h
      refine cw_callV (o := 0) (As := [.int 0, .int (7 + x1)]) hc_31 okX11_copyBlock rfl gX11_save_X11_copyBlock (by decide) (show 0 < 11 by decide) rfl (ci := 9) rfl rfl (Nat.le_of_ble_eq_true rfl) dX11_save_31 ?_
      refine cw_aload_n dX11_save_34 0 rfl rfl ?_
      refine cw_getf (C := RX11) (T := TX11) (N := 20) (ci := 9) inX11_save_RX11 0 (show 0 < 11 by decide) rfl rfl 1 (by decide) (by decide +kernel) rfl dX11_save_35 ?_
      refine cw_iload_n dX11_save_38 1 rfl rfl ?_
      refine cw_iconst (v := 1) dX11_save_39 (by decide) ?_
      obtain ⟨g_40, h⟩ := h
      refine cw_zast 2 (show 2 < 11 by decide) (fun _ => rfl) 1 rfl dX11_save_40 g_40 ?_
      refine cw_aload_n dX11_save_41 0 rfl rfl ?_
      refine cw_iconst (v := (-1)) dX11_save_42 (by decide) ?_
      obtain ⟨v_43, J_43, hc_43, h⟩ := h
      refine cw_callV (o := 0) (As := [.int (-1)]) hc_43 okX11_sizeOf rfl gX11_save_X11_sizeOf (by decide) (show 0 < 11 by decide) rfl (ci := 9) rfl rfl (Nat.le_of_ble_eq_true rfl) dX11_save_43 ?_
      exact cw_iret rfl dX11_save_46 h
    · have h := h.2 q
      refine cw_iconst (v := 0) dX11_save_23 (by decide) ?_
      exact cw_iret rfl dX11_save_24 h
  · have h := h.2 q
    refine cw_iconst (v := 1) dX11_save_10 (by decide) ?_
    refine cw_goto (tgt := 15) dX11_save_11 (by decide) ?_
    refine cw_iconst (v := 0) dX11_save_15 (by decide) ?_
    refine cw_iconst (v := 0) dX11_save_16 (by decide) ?_
    obtain ⟨v_17, J_17, hc_17, h⟩ := h
    refine cw_callV (o := 0) (As := [.int 1, .int 0, .int 0]) hc_17 okX11_fails rfl gX11_save_X11_fails (by decide) (show 0 < 11 by decide) rfl (ci := 9) rfl rfl (Nat.le_of_ble_eq_true rfl) dX11_save_17 ?_
    refine cw_if_eq (tgt := 25) dX11_save_20 (by decide) (fun q => ?_) (fun q => ?_)
    · have h := h.1 q
      refine cw_aload_n dX11_save_25 0 rfl rfl ?_
      refine cw_iconst (v := 0) dX11_save_26 (by decide) ?_
      refine cw_bipush (v := 7) dX11_save_27 (by decide) ?_
      refine cw_iload_n dX11_save_29 1 rfl rfl ?_
      refine cw_iadd dX11_save_30 ?_
      obtain ⟨J_31, hc_31, h⟩ := h
      refine cw_callV (o := 0) (As := [.int 0, .int (7 + x1)]) hc_31 okX11_copyBlock rfl gX11_save_X11_copyBlock (by decide) (show 0 < 11 by decide) rfl (ci := 9) rfl rfl (Nat.le_of_ble_eq_true rfl) dX11_save_31 ?_
      refine cw_aload_n dX11_save_34 0 rfl rfl ?_
      refine cw_getf (C := RX11) (T := TX11) (N := 20) (ci := 9) inX11_save_RX11 0 (show 0 < 11 by decide) rfl rfl 1 (by decide) (by decide +kernel) rfl dX11_save_35 ?_
      refine cw_iload_n dX11_save_38 1 rfl rfl ?_
      refine cw_iconst (v := 1) dX11_save_39 (by decide) ?_
      obtain ⟨g_40, h⟩ := h
      refine cw_zast 2 (show 2 < 11 by decide) (fun _ => rfl) 1 rfl dX11_save_40 g_40 ?_
      refine cw_aload_n dX11_save_41 0 rfl rfl ?_
      refine cw_iconst (v := (-1)) dX11_save_42 (by decide) ?_
      obtain ⟨v_43, J_43, hc_43, h⟩ := h
      refine cw_callV (o := 0) (As := [.int (-1)]) hc_43 okX11_sizeOf rfl gX11_save_X11_sizeOf (by decide) (show 0 < 11 by decide) rfl (ci := 9) rfl rfl (Nat.le_of_ble_eq_true rfl) dX11_save_43 ?_
      exact cw_iret rfl dX11_save_46 h
    · have h := h.2 q
      refine cw_iconst (v := 0) dX11_save_23 (by decide) ?_
      exact cw_iret rfl dX11_save_24 h
set_option maxRecDepth 20000 in
set_option maxHeartbeats 4000000 in
theorem eX11_semicolon_0 {K : cw_K} {r : Option Value} {J0 I : cw_M} (h : (((I 0 16) = 3 → (∃ J_15 : cw_M, cw_C (cr_w K) mX11_token [.ref (cw_a (cr_w K) 0)] I none J_15 ∧ (r = some (.int 1) ∧ J0 = J_15))) ∧ (¬ (I 0 16) = 3 → (∃ (v_10 : Int32) (J_10 : cw_M), cw_C (cr_w K) mX11_wrong [.ref (cw_a (cr_w K) 0), .int 1] I (some (.int v_10)) J_10 ∧ ((v_10 = 0 ∨ v_10 = 1) ∧ (r = some (.int v_10) ∧ J0 = J_10)))))) : cw_C (cr_w K) mX11_semicolon [.ref (cw_a (cr_w K) 0)] I r J0 := by
  refine cw_entry okX11_semicolon (Nat.le_of_ble_eq_true rfl) (show cw_B (cr_w K) mX11_semicolon (cw_Z (cr_w K) r J0) 0 0 I 0 [(0, .ref (cw_a (cr_w K) 0))] [] from ?_)
  refine cw_aload_n dX11_semicolon_0 0 rfl rfl ?_
  refine cw_getf (C := RX11) (T := TX11) (N := 20) (ci := 9) inX11_semicolon_RX11 0 (show 0 < 11 by decide) rfl rfl 16 (by decide) (by decide +kernel) rfl dX11_semicolon_1 ?_
  refine cw_iconst (v := 3) dX11_semicolon_4 (by decide) ?_
  refine cw_icmp_eq (tgt := 14) dX11_semicolon_5 (by decide) (fun q => ?_) (fun q => ?_)
  · have h := h.1 q
    refine cw_aload_n dX11_semicolon_14 0 rfl rfl ?_
    obtain ⟨J_15, hc_15, h⟩ := h
    refine cw_callV (o := 0) (As := []) hc_15 okX11_token rfl gX11_semicolon_X11_token (by decide) (show 0 < 11 by decide) rfl (ci := 9) rfl rfl (Nat.le_of_ble_eq_true rfl) dX11_semicolon_15 ?_
    refine cw_iconst (v := 1) dX11_semicolon_18 (by decide) ?_
    exact cw_bret rfl dX11_semicolon_19 (by decide) h
  · have h := h.2 q
    refine cw_aload_n dX11_semicolon_8 0 rfl rfl ?_
    refine cw_iconst (v := 1) dX11_semicolon_9 (by decide) ?_
    obtain ⟨v_10, J_10, hc_10, h⟩ := h
    refine cw_callV (o := 0) (As := [.int 1]) hc_10 okX11_wrong rfl gX11_semicolon_X11_wrong (by decide) (show 0 < 11 by decide) rfl (ci := 9) rfl rfl (Nat.le_of_ble_eq_true rfl) dX11_semicolon_10 ?_
    exact cw_bret rfl dX11_semicolon_13 h.1 h.2
set_option maxRecDepth 20000 in
set_option maxHeartbeats 4000000 in
theorem eX11_setValue_0 {K : cw_K} {r : Option Value} {J0 I : cw_M} {x1 : Int32} {x2 : Int32} {x3 : Int32} (h : (∃ (v_3 : Int32) (J_3 : cw_M), cw_C (cr_w K) mX11_isSibling [.ref (cw_a (cr_w K) 0), .int x1] I (some (.int v_3)) J_3 ∧ ((v_3 = 0 → (∃ (v_26 : Int32) (J_26 : cw_M), cw_C (cr_w K) mX11_in [.int x3, .int 0, .int 9] J_3 (some (.int v_26)) J_26 ∧ ((¬ v_26 = 0 → (∃ (v_38 : Int32) (J_38 : cw_M), cw_C (cr_w K) mX11_fails [.ref (cw_a (cr_w K) 0), .int 1, .int 0, .int 0] J_26 (some (.int v_38)) J_38 ∧ ((v_38 = 0 → (∃ J_48 : cw_M, cw_C (cr_w K) mX11_remember [.ref (cw_a (cr_w K) 0), .int 0] J_38 none J_48 ∧ (∃ (v_54 : Int32) (J_54 : cw_M), cw_C (cr_w K) mX11_valueOf [.ref (cw_a (cr_w K) 0), .int x1, .int x2] J_48 (some (.int v_54)) J_54 ∧ (vp_in (((26 + (x1 * 31)) + 7) + x2) 2120 ∧ (r = some (.int v_54) ∧ J0 = cw_st J_54 1 (((26 + (x1 * 31)) + 7) + x2).toNatClampNeg x3))))) ∧ (¬ v_38 = 0 → (r = some (.int 0) ∧ J0 = J_38))))) ∧ (v_26 = 0 → (∃ (v_38 : Int32) (J_38 : cw_M), cw_C (cr_w K) mX11_fails [.ref (cw_a (cr_w K) 0), .int 1, .int 1, .int 0] J_26 (some (.int v_38)) J_38 ∧ ((v_38 = 0 → (∃ J_48 : cw_M, cw_C (cr_w K) mX11_remember [.ref (cw_a (cr_w K) 0), .int 0] J_38 none J_48 ∧ (∃ (v_54 : Int32) (J_54 : cw_M), cw_C (cr_w K) mX11_valueOf [.ref (cw_a (cr_w K) 0), .int x1, .int x2] J_48 (some (.int v_54)) J_54 ∧ (vp_in (((26 + (x1 * 31)) + 7) + x2) 2120 ∧ (r = some (.int v_54) ∧ J0 = cw_st J_54 1 (((26 + (x1 * 31)) + 7) + x2).toNatClampNeg x3))))) ∧ (¬ v_38 = 0 → (r = some (.int 0) ∧ J0 = J_38)))))))) ∧ (¬ v_3 = 0 → (∃ (v_11 : Int32) (J_11 : cw_M), cw_C (cr_w K) mX11_isCell [.ref (cw_a (cr_w K) 0), .int x2] J_3 (some (.int v_11)) J_11 ∧ ((¬ v_11 = 0 → (∃ (v_26 : Int32) (J_26 : cw_M), cw_C (cr_w K) mX11_in [.int x3, .int 0, .int 9] J_11 (some (.int v_26)) J_26 ∧ ((¬ v_26 = 0 → (∃ (v_38 : Int32) (J_38 : cw_M), cw_C (cr_w K) mX11_fails [.ref (cw_a (cr_w K) 0), .int 0, .int 0, .int 0] J_26 (some (.int v_38)) J_38 ∧ ((v_38 = 0 → (∃ J_48 : cw_M, cw_C (cr_w K) mX11_remember [.ref (cw_a (cr_w K) 0), .int 0] J_38 none J_48 ∧ (∃ (v_54 : Int32) (J_54 : cw_M), cw_C (cr_w K) mX11_valueOf [.ref (cw_a (cr_w K) 0), .int x1, .int x2] J_48 (some (.int v_54)) J_54 ∧ (vp_in (((26 + (x1 * 31)) + 7) + x2) 2120 ∧ (r = some (.int v_54) ∧ J0 = cw_st J_54 1 (((26 + (x1 * 31)) + 7) + x2).toNatClampNeg x3))))) ∧ (¬ v_38 = 0 → (r = some (.int 0) ∧ J0 = J_38))))) ∧ (v_26 = 0 → (∃ (v_38 : Int32) (J_38 : cw_M), cw_C (cr_w K) mX11_fails [.ref (cw_a (cr_w K) 0), .int 0, .int 1, .int 0] J_26 (some (.int v_38)) J_38 ∧ ((v_38 = 0 → (∃ J_48 : cw_M, cw_C (cr_w K) mX11_remember [.ref (cw_a (cr_w K) 0), .int 0] J_38 none J_48 ∧ (∃ (v_54 : Int32) (J_54 : cw_M), cw_C (cr_w K) mX11_valueOf [.ref (cw_a (cr_w K) 0), .int x1, .int x2] J_48 (some (.int v_54)) J_54 ∧ (vp_in (((26 + (x1 * 31)) + 7) + x2) 2120 ∧ (r = some (.int v_54) ∧ J0 = cw_st J_54 1 (((26 + (x1 * 31)) + 7) + x2).toNatClampNeg x3))))) ∧ (¬ v_38 = 0 → (r = some (.int 0) ∧ J0 = J_38)))))))) ∧ (v_11 = 0 → (∃ (v_26 : Int32) (J_26 : cw_M), cw_C (cr_w K) mX11_in [.int x3, .int 0, .int 9] J_11 (some (.int v_26)) J_26 ∧ ((¬ v_26 = 0 → (∃ (v_38 : Int32) (J_38 : cw_M), cw_C (cr_w K) mX11_fails [.ref (cw_a (cr_w K) 0), .int 1, .int 0, .int 0] J_26 (some (.int v_38)) J_38 ∧ ((v_38 = 0 → (∃ J_48 : cw_M, cw_C (cr_w K) mX11_remember [.ref (cw_a (cr_w K) 0), .int 0] J_38 none J_48 ∧ (∃ (v_54 : Int32) (J_54 : cw_M), cw_C (cr_w K) mX11_valueOf [.ref (cw_a (cr_w K) 0), .int x1, .int x2] J_48 (some (.int v_54)) J_54 ∧ (vp_in (((26 + (x1 * 31)) + 7) + x2) 2120 ∧ (r = some (.int v_54) ∧ J0 = cw_st J_54 1 (((26 + (x1 * 31)) + 7) + x2).toNatClampNeg x3))))) ∧ (¬ v_38 = 0 → (r = some (.int 0) ∧ J0 = J_38))))) ∧ (v_26 = 0 → (∃ (v_38 : Int32) (J_38 : cw_M), cw_C (cr_w K) mX11_fails [.ref (cw_a (cr_w K) 0), .int 1, .int 1, .int 0] J_26 (some (.int v_38)) J_38 ∧ ((v_38 = 0 → (∃ J_48 : cw_M, cw_C (cr_w K) mX11_remember [.ref (cw_a (cr_w K) 0), .int 0] J_38 none J_48 ∧ (∃ (v_54 : Int32) (J_54 : cw_M), cw_C (cr_w K) mX11_valueOf [.ref (cw_a (cr_w K) 0), .int x1, .int x2] J_48 (some (.int v_54)) J_54 ∧ (vp_in (((26 + (x1 * 31)) + 7) + x2) 2120 ∧ (r = some (.int v_54) ∧ J0 = cw_st J_54 1 (((26 + (x1 * 31)) + 7) + x2).toNatClampNeg x3))))) ∧ (¬ v_38 = 0 → (r = some (.int 0) ∧ J0 = J_38)))))))))))))) : cw_C (cr_w K) mX11_setValue [.ref (cw_a (cr_w K) 0), .int x1, .int x2, .int x3] I r J0 := by
  refine cw_entry okX11_setValue (Nat.le_of_ble_eq_true rfl) (show cw_B (cr_w K) mX11_setValue (cw_Z (cr_w K) r J0) 0 0 I 0 [(0, .ref (cw_a (cr_w K) 0)), (1, .int x1), (2, .int x2), (3, .int x3)] [] from ?_)
  refine cw_aload_n dX11_setValue_0 0 rfl rfl ?_
  refine cw_aload_n dX11_setValue_1 0 rfl rfl ?_
  refine cw_iload_n dX11_setValue_2 1 rfl rfl ?_
  obtain ⟨v_3, J_3, hc_3, h⟩ := h
  refine cw_callV (o := 0) (As := [.int x1]) hc_3 okX11_isSibling rfl gX11_setValue_X11_isSibling (by decide) (show 0 < 11 by decide) rfl (ci := 9) rfl rfl (Nat.le_of_ble_eq_true rfl) dX11_setValue_3 ?_
  refine cw_if_eq (tgt := 17) dX11_setValue_6 (by decide) (fun q => ?_) (fun q => ?_)
  · have h := h.1 q
    refine cw_iconst (v := 1) dX11_setValue_17 (by decide) ?_
    refine cw_goto (tgt := 22) dX11_setValue_18 (by decide) ?_
    refine cw_iload_n dX11_setValue_22 3 rfl rfl ?_
    refine cw_iconst (v := 0) dX11_setValue_23 (by decide) ?_
    refine cw_bipush (v := 9) dX11_setValue_24 (by decide) ?_
    obtain ⟨v_26, J_26, hc_26, h⟩ := h
    refine cw_callS (As := [.int x3, .int 0, .int 9]) hc_26 okX11_in rfl gX11_setValue_X11_in (by decide) rfl rfl (Nat.le_of_ble_eq_true rfl) dX11_setValue_26 ?_
    refine cw_if_ne (tgt := 36) dX11_setValue_29 (by decide) (fun q => ?_) (fun q => ?_)
    · have h := h.1 q
      refine cw_iconst (v := 0) dX11_setValue_36 (by decide) ?_
      refine cw_iconst (v := 0) dX11_setValue_37 (by decide) ?_
      obtain ⟨v_38, J_38, hc_38, h⟩ := h
      refine cw_callV (o := 0) (As := [.int 1, .int 0, .int 0]) hc_38 okX11_fails rfl gX11_setValue_X11_fails (by decide) (show 0 < 11 by decide) rfl (ci := 9) rfl rfl (Nat.le_of_ble_eq_true rfl) dX11_setValue_38 ?_
      refine cw_if_eq (tgt := 46) dX11_setValue_41 (by decide) (fun q => ?_) (fun q => ?_)
      · have h := h.1 q
        refine cw_aload_n dX11_setValue_46 0 rfl rfl ?_
        refine cw_iconst (v := 0) dX11_setValue_47 (by decide) ?_
        obtain ⟨J_48, hc_48, h⟩ := h
        refine cw_callV (o := 0) (As := [.int 0]) hc_48 okX11_remember rfl gX11_setValue_X11_remember (by decide) (show 0 < 11 by decide) rfl (ci := 9) rfl rfl (Nat.le_of_ble_eq_true rfl) dX11_setValue_48 ?_
        refine cw_aload_n dX11_setValue_51 0 rfl rfl ?_
        refine cw_iload_n dX11_setValue_52 1 rfl rfl ?_
        refine cw_iload_n dX11_setValue_53 2 rfl rfl ?_
        obtain ⟨v_54, J_54, hc_54, h⟩ := h
        refine cw_callV (o := 0) (As := [.int x1, .int x2]) hc_54 okX11_valueOf rfl gX11_setValue_X11_valueOf (by decide) (show 0 < 11 by decide) rfl (ci := 9) rfl rfl (Nat.le_of_ble_eq_true rfl) dX11_setValue_54 ?_
        refine cw_istore dX11_setValue_57 (by decide) rfl ?_
        refine cw_aload_n dX11_setValue_59 1 rfl rfl ?_
        refine cw_getf (C := RX11) (T := TX11) (N := 20) (ci := 9) inX11_setValue_RX11 0 (show 0 < 11 by decide) rfl rfl 0 (by decide) (by decide +kernel) rfl dX11_setValue_60 ?_
        refine cw_bipush (v := 26) dX11_setValue_63 (by decide) ?_
        refine cw_iload_n dX11_setValue_65 2 rfl rfl ?_
        refine cw_bipush (v := 31) dX11_setValue_66 (by decide) ?_
        refine cw_imul dX11_setValue_68 ?_
        refine cw_iadd dX11_setValue_69 ?_
        refine cw_bipush (v := 7) dX11_setValue_70 (by decide) ?_
        refine cw_iadd dX11_setValue_72 ?_
        refine cw_iload_n dX11_setValue_73 3 rfl rfl ?_
        refine cw_iadd dX11_setValue_74 ?_
        refine cw_iload_n dX11_setValue_75 4 rfl rfl ?_
        obtain ⟨g_76, h⟩ := h
        refine cw_iast 1 (show 1 < 11 by decide) (fun _ => rfl) 0 rfl dX11_setValue_76 g_76 ?_
        refine cw_iload dX11_setValue_77 0 rfl ?_
        exact cw_iret rfl dX11_setValue_79 h
      · have h := h.2 q
        refine cw_iconst (v := 0) dX11_setValue_44 (by decide) ?_
        exact cw_iret rfl dX11_setValue_45 h
    · have h := h.2 q
      refine cw_iconst (v := 1) dX11_setValue_32 (by decide) ?_
      refine cw_goto (tgt := 37) dX11_setValue_33 (by decide) ?_
      refine cw_iconst (v := 0) dX11_setValue_37 (by decide) ?_
      obtain ⟨v_38, J_38, hc_38, h⟩ := h
      refine cw_callV (o := 0) (As := [.int 1, .int 1, .int 0]) hc_38 okX11_fails rfl gX11_setValue_X11_fails (by decide) (show 0 < 11 by decide) rfl (ci := 9) rfl rfl (Nat.le_of_ble_eq_true rfl) dX11_setValue_38 ?_
      refine cw_if_eq (tgt := 46) dX11_setValue_41 (by decide) (fun q => ?_) (fun q => ?_)
      · have h := h.1 q
        refine cw_aload_n dX11_setValue_46 0 rfl rfl ?_
        refine cw_iconst (v := 0) dX11_setValue_47 (by decide) ?_
        obtain ⟨J_48, hc_48, h⟩ := h
        refine cw_callV (o := 0) (As := [.int 0]) hc_48 okX11_remember rfl gX11_setValue_X11_remember (by decide) (show 0 < 11 by decide) rfl (ci := 9) rfl rfl (Nat.le_of_ble_eq_true rfl) dX11_setValue_48 ?_
        refine cw_aload_n dX11_setValue_51 0 rfl rfl ?_
        refine cw_iload_n dX11_setValue_52 1 rfl rfl ?_
        refine cw_iload_n dX11_setValue_53 2 rfl rfl ?_
        obtain ⟨v_54, J_54, hc_54, h⟩ := h
        refine cw_callV (o := 0) (As := [.int x1, .int x2]) hc_54 okX11_valueOf rfl gX11_setValue_X11_valueOf (by decide) (show 0 < 11 by decide) rfl (ci := 9) rfl rfl (Nat.le_of_ble_eq_true rfl) dX11_setValue_54 ?_
        refine cw_istore dX11_setValue_57 (by decide) rfl ?_
        refine cw_aload_n dX11_setValue_59 1 rfl rfl ?_
        refine cw_getf (C := RX11) (T := TX11) (N := 20) (ci := 9) inX11_setValue_RX11 0 (show 0 < 11 by decide) rfl rfl 0 (by decide) (by decide +kernel) rfl dX11_setValue_60 ?_
        refine cw_bipush (v := 26) dX11_setValue_63 (by decide) ?_
        refine cw_iload_n dX11_setValue_65 2 rfl rfl ?_
        refine cw_bipush (v := 31) dX11_setValue_66 (by decide) ?_
        refine cw_imul dX11_setValue_68 ?_
        refine cw_iadd dX11_setValue_69 ?_
        refine cw_bipush (v := 7) dX11_setValue_70 (by decide) ?_
        refine cw_iadd dX11_setValue_72 ?_
        refine cw_iload_n dX11_setValue_73 3 rfl rfl ?_
        refine cw_iadd dX11_setValue_74 ?_
        refine cw_iload_n dX11_setValue_75 4 rfl rfl ?_
        obtain ⟨g_76, h⟩ := h
        refine cw_iast 1 (show 1 < 11 by decide) (fun _ => rfl) 0 rfl dX11_setValue_76 g_76 ?_
        refine cw_iload dX11_setValue_77 0 rfl ?_
        exact cw_iret rfl dX11_setValue_79 h
      · have h := h.2 q
        refine cw_iconst (v := 0) dX11_setValue_44 (by decide) ?_
        exact cw_iret rfl dX11_setValue_45 h
  · have h := h.2 q
    refine cw_aload_n dX11_setValue_9 0 rfl rfl ?_
    refine cw_iload_n dX11_setValue_10 2 rfl rfl ?_
    obtain ⟨v_11, J_11, hc_11, h⟩ := h
    refine cw_callV (o := 0) (As := [.int x2]) hc_11 okX11_isCell rfl gX11_setValue_X11_isCell (by decide) (show 0 < 11 by decide) rfl (ci := 9) rfl rfl (Nat.le_of_ble_eq_true rfl) dX11_setValue_11 ?_
    refine cw_if_ne (tgt := 21) dX11_setValue_14 (by decide) (fun q => ?_) (fun q => ?_)
    · have h := h.1 q
      refine cw_iconst (v := 0) dX11_setValue_21 (by decide) ?_
      refine cw_iload_n dX11_setValue_22 3 rfl rfl ?_
      refine cw_iconst (v := 0) dX11_setValue_23 (by decide) ?_
      refine cw_bipush (v := 9) dX11_setValue_24 (by decide) ?_
      obtain ⟨v_26, J_26, hc_26, h⟩ := h
      refine cw_callS (As := [.int x3, .int 0, .int 9]) hc_26 okX11_in rfl gX11_setValue_X11_in (by decide) rfl rfl (Nat.le_of_ble_eq_true rfl) dX11_setValue_26 ?_
      refine cw_if_ne (tgt := 36) dX11_setValue_29 (by decide) (fun q => ?_) (fun q => ?_)
      · have h := h.1 q
        refine cw_iconst (v := 0) dX11_setValue_36 (by decide) ?_
        refine cw_iconst (v := 0) dX11_setValue_37 (by decide) ?_
        obtain ⟨v_38, J_38, hc_38, h⟩ := h
        refine cw_callV (o := 0) (As := [.int 0, .int 0, .int 0]) hc_38 okX11_fails rfl gX11_setValue_X11_fails (by decide) (show 0 < 11 by decide) rfl (ci := 9) rfl rfl (Nat.le_of_ble_eq_true rfl) dX11_setValue_38 ?_
        refine cw_if_eq (tgt := 46) dX11_setValue_41 (by decide) (fun q => ?_) (fun q => ?_)
        · have h := h.1 q
          refine cw_aload_n dX11_setValue_46 0 rfl rfl ?_
          refine cw_iconst (v := 0) dX11_setValue_47 (by decide) ?_
          obtain ⟨J_48, hc_48, h⟩ := h
          refine cw_callV (o := 0) (As := [.int 0]) hc_48 okX11_remember rfl gX11_setValue_X11_remember (by decide) (show 0 < 11 by decide) rfl (ci := 9) rfl rfl (Nat.le_of_ble_eq_true rfl) dX11_setValue_48 ?_
          refine cw_aload_n dX11_setValue_51 0 rfl rfl ?_
          refine cw_iload_n dX11_setValue_52 1 rfl rfl ?_
          refine cw_iload_n dX11_setValue_53 2 rfl rfl ?_
          obtain ⟨v_54, J_54, hc_54, h⟩ := h
          refine cw_callV (o := 0) (As := [.int x1, .int x2]) hc_54 okX11_valueOf rfl gX11_setValue_X11_valueOf (by decide) (show 0 < 11 by decide) rfl (ci := 9) rfl rfl (Nat.le_of_ble_eq_true rfl) dX11_setValue_54 ?_
          refine cw_istore dX11_setValue_57 (by decide) rfl ?_
          refine cw_aload_n dX11_setValue_59 1 rfl rfl ?_
          refine cw_getf (C := RX11) (T := TX11) (N := 20) (ci := 9) inX11_setValue_RX11 0 (show 0 < 11 by decide) rfl rfl 0 (by decide) (by decide +kernel) rfl dX11_setValue_60 ?_
          refine cw_bipush (v := 26) dX11_setValue_63 (by decide) ?_
          refine cw_iload_n dX11_setValue_65 2 rfl rfl ?_
          refine cw_bipush (v := 31) dX11_setValue_66 (by decide) ?_
          refine cw_imul dX11_setValue_68 ?_
          refine cw_iadd dX11_setValue_69 ?_
          refine cw_bipush (v := 7) dX11_setValue_70 (by decide) ?_
          refine cw_iadd dX11_setValue_72 ?_
          refine cw_iload_n dX11_setValue_73 3 rfl rfl ?_
          refine cw_iadd dX11_setValue_74 ?_
          refine cw_iload_n dX11_setValue_75 4 rfl rfl ?_
          obtain ⟨g_76, h⟩ := h
          refine cw_iast 1 (show 1 < 11 by decide) (fun _ => rfl) 0 rfl dX11_setValue_76 g_76 ?_
          refine cw_iload dX11_setValue_77 0 rfl ?_
          exact cw_iret rfl dX11_setValue_79 h
        · have h := h.2 q
          refine cw_iconst (v := 0) dX11_setValue_44 (by decide) ?_
          exact cw_iret rfl dX11_setValue_45 h
      · have h := h.2 q
        refine cw_iconst (v := 1) dX11_setValue_32 (by decide) ?_
        refine cw_goto (tgt := 37) dX11_setValue_33 (by decide) ?_
        refine cw_iconst (v := 0) dX11_setValue_37 (by decide) ?_
        obtain ⟨v_38, J_38, hc_38, h⟩ := h
        refine cw_callV (o := 0) (As := [.int 0, .int 1, .int 0]) hc_38 okX11_fails rfl gX11_setValue_X11_fails (by decide) (show 0 < 11 by decide) rfl (ci := 9) rfl rfl (Nat.le_of_ble_eq_true rfl) dX11_setValue_38 ?_
        refine cw_if_eq (tgt := 46) dX11_setValue_41 (by decide) (fun q => ?_) (fun q => ?_)
        · have h := h.1 q
          refine cw_aload_n dX11_setValue_46 0 rfl rfl ?_
          refine cw_iconst (v := 0) dX11_setValue_47 (by decide) ?_
          obtain ⟨J_48, hc_48, h⟩ := h
          refine cw_callV (o := 0) (As := [.int 0]) hc_48 okX11_remember rfl gX11_setValue_X11_remember (by decide) (show 0 < 11 by decide) rfl (ci := 9) rfl rfl (Nat.le_of_ble_eq_true rfl) dX11_setValue_48 ?_
          refine cw_aload_n dX11_setValue_51 0 rfl rfl ?_
          refine cw_iload_n dX11_setValue_52 1 rfl rfl ?_
          refine cw_iload_n dX11_setValue_53 2 rfl rfl ?_
          obtain ⟨v_54, J_54, hc_54, h⟩ := h
          refine cw_callV (o := 0) (As := [.int x1, .int x2]) hc_54 okX11_valueOf rfl gX11_setValue_X11_valueOf (by decide) (show 0 < 11 by decide) rfl (ci := 9) rfl rfl (Nat.le_of_ble_eq_true rfl) dX11_setValue_54 ?_
          refine cw_istore dX11_setValue_57 (by decide) rfl ?_
          refine cw_aload_n dX11_setValue_59 1 rfl rfl ?_
          refine cw_getf (C := RX11) (T := TX11) (N := 20) (ci := 9) inX11_setValue_RX11 0 (show 0 < 11 by decide) rfl rfl 0 (by decide) (by decide +kernel) rfl dX11_setValue_60 ?_
          refine cw_bipush (v := 26) dX11_setValue_63 (by decide) ?_
          refine cw_iload_n dX11_setValue_65 2 rfl rfl ?_
          refine cw_bipush (v := 31) dX11_setValue_66 (by decide) ?_
          refine cw_imul dX11_setValue_68 ?_
          refine cw_iadd dX11_setValue_69 ?_
          refine cw_bipush (v := 7) dX11_setValue_70 (by decide) ?_
          refine cw_iadd dX11_setValue_72 ?_
          refine cw_iload_n dX11_setValue_73 3 rfl rfl ?_
          refine cw_iadd dX11_setValue_74 ?_
          refine cw_iload_n dX11_setValue_75 4 rfl rfl ?_
          obtain ⟨g_76, h⟩ := h
          refine cw_iast 1 (show 1 < 11 by decide) (fun _ => rfl) 0 rfl dX11_setValue_76 g_76 ?_
          refine cw_iload dX11_setValue_77 0 rfl ?_
          exact cw_iret rfl dX11_setValue_79 h
        · have h := h.2 q
          refine cw_iconst (v := 0) dX11_setValue_44 (by decide) ?_
          exact cw_iret rfl dX11_setValue_45 h
    · have h := h.2 q
      refine cw_iconst (v := 1) dX11_setValue_17 (by decide) ?_
      refine cw_goto (tgt := 22) dX11_setValue_18 (by decide) ?_
      refine cw_iload_n dX11_setValue_22 3 rfl rfl ?_
      refine cw_iconst (v := 0) dX11_setValue_23 (by decide) ?_
      refine cw_bipush (v := 9) dX11_setValue_24 (by decide) ?_
      obtain ⟨v_26, J_26, hc_26, h⟩ := h
      refine cw_callS (As := [.int x3, .int 0, .int 9]) hc_26 okX11_in rfl gX11_setValue_X11_in (by decide) rfl rfl (Nat.le_of_ble_eq_true rfl) dX11_setValue_26 ?_
      refine cw_if_ne (tgt := 36) dX11_setValue_29 (by decide) (fun q => ?_) (fun q => ?_)
      · have h := h.1 q
        refine cw_iconst (v := 0) dX11_setValue_36 (by decide) ?_
        refine cw_iconst (v := 0) dX11_setValue_37 (by decide) ?_
        obtain ⟨v_38, J_38, hc_38, h⟩ := h
        refine cw_callV (o := 0) (As := [.int 1, .int 0, .int 0]) hc_38 okX11_fails rfl gX11_setValue_X11_fails (by decide) (show 0 < 11 by decide) rfl (ci := 9) rfl rfl (Nat.le_of_ble_eq_true rfl) dX11_setValue_38 ?_
        refine cw_if_eq (tgt := 46) dX11_setValue_41 (by decide) (fun q => ?_) (fun q => ?_)
        · have h := h.1 q
          refine cw_aload_n dX11_setValue_46 0 rfl rfl ?_
          refine cw_iconst (v := 0) dX11_setValue_47 (by decide) ?_
          obtain ⟨J_48, hc_48, h⟩ := h
          refine cw_callV (o := 0) (As := [.int 0]) hc_48 okX11_remember rfl gX11_setValue_X11_remember (by decide) (show 0 < 11 by decide) rfl (ci := 9) rfl rfl (Nat.le_of_ble_eq_true rfl) dX11_setValue_48 ?_
          refine cw_aload_n dX11_setValue_51 0 rfl rfl ?_
          refine cw_iload_n dX11_setValue_52 1 rfl rfl ?_
          refine cw_iload_n dX11_setValue_53 2 rfl rfl ?_
          obtain ⟨v_54, J_54, hc_54, h⟩ := h
          refine cw_callV (o := 0) (As := [.int x1, .int x2]) hc_54 okX11_valueOf rfl gX11_setValue_X11_valueOf (by decide) (show 0 < 11 by decide) rfl (ci := 9) rfl rfl (Nat.le_of_ble_eq_true rfl) dX11_setValue_54 ?_
          refine cw_istore dX11_setValue_57 (by decide) rfl ?_
          refine cw_aload_n dX11_setValue_59 1 rfl rfl ?_
          refine cw_getf (C := RX11) (T := TX11) (N := 20) (ci := 9) inX11_setValue_RX11 0 (show 0 < 11 by decide) rfl rfl 0 (by decide) (by decide +kernel) rfl dX11_setValue_60 ?_
          refine cw_bipush (v := 26) dX11_setValue_63 (by decide) ?_
          refine cw_iload_n dX11_setValue_65 2 rfl rfl ?_
          refine cw_bipush (v := 31) dX11_setValue_66 (by decide) ?_
          refine cw_imul dX11_setValue_68 ?_
          refine cw_iadd dX11_setValue_69 ?_
          refine cw_bipush (v := 7) dX11_setValue_70 (by decide) ?_
          refine cw_iadd dX11_setValue_72 ?_
          refine cw_iload_n dX11_setValue_73 3 rfl rfl ?_
          refine cw_iadd dX11_setValue_74 ?_
          refine cw_iload_n dX11_setValue_75 4 rfl rfl ?_
          obtain ⟨g_76, h⟩ := h
          refine cw_iast 1 (show 1 < 11 by decide) (fun _ => rfl) 0 rfl dX11_setValue_76 g_76 ?_
          refine cw_iload dX11_setValue_77 0 rfl ?_
          exact cw_iret rfl dX11_setValue_79 h
        · have h := h.2 q
          refine cw_iconst (v := 0) dX11_setValue_44 (by decide) ?_
          exact cw_iret rfl dX11_setValue_45 h
      · have h := h.2 q
        refine cw_iconst (v := 1) dX11_setValue_32 (by decide) ?_
        refine cw_goto (tgt := 37) dX11_setValue_33 (by decide) ?_
        refine cw_iconst (v := 0) dX11_setValue_37 (by decide) ?_
        obtain ⟨v_38, J_38, hc_38, h⟩ := h
        refine cw_callV (o := 0) (As := [.int 1, .int 1, .int 0]) hc_38 okX11_fails rfl gX11_setValue_X11_fails (by decide) (show 0 < 11 by decide) rfl (ci := 9) rfl rfl (Nat.le_of_ble_eq_true rfl) dX11_setValue_38 ?_
        refine cw_if_eq (tgt := 46) dX11_setValue_41 (by decide) (fun q => ?_) (fun q => ?_)
        · have h := h.1 q
          refine cw_aload_n dX11_setValue_46 0 rfl rfl ?_
          refine cw_iconst (v := 0) dX11_setValue_47 (by decide) ?_
          obtain ⟨J_48, hc_48, h⟩ := h
          refine cw_callV (o := 0) (As := [.int 0]) hc_48 okX11_remember rfl gX11_setValue_X11_remember (by decide) (show 0 < 11 by decide) rfl (ci := 9) rfl rfl (Nat.le_of_ble_eq_true rfl) dX11_setValue_48 ?_
          refine cw_aload_n dX11_setValue_51 0 rfl rfl ?_
          refine cw_iload_n dX11_setValue_52 1 rfl rfl ?_
          refine cw_iload_n dX11_setValue_53 2 rfl rfl ?_
          obtain ⟨v_54, J_54, hc_54, h⟩ := h
          refine cw_callV (o := 0) (As := [.int x1, .int x2]) hc_54 okX11_valueOf rfl gX11_setValue_X11_valueOf (by decide) (show 0 < 11 by decide) rfl (ci := 9) rfl rfl (Nat.le_of_ble_eq_true rfl) dX11_setValue_54 ?_
          refine cw_istore dX11_setValue_57 (by decide) rfl ?_
          refine cw_aload_n dX11_setValue_59 1 rfl rfl ?_
          refine cw_getf (C := RX11) (T := TX11) (N := 20) (ci := 9) inX11_setValue_RX11 0 (show 0 < 11 by decide) rfl rfl 0 (by decide) (by decide +kernel) rfl dX11_setValue_60 ?_
          refine cw_bipush (v := 26) dX11_setValue_63 (by decide) ?_
          refine cw_iload_n dX11_setValue_65 2 rfl rfl ?_
          refine cw_bipush (v := 31) dX11_setValue_66 (by decide) ?_
          refine cw_imul dX11_setValue_68 ?_
          refine cw_iadd dX11_setValue_69 ?_
          refine cw_bipush (v := 7) dX11_setValue_70 (by decide) ?_
          refine cw_iadd dX11_setValue_72 ?_
          refine cw_iload_n dX11_setValue_73 3 rfl rfl ?_
          refine cw_iadd dX11_setValue_74 ?_
          refine cw_iload_n dX11_setValue_75 4 rfl rfl ?_
          obtain ⟨g_76, h⟩ := h
          refine cw_iast 1 (show 1 < 11 by decide) (fun _ => rfl) 0 rfl dX11_setValue_76 g_76 ?_
          refine cw_iload dX11_setValue_77 0 rfl ?_
          exact cw_iret rfl dX11_setValue_79 h
        · have h := h.2 q
          refine cw_iconst (v := 0) dX11_setValue_44 (by decide) ?_
          exact cw_iret rfl dX11_setValue_45 h
set_option maxRecDepth 20000 in
set_option maxHeartbeats 4000000 in
theorem eX11_shareSize_0 {K : cw_K} {r : Option Value} {J0 I : cw_M} {x1 : Int32} (h : (∃ (v_3 : Int32) (J_3 : cw_M), cw_C (cr_w K) mX11_isSibling [.ref (cw_a (cr_w K) 0), .int x1] I (some (.int v_3)) J_3 ∧ ((¬ v_3 = 0 → (∃ (v_16 : Int32) (J_16 : cw_M), cw_C (cr_w K) mX11_fails [.ref (cw_a (cr_w K) 0), .int 0, .int 0, .int 0] J_3 (some (.int v_16)) J_16 ∧ ((v_16 = 0 → (∃ (v_26 : Int32) (J_26 : cw_M), cw_C (cr_w K) mX11_sizeOf [.ref (cw_a (cr_w K) 0), .int x1] J_16 (some (.int v_26)) J_26 ∧ (r = some (.int v_26) ∧ J0 = J_26))) ∧ (¬ v_16 = 0 → (r = some (.int 0) ∧ J0 = J_16))))) ∧ (v_3 = 0 → (∃ (v_16 : Int32) (J_16 : cw_M), cw_C (cr_w K) mX11_fails [.ref (cw_a (cr_w K) 0), .int 1, .int 0, .int 0] J_3 (some (.int v_16)) J_16 ∧ ((v_16 = 0 → (∃ (v_26 : Int32) (J_26 : cw_M), cw_C (cr_w K) mX11_sizeOf [.ref (cw_a (cr_w K) 0), .int x1] J_16 (some (.int v_26)) J_26 ∧ (r = some (.int v_26) ∧ J0 = J_26))) ∧ (¬ v_16 = 0 → (r = some (.int 0) ∧ J0 = J_16)))))))) : cw_C (cr_w K) mX11_shareSize [.ref (cw_a (cr_w K) 0), .int x1] I r J0 := by
  refine cw_entry okX11_shareSize (Nat.le_of_ble_eq_true rfl) (show cw_B (cr_w K) mX11_shareSize (cw_Z (cr_w K) r J0) 0 0 I 0 [(0, .ref (cw_a (cr_w K) 0)), (1, .int x1)] [] from ?_)
  refine cw_aload_n dX11_shareSize_0 0 rfl rfl ?_
  refine cw_aload_n dX11_shareSize_1 0 rfl rfl ?_
  refine cw_iload_n dX11_shareSize_2 1 rfl rfl ?_
  obtain ⟨v_3, J_3, hc_3, h⟩ := h
  refine cw_callV (o := 0) (As := [.int x1]) hc_3 okX11_isSibling rfl gX11_shareSize_X11_isSibling (by decide) (show 0 < 11 by decide) rfl (ci := 9) rfl rfl (Nat.le_of_ble_eq_true rfl) dX11_shareSize_3 ?_
  refine cw_if_ne (tgt := 13) dX11_shareSize_6 (by decide) (fun q => ?_) (fun q => ?_)
  · have h := h.1 q
    refine cw_iconst (v := 0) dX11_shareSize_13 (by decide) ?_
    refine cw_iconst (v := 0) dX11_shareSize_14 (by decide) ?_
    refine cw_iconst (v := 0) dX11_shareSize_15 (by decide) ?_
    obtain ⟨v_16, J_16, hc_16, h⟩ := h
    refine cw_callV (o := 0) (As := [.int 0, .int 0, .int 0]) hc_16 okX11_fails rfl gX11_shareSize_X11_fails (by decide) (show 0 < 11 by decide) rfl (ci := 9) rfl rfl (Nat.le_of_ble_eq_true rfl) dX11_shareSize_16 ?_
    refine cw_if_eq (tgt := 24) dX11_shareSize_19 (by decide) (fun q => ?_) (fun q => ?_)
    · have h := h.1 q
      refine cw_aload_n dX11_shareSize_24 0 rfl rfl ?_
      refine cw_iload_n dX11_shareSize_25 1 rfl rfl ?_
      obtain ⟨v_26, J_26, hc_26, h⟩ := h
      refine cw_callV (o := 0) (As := [.int x1]) hc_26 okX11_sizeOf rfl gX11_shareSize_X11_sizeOf (by decide) (show 0 < 11 by decide) rfl (ci := 9) rfl rfl (Nat.le_of_ble_eq_true rfl) dX11_shareSize_26 ?_
      exact cw_iret rfl dX11_shareSize_29 h
    · have h := h.2 q
      refine cw_iconst (v := 0) dX11_shareSize_22 (by decide) ?_
      exact cw_iret rfl dX11_shareSize_23 h
  · have h := h.2 q
    refine cw_iconst (v := 1) dX11_shareSize_9 (by decide) ?_
    refine cw_goto (tgt := 14) dX11_shareSize_10 (by decide) ?_
    refine cw_iconst (v := 0) dX11_shareSize_14 (by decide) ?_
    refine cw_iconst (v := 0) dX11_shareSize_15 (by decide) ?_
    obtain ⟨v_16, J_16, hc_16, h⟩ := h
    refine cw_callV (o := 0) (As := [.int 1, .int 0, .int 0]) hc_16 okX11_fails rfl gX11_shareSize_X11_fails (by decide) (show 0 < 11 by decide) rfl (ci := 9) rfl rfl (Nat.le_of_ble_eq_true rfl) dX11_shareSize_16 ?_
    refine cw_if_eq (tgt := 24) dX11_shareSize_19 (by decide) (fun q => ?_) (fun q => ?_)
    · have h := h.1 q
      refine cw_aload_n dX11_shareSize_24 0 rfl rfl ?_
      refine cw_iload_n dX11_shareSize_25 1 rfl rfl ?_
      obtain ⟨v_26, J_26, hc_26, h⟩ := h
      refine cw_callV (o := 0) (As := [.int x1]) hc_26 okX11_sizeOf rfl gX11_shareSize_X11_sizeOf (by decide) (show 0 < 11 by decide) rfl (ci := 9) rfl rfl (Nat.le_of_ble_eq_true rfl) dX11_shareSize_26 ?_
      exact cw_iret rfl dX11_shareSize_29 h
    · have h := h.2 q
      refine cw_iconst (v := 0) dX11_shareSize_22 (by decide) ?_
      exact cw_iret rfl dX11_shareSize_23 h
set_option maxRecDepth 20000 in
set_option maxHeartbeats 4000000 in
theorem eX11_siblingCount_0 {K : cw_K} {r : Option Value} {J0 I : cw_M} (h : (∃ (v_7 : Int32) (J_7 : cw_M), cw_C (cr_w K) mX11_plain [.ref (cw_a (cr_w K) 0), .int (I 1 1)] I (some (.int v_7)) J_7 ∧ (r = some (.int v_7) ∧ J0 = J_7))) : cw_C (cr_w K) mX11_siblingCount [.ref (cw_a (cr_w K) 0)] I r J0 := by
  refine cw_entry okX11_siblingCount (Nat.le_of_ble_eq_true rfl) (show cw_B (cr_w K) mX11_siblingCount (cw_Z (cr_w K) r J0) 0 0 I 0 [(0, .ref (cw_a (cr_w K) 0))] [] from ?_)
  refine cw_aload_n dX11_siblingCount_0 0 rfl rfl ?_
  refine cw_aload_n dX11_siblingCount_1 0 rfl rfl ?_
  refine cw_getf (C := RX11) (T := TX11) (N := 20) (ci := 9) inX11_siblingCount_RX11 0 (show 0 < 11 by decide) rfl rfl 0 (by decide) (by decide +kernel) rfl dX11_siblingCount_2 ?_
  refine cw_iconst (v := 1) dX11_siblingCount_5 (by decide) ?_
  refine cw_ialdL (j := 1) 1 (show 1 < 11 by decide) rfl 0 rfl dX11_siblingCount_6 rfl (by decide) (by decide) ?_
  obtain ⟨v_7, J_7, hc_7, h⟩ := h
  refine cw_callV (o := 0) (As := [.int (I 1 1)]) hc_7 okX11_plain rfl gX11_siblingCount_X11_plain (by decide) (show 0 < 11 by decide) rfl (ci := 9) rfl rfl (Nat.le_of_ble_eq_true rfl) dX11_siblingCount_7 ?_
  exact cw_iret rfl dX11_siblingCount_10 h
abbrev bX11_siblingNamed_0_2 (K : cw_K) (r : Option Value) (J0 : cw_M) (x1 : Int32) (x2 : Int32) (x3 : Int32) (I : cw_M) : Prop := cw_B (cr_w K) mX11_siblingNamed (cw_Z (cr_w K) r J0) 0 0 I 2 [(0, .ref (cw_a (cr_w K) 0)), (1, .int x1), (2, .int x2), (3, .int x3)] []
abbrev bX11_siblingNamed_0_42 (K : cw_K) (r : Option Value) (J0 : cw_M) (x1 : Int32) (x2 : Int32) (x3 : Int32) (x4 : Int32) (x5 : Int32) (x6 : Int32) (I : cw_M) : Prop := cw_B (cr_w K) mX11_siblingNamed (cw_Z (cr_w K) r J0) 0 0 I 42 [(0, .ref (cw_a (cr_w K) 0)), (1, .int x1), (2, .int x2), (3, .int x3), (4, .int x4), (5, .int x5), (6, .int x6)] []
set_option maxRecDepth 20000 in
set_option maxHeartbeats 4000000 in
theorem eX11_siblingNamed_0 {K : cw_K} {r : Option Value} {J0 I : cw_M} {x1 : Int32} {x2 : Int32} (h : bX11_siblingNamed_0_2 K r J0 x1 x2 0 I) : cw_C (cr_w K) mX11_siblingNamed [.ref (cw_a (cr_w K) 0), .int x1, .int x2] I r J0 := by
  refine cw_entry okX11_siblingNamed (Nat.le_of_ble_eq_true rfl) (show cw_B (cr_w K) mX11_siblingNamed (cw_Z (cr_w K) r J0) 0 0 I 0 [(0, .ref (cw_a (cr_w K) 0)), (1, .int x1), (2, .int x2)] [] from ?_)
  refine cw_iconst (v := 0) dX11_siblingNamed_0 (by decide) ?_
  refine cw_istore_n dX11_siblingNamed_1 rfl (by decide) rfl ?_
  refine cw_sub [1, 2, 3, 0] rfl ?_
  exact h
set_option maxRecDepth 20000 in
set_option maxHeartbeats 4000000 in
theorem tbX11_siblingNamed_0_2 {K : cw_K} {r : Option Value} {J0 I : cw_M} {x1 : Int32} {x2 : Int32} {x3 : Int32} (h : (((I 1 1) ≤ x3 → (r = some (.int (-1)) ∧ J0 = I)) ∧ (¬ (I 1 1) ≤ x3 → (vp_in (26 + (x3 * 31)) 2120 ∧ ((¬ (I 1 (26 + (x3 * 31)).toNatClampNeg) = x2 → bX11_siblingNamed_0_42 K r J0 x1 x2 x3 (26 + (x3 * 31)) 0 0 I) ∧ ((I 1 (26 + (x3 * 31)).toNatClampNeg) = x2 → bX11_siblingNamed_0_42 K r J0 x1 x2 x3 (26 + (x3 * 31)) 1 0 I)))))) : bX11_siblingNamed_0_2 K r J0 x1 x2 x3 I := by
  refine cw_iload_n dX11_siblingNamed_2 3 rfl rfl ?_
  refine cw_aload_n dX11_siblingNamed_3 0 rfl rfl ?_
  refine cw_getf (C := RX11) (T := TX11) (N := 20) (ci := 9) inX11_siblingNamed_RX11 0 (show 0 < 11 by decide) rfl rfl 0 (by decide) (by decide +kernel) rfl dX11_siblingNamed_4 ?_
  refine cw_iconst (v := 1) dX11_siblingNamed_7 (by decide) ?_
  refine cw_ialdL (j := 1) 1 (show 1 < 11 by decide) rfl 0 rfl dX11_siblingNamed_8 rfl (by decide) (by decide) ?_
  refine cw_icmp_ge (tgt := 103) dX11_siblingNamed_9 (by decide) (fun q => ?_) (fun q => ?_)
  · have h := h.1 q
    refine cw_iconst (v := (-1)) dX11_siblingNamed_103 (by decide) ?_
    exact cw_iret rfl dX11_siblingNamed_104 h
  · have h := h.2 q
    refine cw_bipush (v := 26) dX11_siblingNamed_12 (by decide) ?_
    refine cw_iload_n dX11_siblingNamed_14 3 rfl rfl ?_
    refine cw_bipush (v := 31) dX11_siblingNamed_15 (by decide) ?_
    refine cw_imul dX11_siblingNamed_17 ?_
    refine cw_iadd dX11_siblingNamed_18 ?_
    refine cw_istore dX11_siblingNamed_19 (by decide) rfl ?_
    refine cw_aload_n dX11_siblingNamed_21 1 rfl rfl ?_
    refine cw_getf (C := RX11) (T := TX11) (N := 20) (ci := 9) inX11_siblingNamed_RX11 0 (show 0 < 11 by decide) rfl rfl 0 (by decide) (by decide +kernel) rfl dX11_siblingNamed_22 ?_
    refine cw_iload dX11_siblingNamed_25 0 rfl ?_
    obtain ⟨g_27, h⟩ := h
    refine cw_iald 1 (show 1 < 11 by decide) rfl 0 rfl dX11_siblingNamed_27 g_27 ?_
    refine cw_iload_n dX11_siblingNamed_28 3 rfl rfl ?_
    refine cw_icmp_ne (tgt := 36) dX11_siblingNamed_29 (by decide) (fun q => ?_) (fun q => ?_)
    · have h := h.1 q
      refine cw_iconst (v := 0) dX11_siblingNamed_36 (by decide) ?_
      refine cw_istore dX11_siblingNamed_37 (by decide) rfl ?_
      refine cw_iconst (v := 0) dX11_siblingNamed_39 (by decide) ?_
      refine cw_istore dX11_siblingNamed_40 (by decide) rfl ?_
      refine cw_sub [3, 4, 5, 6, 2, 1, 0] rfl ?_
      exact h
    · have h := h.2 q
      refine cw_iconst (v := 1) dX11_siblingNamed_32 (by decide) ?_
      refine cw_goto (tgt := 37) dX11_siblingNamed_33 (by decide) ?_
      refine cw_istore dX11_siblingNamed_37 (by decide) rfl ?_
      refine cw_iconst (v := 0) dX11_siblingNamed_39 (by decide) ?_
      refine cw_istore dX11_siblingNamed_40 (by decide) rfl ?_
      refine cw_sub [3, 4, 5, 6, 2, 1, 0] rfl ?_
      exact h
set_option maxRecDepth 20000 in
set_option maxHeartbeats 4000000 in
theorem tbX11_siblingNamed_0_42 {K : cw_K} {r : Option Value} {J0 I : cw_M} {x1 : Int32} {x2 : Int32} {x3 : Int32} {x4 : Int32} {x5 : Int32} {x6 : Int32} (h : ((x5 = 0 → ((x5 = 0 → bX11_siblingNamed_0_2 K r J0 x1 x2 (x3 + 1) I) ∧ (¬ x5 = 0 → (r = some (.int x3) ∧ J0 = I)))) ∧ (¬ x5 = 0 → ((x2 ≤ x6 → ((x5 = 0 → bX11_siblingNamed_0_2 K r J0 x1 x2 (x3 + 1) I) ∧ (¬ x5 = 0 → (r = some (.int x3) ∧ J0 = I)))) ∧ (¬ x2 ≤ x6 → (vp_in ((x4 + 1) + x6) 2120 ∧ (vp_in (x1 + x6) 600 ∧ ((¬ (I 1 ((x4 + 1) + x6).toNatClampNeg) = (I 3 (x1 + x6).toNatClampNeg) → bX11_siblingNamed_0_42 K r J0 x1 x2 x3 x4 0 (x6 + 1) I) ∧ ((I 1 ((x4 + 1) + x6).toNatClampNeg) = (I 3 (x1 + x6).toNatClampNeg) → bX11_siblingNamed_0_42 K r J0 x1 x2 x3 x4 1 (x6 + 1) I))))))))) : bX11_siblingNamed_0_42 K r J0 x1 x2 x3 x4 x5 x6 I := by
  refine cw_iload dX11_siblingNamed_42 5 rfl ?_
  refine cw_if_eq (tgt := 90) dX11_siblingNamed_44 (by decide) (fun q => ?_) (fun q => ?_)
  · have h := h.1 q
    refine cw_iload dX11_siblingNamed_90 5 rfl ?_
    refine cw_if_eq (tgt := 97) dX11_siblingNamed_92 (by decide) (fun q => ?_) (fun q => ?_)
    · have h := h.1 q
      refine cw_iinc (v := x3 + 1) dX11_siblingNamed_97 (j := 3) rfl rfl (by decide) rfl ?_
      refine cw_goto (tgt := 2) dX11_siblingNamed_100 (by decide) ?_
      refine cw_sub [1, 2, 3, 0] rfl ?_
      exact h
    · have h := h.2 q
      refine cw_iload_n dX11_siblingNamed_95 3 rfl rfl ?_
      exact cw_iret rfl dX11_siblingNamed_96 h
  · have h := h.2 q
    refine cw_iload dX11_siblingNamed_47 6 rfl ?_
    refine cw_iload_n dX11_siblingNamed_49 2 rfl rfl ?_
    refine cw_icmp_ge (tgt := 90) dX11_siblingNamed_50 (by decide) (fun q => ?_) (fun q => ?_)
    · have h := h.1 q
      refine cw_iload dX11_siblingNamed_90 5 rfl ?_
      refine cw_if_eq (tgt := 97) dX11_siblingNamed_92 (by decide) (fun q => ?_) (fun q => ?_)
      · have h := h.1 q
        refine cw_iinc (v := x3 + 1) dX11_siblingNamed_97 (j := 3) rfl rfl (by decide) rfl ?_
        refine cw_goto (tgt := 2) dX11_siblingNamed_100 (by decide) ?_
        refine cw_sub [1, 2, 3, 0] rfl ?_
        exact h
      · have h := h.2 q
        refine cw_iload_n dX11_siblingNamed_95 3 rfl rfl ?_
        exact cw_iret rfl dX11_siblingNamed_96 h
    · have h := h.2 q
      refine cw_aload_n dX11_siblingNamed_53 0 rfl rfl ?_
      refine cw_getf (C := RX11) (T := TX11) (N := 20) (ci := 9) inX11_siblingNamed_RX11 0 (show 0 < 11 by decide) rfl rfl 0 (by decide) (by decide +kernel) rfl dX11_siblingNamed_54 ?_
      refine cw_iload dX11_siblingNamed_57 4 rfl ?_
      refine cw_iconst (v := 1) dX11_siblingNamed_59 (by decide) ?_
      refine cw_iadd dX11_siblingNamed_60 ?_
      refine cw_iload dX11_siblingNamed_61 6 rfl ?_
      refine cw_iadd dX11_siblingNamed_63 ?_
      obtain ⟨g_64, h⟩ := h
      refine cw_iald 1 (show 1 < 11 by decide) rfl 0 rfl dX11_siblingNamed_64 g_64 ?_
      refine cw_aload_n dX11_siblingNamed_65 0 rfl rfl ?_
      refine cw_getf (C := RX11) (T := TX11) (N := 20) (ci := 9) inX11_siblingNamed_RX11 0 (show 0 < 11 by decide) rfl rfl 3 (by decide) (by decide +kernel) rfl dX11_siblingNamed_66 ?_
      refine cw_iload_n dX11_siblingNamed_69 1 rfl rfl ?_
      refine cw_iload dX11_siblingNamed_70 6 rfl ?_
      refine cw_iadd dX11_siblingNamed_72 ?_
      obtain ⟨g_73, h⟩ := h
      refine cw_iald 3 (show 3 < 11 by decide) rfl 0 rfl dX11_siblingNamed_73 g_73 ?_
      refine cw_icmp_ne (tgt := 81) dX11_siblingNamed_74 (by decide) (fun q => ?_) (fun q => ?_)
      · have h := h.1 q
        refine cw_iconst (v := 0) dX11_siblingNamed_81 (by decide) ?_
        refine cw_istore dX11_siblingNamed_82 (by decide) rfl ?_
        refine cw_iinc (v := x6 + 1) dX11_siblingNamed_84 (j := 6) rfl rfl (by decide) rfl ?_
        refine cw_goto (tgt := 42) dX11_siblingNamed_87 (by decide) ?_
        refine cw_sub [2, 3, 4, 5, 6, 1, 0] rfl ?_
        exact h
      · have h := h.2 q
        refine cw_iconst (v := 1) dX11_siblingNamed_77 (by decide) ?_
        refine cw_goto (tgt := 82) dX11_siblingNamed_78 (by decide) ?_
        refine cw_istore dX11_siblingNamed_82 (by decide) rfl ?_
        refine cw_iinc (v := x6 + 1) dX11_siblingNamed_84 (j := 6) rfl rfl (by decide) rfl ?_
        refine cw_goto (tgt := 42) dX11_siblingNamed_87 (by decide) ?_
        refine cw_sub [2, 3, 4, 5, 6, 1, 0] rfl ?_
        exact h
abbrev bX11_sizeOf_0_4 (K : cw_K) (r : Option Value) (J0 : cw_M) (x1 : Int32) (x2 : Int32) (x3 : Int32) (I : cw_M) : Prop := cw_B (cr_w K) mX11_sizeOf (cw_Z (cr_w K) r J0) 0 0 I 4 [(0, .ref (cw_a (cr_w K) 0)), (1, .int x1), (2, .int x2), (3, .int x3)] []
set_option maxRecDepth 20000 in
set_option maxHeartbeats 4000000 in
theorem eX11_sizeOf_0 {K : cw_K} {r : Option Value} {J0 I : cw_M} {x1 : Int32} (h : bX11_sizeOf_0_4 K r J0 x1 0 0 I) : cw_C (cr_w K) mX11_sizeOf [.ref (cw_a (cr_w K) 0), .int x1] I r J0 := by
  refine cw_entry okX11_sizeOf (Nat.le_of_ble_eq_true rfl) (show cw_B (cr_w K) mX11_sizeOf (cw_Z (cr_w K) r J0) 0 0 I 0 [(0, .ref (cw_a (cr_w K) 0)), (1, .int x1)] [] from ?_)
  refine cw_iconst (v := 0) dX11_sizeOf_0 (by decide) ?_
  refine cw_istore_n dX11_sizeOf_1 rfl (by decide) rfl ?_
  refine cw_iconst (v := 0) dX11_sizeOf_2 (by decide) ?_
  refine cw_istore_n dX11_sizeOf_3 rfl (by decide) rfl ?_
  refine cw_sub [2, 3, 1, 0] rfl ?_
  exact h
set_option maxRecDepth 20000 in
set_option maxHeartbeats 4000000 in
theorem tbX11_sizeOf_0_4 {K : cw_K} {r : Option Value} {J0 I : cw_M} {x1 : Int32} {x2 : Int32} {x3 : Int32} (h : (((I 1 0) ≤ x3 → (r = some (.int x2) ∧ J0 = I)) ∧ (¬ (I 1 0) ≤ x3 → (∃ (v_17 : Int32) (J_17 : cw_M), cw_C (cr_w K) mX11_ownerOf [.ref (cw_a (cr_w K) 0), .int x3] I (some (.int v_17)) J_17 ∧ ((¬ v_17 = x1 → bX11_sizeOf_0_4 K r J0 x1 (x2 + 0) (x3 + 1) J_17) ∧ (v_17 = x1 → bX11_sizeOf_0_4 K r J0 x1 (x2 + 1) (x3 + 1) J_17)))))) : bX11_sizeOf_0_4 K r J0 x1 x2 x3 I := by
  refine cw_iload_n dX11_sizeOf_4 3 rfl rfl ?_
  refine cw_aload_n dX11_sizeOf_5 0 rfl rfl ?_
  refine cw_getf (C := RX11) (T := TX11) (N := 20) (ci := 9) inX11_sizeOf_RX11 0 (show 0 < 11 by decide) rfl rfl 0 (by decide) (by decide +kernel) rfl dX11_sizeOf_6 ?_
  refine cw_iconst (v := 0) dX11_sizeOf_9 (by decide) ?_
  refine cw_ialdL (j := 0) 1 (show 1 < 11 by decide) rfl 0 rfl dX11_sizeOf_10 rfl (by decide) (by decide) ?_
  refine cw_icmp_ge (tgt := 37) dX11_sizeOf_11 (by decide) (fun q => ?_) (fun q => ?_)
  · have h := h.1 q
    refine cw_iload_n dX11_sizeOf_37 2 rfl rfl ?_
    exact cw_iret rfl dX11_sizeOf_38 h
  · have h := h.2 q
    refine cw_iload_n dX11_sizeOf_14 2 rfl rfl ?_
    refine cw_aload_n dX11_sizeOf_15 0 rfl rfl ?_
    refine cw_iload_n dX11_sizeOf_16 3 rfl rfl ?_
    obtain ⟨v_17, J_17, hc_17, h⟩ := h
    refine cw_callV (o := 0) (As := [.int x3]) hc_17 okX11_ownerOf rfl gX11_sizeOf_X11_ownerOf (by decide) (show 0 < 11 by decide) rfl (ci := 9) rfl rfl (Nat.le_of_ble_eq_true rfl) dX11_sizeOf_17 ?_
    refine cw_iload_n dX11_sizeOf_20 1 rfl rfl ?_
    refine cw_icmp_ne (tgt := 28) dX11_sizeOf_21 (by decide) (fun q => ?_) (fun q => ?_)
    · have h := h.1 q
      refine cw_iconst (v := 0) dX11_sizeOf_28 (by decide) ?_
      refine cw_iadd dX11_sizeOf_29 ?_
      refine cw_istore_n dX11_sizeOf_30 rfl (by decide) rfl ?_
      refine cw_iinc (v := x3 + 1) dX11_sizeOf_31 (j := 3) rfl rfl (by decide) rfl ?_
      refine cw_goto (tgt := 4) dX11_sizeOf_34 (by decide) ?_
      refine cw_sub [2, 3, 1, 0] rfl ?_
      exact h
    · have h := h.2 q
      refine cw_iconst (v := 1) dX11_sizeOf_24 (by decide) ?_
      refine cw_goto (tgt := 29) dX11_sizeOf_25 (by decide) ?_
      refine cw_iadd dX11_sizeOf_29 ?_
      refine cw_istore_n dX11_sizeOf_30 rfl (by decide) rfl ?_
      refine cw_iinc (v := x3 + 1) dX11_sizeOf_31 (j := 3) rfl rfl (by decide) rfl ?_
      refine cw_goto (tgt := 4) dX11_sizeOf_34 (by decide) ?_
      refine cw_sub [2, 3, 1, 0] rfl ?_
      exact h
abbrev bX11_strongEnvyCount_0_9 (K : cw_K) (r : Option Value) (J0 : cw_M) (x1 : Int32) (x2 : Int32) (I : cw_M) : Prop := cw_B (cr_w K) mX11_strongEnvyCount (cw_Z (cr_w K) r J0) 0 0 I 9 [(0, .ref (cw_a (cr_w K) 0)), (1, .int x1), (2, .int x2)] []
abbrev bX11_strongEnvyCount_0_21 (K : cw_K) (r : Option Value) (J0 : cw_M) (x1 : Int32) (x2 : Int32) (x3 : Int32) (I : cw_M) : Prop := cw_B (cr_w K) mX11_strongEnvyCount (cw_Z (cr_w K) r J0) 0 0 I 21 [(0, .ref (cw_a (cr_w K) 0)), (1, .int x1), (2, .int x2), (3, .int x3)] []
set_option maxRecDepth 20000 in
set_option maxHeartbeats 4000000 in
theorem eX11_strongEnvyCount_0 {K : cw_K} {r : Option Value} {J0 I : cw_M} (h : bX11_strongEnvyCount_0_9 K r J0 0 0 (cw_st I 0 9 0)) : cw_C (cr_w K) mX11_strongEnvyCount [.ref (cw_a (cr_w K) 0)] I r J0 := by
  refine cw_entry okX11_strongEnvyCount (Nat.le_of_ble_eq_true rfl) (show cw_B (cr_w K) mX11_strongEnvyCount (cw_Z (cr_w K) r J0) 0 0 I 0 [(0, .ref (cw_a (cr_w K) 0))] [] from ?_)
  refine cw_aload_n dX11_strongEnvyCount_0 0 rfl rfl ?_
  refine cw_iconst (v := 0) dX11_strongEnvyCount_1 (by decide) ?_
  refine cw_putf (C := RX11) (T := TX11) (N := 20) (ci := 9) inX11_strongEnvyCount_RX11 tyX11 tyX11_ok nmX11 0 (show 0 < 11 by decide) rfl rfl 9 (by decide) (by decide +kernel) rfl rfl (show 9 < 20 by decide) rfl dX11_strongEnvyCount_2 ?_
  refine cw_iconst (v := 0) dX11_strongEnvyCount_5 (by decide) ?_
  refine cw_istore_n dX11_strongEnvyCount_6 rfl (by decide) rfl ?_
  refine cw_iconst (v := 0) dX11_strongEnvyCount_7 (by decide) ?_
  refine cw_istore_n dX11_strongEnvyCount_8 rfl (by decide) rfl ?_
  refine cw_sub [2, 1, 0] rfl ?_
  exact h
set_option maxRecDepth 20000 in
set_option maxHeartbeats 4000000 in
theorem tbX11_strongEnvyCount_0_9 {K : cw_K} {r : Option Value} {J0 I : cw_M} {x1 : Int32} {x2 : Int32} (h : (((I 1 1) ≤ x2 → (r = some (.int x1) ∧ J0 = I)) ∧ (¬ (I 1 1) ≤ x2 → bX11_strongEnvyCount_0_21 K r J0 x1 x2 0 I))) : bX11_strongEnvyCount_0_9 K r J0 x1 x2 I := by
  refine cw_iload_n dX11_strongEnvyCount_9 2 rfl rfl ?_
  refine cw_aload_n dX11_strongEnvyCount_10 0 rfl rfl ?_
  refine cw_getf (C := RX11) (T := TX11) (N := 20) (ci := 9) inX11_strongEnvyCount_RX11 0 (show 0 < 11 by decide) rfl rfl 0 (by decide) (by decide +kernel) rfl dX11_strongEnvyCount_11 ?_
  refine cw_iconst (v := 1) dX11_strongEnvyCount_14 (by decide) ?_
  refine cw_ialdL (j := 1) 1 (show 1 < 11 by decide) rfl 0 rfl dX11_strongEnvyCount_15 rfl (by decide) (by decide) ?_
  refine cw_icmp_ge (tgt := 69) dX11_strongEnvyCount_16 (by decide) (fun q => ?_) (fun q => ?_)
  · have h := h.1 q
    refine cw_iload_n dX11_strongEnvyCount_69 1 rfl rfl ?_
    exact cw_iret rfl dX11_strongEnvyCount_70 h
  · have h := h.2 q
    refine cw_iconst (v := 0) dX11_strongEnvyCount_19 (by decide) ?_
    refine cw_istore_n dX11_strongEnvyCount_20 rfl (by decide) rfl ?_
    refine cw_sub [1, 2, 3, 0] rfl ?_
    exact h
set_option maxRecDepth 20000 in
set_option maxHeartbeats 4000000 in
theorem tbX11_strongEnvyCount_0_21 {K : cw_K} {r : Option Value} {J0 I : cw_M} {x1 : Int32} {x2 : Int32} {x3 : Int32} (h : (((I 1 1) ≤ x3 → bX11_strongEnvyCount_0_9 K r J0 x1 (x2 + 1) I) ∧ (¬ (I 1 1) ≤ x3 → (∃ (v_35 : Int32) (J_35 : cw_M), cw_C (cr_w K) mX11_hasEnvy [.ref (cw_a (cr_w K) 0), .int x2, .int x3] I (some (.int v_35)) J_35 ∧ ((v_35 = 0 → bX11_strongEnvyCount_0_21 K r J0 (x1 + 0) x2 (x3 + 1) J_35) ∧ (¬ v_35 = 0 → (∃ (v_44 : Int32) (J_44 : cw_M), cw_C (cr_w K) mX11_hasMildEnvy [.ref (cw_a (cr_w K) 0), .int x2, .int x3] J_35 (some (.int v_44)) J_44 ∧ ((¬ v_44 = 0 → bX11_strongEnvyCount_0_21 K r J0 (x1 + 0) x2 (x3 + 1) J_44) ∧ (v_44 = 0 → bX11_strongEnvyCount_0_21 K r J0 (x1 + 1) x2 (x3 + 1) J_44))))))))) : bX11_strongEnvyCount_0_21 K r J0 x1 x2 x3 I := by
  refine cw_iload_n dX11_strongEnvyCount_21 3 rfl rfl ?_
  refine cw_aload_n dX11_strongEnvyCount_22 0 rfl rfl ?_
  refine cw_getf (C := RX11) (T := TX11) (N := 20) (ci := 9) inX11_strongEnvyCount_RX11 0 (show 0 < 11 by decide) rfl rfl 0 (by decide) (by decide +kernel) rfl dX11_strongEnvyCount_23 ?_
  refine cw_iconst (v := 1) dX11_strongEnvyCount_26 (by decide) ?_
  refine cw_ialdL (j := 1) 1 (show 1 < 11 by decide) rfl 0 rfl dX11_strongEnvyCount_27 rfl (by decide) (by decide) ?_
  refine cw_icmp_ge (tgt := 63) dX11_strongEnvyCount_28 (by decide) (fun q => ?_) (fun q => ?_)
  · have h := h.1 q
    refine cw_iinc (v := x2 + 1) dX11_strongEnvyCount_63 (j := 2) rfl rfl (by decide) rfl ?_
    refine cw_goto (tgt := 9) dX11_strongEnvyCount_66 (by decide) ?_
    refine cw_sub [1, 2, 0] rfl ?_
    exact h
  · have h := h.2 q
    refine cw_iload_n dX11_strongEnvyCount_31 1 rfl rfl ?_
    refine cw_aload_n dX11_strongEnvyCount_32 0 rfl rfl ?_
    refine cw_iload_n dX11_strongEnvyCount_33 2 rfl rfl ?_
    refine cw_iload_n dX11_strongEnvyCount_34 3 rfl rfl ?_
    obtain ⟨v_35, J_35, hc_35, h⟩ := h
    refine cw_callV (o := 0) (As := [.int x2, .int x3]) hc_35 okX11_hasEnvy rfl gX11_strongEnvyCount_X11_hasEnvy (by decide) (show 0 < 11 by decide) rfl (ci := 9) rfl rfl (Nat.le_of_ble_eq_true rfl) dX11_strongEnvyCount_35 ?_
    refine cw_if_eq (tgt := 54) dX11_strongEnvyCount_38 (by decide) (fun q => ?_) (fun q => ?_)
    · have h := h.1 q
      refine cw_iconst (v := 0) dX11_strongEnvyCount_54 (by decide) ?_
      refine cw_iadd dX11_strongEnvyCount_55 ?_
      refine cw_istore_n dX11_strongEnvyCount_56 rfl (by decide) rfl ?_
      refine cw_iinc (v := x3 + 1) dX11_strongEnvyCount_57 (j := 3) rfl rfl (by decide) rfl ?_
      refine cw_goto (tgt := 21) dX11_strongEnvyCount_60 (by decide) ?_
      refine cw_sub [2, 1, 3, 0] rfl ?_
      exact h
    · have h := h.2 q
      refine cw_aload_n dX11_strongEnvyCount_41 0 rfl rfl ?_
      refine cw_iload_n dX11_strongEnvyCount_42 2 rfl rfl ?_
      refine cw_iload_n dX11_strongEnvyCount_43 3 rfl rfl ?_
      obtain ⟨v_44, J_44, hc_44, h⟩ := h
      refine cw_callV (o := 0) (As := [.int x2, .int x3]) hc_44 okX11_hasMildEnvy rfl gX11_strongEnvyCount_X11_hasMildEnvy (by decide) (show 0 < 11 by decide) rfl (ci := 9) rfl rfl (Nat.le_of_ble_eq_true rfl) dX11_strongEnvyCount_44 ?_
      refine cw_if_ne (tgt := 54) dX11_strongEnvyCount_47 (by decide) (fun q => ?_) (fun q => ?_)
      · have h := h.1 q
        refine cw_iconst (v := 0) dX11_strongEnvyCount_54 (by decide) ?_
        refine cw_iadd dX11_strongEnvyCount_55 ?_
        refine cw_istore_n dX11_strongEnvyCount_56 rfl (by decide) rfl ?_
        refine cw_iinc (v := x3 + 1) dX11_strongEnvyCount_57 (j := 3) rfl rfl (by decide) rfl ?_
        refine cw_goto (tgt := 21) dX11_strongEnvyCount_60 (by decide) ?_
        refine cw_sub [2, 1, 3, 0] rfl ?_
        exact h
      · have h := h.2 q
        refine cw_iconst (v := 1) dX11_strongEnvyCount_50 (by decide) ?_
        refine cw_goto (tgt := 55) dX11_strongEnvyCount_51 (by decide) ?_
        refine cw_iadd dX11_strongEnvyCount_55 ?_
        refine cw_istore_n dX11_strongEnvyCount_56 rfl (by decide) rfl ?_
        refine cw_iinc (v := x3 + 1) dX11_strongEnvyCount_57 (j := 3) rfl rfl (by decide) rfl ?_
        refine cw_goto (tgt := 21) dX11_strongEnvyCount_60 (by decide) ?_
        refine cw_sub [2, 1, 3, 0] rfl ?_
        exact h
set_option maxRecDepth 20000 in
set_option maxHeartbeats 4000000 in
theorem eX11_swapSequence_0 {K : cw_K} {r : Option Value} {J0 I : cw_M} {x1 : Int32} {x2 : Int32} (h : (vp_in x1 6 ∧ (vp_in x2 6 ∧ (vp_in x1 6 ∧ (vp_in x2 6 ∧ (r = none ∧ J0 = cw_st (cw_st I 9 x1.toNatClampNeg (I 9 x2.toNatClampNeg)) 9 x2.toNatClampNeg (I 9 x1.toNatClampNeg))))))) : cw_C (cr_w K) mX11_swapSequence [.ref (cw_a (cr_w K) 0), .int x1, .int x2] I r J0 := by
  refine cw_entry okX11_swapSequence (Nat.le_of_ble_eq_true rfl) (show cw_B (cr_w K) mX11_swapSequence (cw_Z (cr_w K) r J0) 0 0 I 0 [(0, .ref (cw_a (cr_w K) 0)), (1, .int x1), (2, .int x2)] [] from ?_)
  refine cw_aload_n dX11_swapSequence_0 0 rfl rfl ?_
  refine cw_getf (C := RX11) (T := TX11) (N := 20) (ci := 9) inX11_swapSequence_RX11 0 (show 0 < 11 by decide) rfl rfl 14 (by decide) (by decide +kernel) rfl dX11_swapSequence_1 ?_
  refine cw_iload_n dX11_swapSequence_4 1 rfl rfl ?_
  obtain ⟨g_5, h⟩ := h
  refine cw_iald 9 (show 9 < 11 by decide) rfl 0 rfl dX11_swapSequence_5 g_5 ?_
  refine cw_istore_n dX11_swapSequence_6 rfl (by decide) rfl ?_
  refine cw_aload_n dX11_swapSequence_7 1 rfl rfl ?_
  refine cw_getf (C := RX11) (T := TX11) (N := 20) (ci := 9) inX11_swapSequence_RX11 0 (show 0 < 11 by decide) rfl rfl 14 (by decide) (by decide +kernel) rfl dX11_swapSequence_8 ?_
  refine cw_iload_n dX11_swapSequence_11 2 rfl rfl ?_
  refine cw_aload_n dX11_swapSequence_12 1 rfl rfl ?_
  refine cw_getf (C := RX11) (T := TX11) (N := 20) (ci := 9) inX11_swapSequence_RX11 0 (show 0 < 11 by decide) rfl rfl 14 (by decide) (by decide +kernel) rfl dX11_swapSequence_13 ?_
  refine cw_iload_n dX11_swapSequence_16 3 rfl rfl ?_
  obtain ⟨g_17, h⟩ := h
  refine cw_iald 9 (show 9 < 11 by decide) rfl 0 rfl dX11_swapSequence_17 g_17 ?_
  obtain ⟨g_18, h⟩ := h
  refine cw_iast 9 (show 9 < 11 by decide) (fun _ => rfl) 0 rfl dX11_swapSequence_18 g_18 ?_
  refine cw_aload_n dX11_swapSequence_19 1 rfl rfl ?_
  refine cw_getf (C := RX11) (T := TX11) (N := 20) (ci := 9) inX11_swapSequence_RX11 0 (show 0 < 11 by decide) rfl rfl 14 (by decide) (by decide +kernel) rfl dX11_swapSequence_20 ?_
  refine cw_iload_n dX11_swapSequence_23 3 rfl rfl ?_
  refine cw_iload_n dX11_swapSequence_24 0 rfl rfl ?_
  obtain ⟨g_25, h⟩ := h
  refine cw_iast 9 (show 9 < 11 by decide) (fun _ => rfl) 0 rfl dX11_swapSequence_25 g_25 ?_
  exact cw_vret rfl dX11_swapSequence_26 h
set_option maxRecDepth 20000 in
set_option maxHeartbeats 4000000 in
theorem eX11_swapShares_0 {K : cw_K} {r : Option Value} {J0 I : cw_M} {x1 : Int32} {x2 : Int32} (h : (∃ (v_4 : Int32) (J_4 : cw_M), cw_C (cr_w K) mX11_areSiblings [.ref (cw_a (cr_w K) 0), .int x1, .int x2] I (some (.int v_4)) J_4 ∧ ((¬ v_4 = 0 → ((¬ x1 = x2 → (∃ (v_26 : Int32) (J_26 : cw_M), cw_C (cr_w K) mX11_fails [.ref (cw_a (cr_w K) 0), .int 0, .int 0, .int 0] J_4 (some (.int v_26)) J_26 ∧ ((v_26 = 0 → (∃ J_36 : cw_M, cw_C (cr_w K) mX11_remember [.ref (cw_a (cr_w K) 0), .int 0] J_26 none J_36 ∧ (∃ J_42 : cw_M, cw_C (cr_w K) mX11_exchange [.ref (cw_a (cr_w K) 0), .int x1, .int x2] J_36 none J_42 ∧ (∃ (v_46 : Int32) (J_46 : cw_M), cw_C (cr_w K) mX11_envyTotal [.ref (cw_a (cr_w K) 0)] J_42 (some (.int v_46)) J_46 ∧ (r = some (.int v_46) ∧ J0 = J_46))))) ∧ (¬ v_26 = 0 → (r = some (.int 0) ∧ J0 = J_26))))) ∧ (x1 = x2 → (∃ (v_26 : Int32) (J_26 : cw_M), cw_C (cr_w K) mX11_fails [.ref (cw_a (cr_w K) 0), .int 0, .int 1, .int 0] J_4 (some (.int v_26)) J_26 ∧ ((v_26 = 0 → (∃ J_36 : cw_M, cw_C (cr_w K) mX11_remember [.ref (cw_a (cr_w K) 0), .int 0] J_26 none J_36 ∧ (∃ J_42 : cw_M, cw_C (cr_w K) mX11_exchange [.ref (cw_a (cr_w K) 0), .int x1, .int x2] J_36 none J_42 ∧ (∃ (v_46 : Int32) (J_46 : cw_M), cw_C (cr_w K) mX11_envyTotal [.ref (cw_a (cr_w K) 0)] J_42 (some (.int v_46)) J_46 ∧ (r = some (.int v_46) ∧ J0 = J_46))))) ∧ (¬ v_26 = 0 → (r = some (.int 0) ∧ J0 = J_26))))))) ∧ (v_4 = 0 → ((¬ x1 = x2 → (∃ (v_26 : Int32) (J_26 : cw_M), cw_C (cr_w K) mX11_fails [.ref (cw_a (cr_w K) 0), .int 1, .int 0, .int 0] J_4 (some (.int v_26)) J_26 ∧ ((v_26 = 0 → (∃ J_36 : cw_M, cw_C (cr_w K) mX11_remember [.ref (cw_a (cr_w K) 0), .int 0] J_26 none J_36 ∧ (∃ J_42 : cw_M, cw_C (cr_w K) mX11_exchange [.ref (cw_a (cr_w K) 0), .int x1, .int x2] J_36 none J_42 ∧ (∃ (v_46 : Int32) (J_46 : cw_M), cw_C (cr_w K) mX11_envyTotal [.ref (cw_a (cr_w K) 0)] J_42 (some (.int v_46)) J_46 ∧ (r = some (.int v_46) ∧ J0 = J_46))))) ∧ (¬ v_26 = 0 → (r = some (.int 0) ∧ J0 = J_26))))) ∧ (x1 = x2 → (∃ (v_26 : Int32) (J_26 : cw_M), cw_C (cr_w K) mX11_fails [.ref (cw_a (cr_w K) 0), .int 1, .int 1, .int 0] J_4 (some (.int v_26)) J_26 ∧ ((v_26 = 0 → (∃ J_36 : cw_M, cw_C (cr_w K) mX11_remember [.ref (cw_a (cr_w K) 0), .int 0] J_26 none J_36 ∧ (∃ J_42 : cw_M, cw_C (cr_w K) mX11_exchange [.ref (cw_a (cr_w K) 0), .int x1, .int x2] J_36 none J_42 ∧ (∃ (v_46 : Int32) (J_46 : cw_M), cw_C (cr_w K) mX11_envyTotal [.ref (cw_a (cr_w K) 0)] J_42 (some (.int v_46)) J_46 ∧ (r = some (.int v_46) ∧ J0 = J_46))))) ∧ (¬ v_26 = 0 → (r = some (.int 0) ∧ J0 = J_26)))))))))) : cw_C (cr_w K) mX11_swapShares [.ref (cw_a (cr_w K) 0), .int x1, .int x2] I r J0 := by
  refine cw_entry okX11_swapShares (Nat.le_of_ble_eq_true rfl) (show cw_B (cr_w K) mX11_swapShares (cw_Z (cr_w K) r J0) 0 0 I 0 [(0, .ref (cw_a (cr_w K) 0)), (1, .int x1), (2, .int x2)] [] from ?_)
  refine cw_aload_n dX11_swapShares_0 0 rfl rfl ?_
  refine cw_aload_n dX11_swapShares_1 0 rfl rfl ?_
  refine cw_iload_n dX11_swapShares_2 1 rfl rfl ?_
  refine cw_iload_n dX11_swapShares_3 2 rfl rfl ?_
  obtain ⟨v_4, J_4, hc_4, h⟩ := h
  refine cw_callV (o := 0) (As := [.int x1, .int x2]) hc_4 okX11_areSiblings rfl gX11_swapShares_X11_areSiblings (by decide) (show 0 < 11 by decide) rfl (ci := 9) rfl rfl (Nat.le_of_ble_eq_true rfl) dX11_swapShares_4 ?_
  refine cw_if_ne (tgt := 14) dX11_swapShares_7 (by decide) (fun q => ?_) (fun q => ?_)
  · have h := h.1 q
    refine cw_iconst (v := 0) dX11_swapShares_14 (by decide) ?_
    refine cw_iload_n dX11_swapShares_15 1 rfl rfl ?_
    refine cw_iload_n dX11_swapShares_16 2 rfl rfl ?_
    refine cw_icmp_ne (tgt := 24) dX11_swapShares_17 (by decide) (fun q => ?_) (fun q => ?_)
    · have h := h.1 q
      refine cw_iconst (v := 0) dX11_swapShares_24 (by decide) ?_
      refine cw_iconst (v := 0) dX11_swapShares_25 (by decide) ?_
      obtain ⟨v_26, J_26, hc_26, h⟩ := h
      refine cw_callV (o := 0) (As := [.int 0, .int 0, .int 0]) hc_26 okX11_fails rfl gX11_swapShares_X11_fails (by decide) (show 0 < 11 by decide) rfl (ci := 9) rfl rfl (Nat.le_of_ble_eq_true rfl) dX11_swapShares_26 ?_
      refine cw_if_eq (tgt := 34) dX11_swapShares_29 (by decide) (fun q => ?_) (fun q => ?_)
      · have h := h.1 q
        refine cw_aload_n dX11_swapShares_34 0 rfl rfl ?_
        refine cw_iconst (v := 0) dX11_swapShares_35 (by decide) ?_
        obtain ⟨J_36, hc_36, h⟩ := h
        refine cw_callV (o := 0) (As := [.int 0]) hc_36 okX11_remember rfl gX11_swapShares_X11_remember (by decide) (show 0 < 11 by decide) rfl (ci := 9) rfl rfl (Nat.le_of_ble_eq_true rfl) dX11_swapShares_36 ?_
        refine cw_aload_n dX11_swapShares_39 0 rfl rfl ?_
        refine cw_iload_n dX11_swapShares_40 1 rfl rfl ?_
        refine cw_iload_n dX11_swapShares_41 2 rfl rfl ?_
        obtain ⟨J_42, hc_42, h⟩ := h
        refine cw_callV (o := 0) (As := [.int x1, .int x2]) hc_42 okX11_exchange rfl gX11_swapShares_X11_exchange (by decide) (show 0 < 11 by decide) rfl (ci := 9) rfl rfl (Nat.le_of_ble_eq_true rfl) dX11_swapShares_42 ?_
        refine cw_aload_n dX11_swapShares_45 0 rfl rfl ?_
        obtain ⟨v_46, J_46, hc_46, h⟩ := h
        refine cw_callV (o := 0) (As := []) hc_46 okX11_envyTotal rfl gX11_swapShares_X11_envyTotal (by decide) (show 0 < 11 by decide) rfl (ci := 9) rfl rfl (Nat.le_of_ble_eq_true rfl) dX11_swapShares_46 ?_
        exact cw_iret rfl dX11_swapShares_49 h
      · have h := h.2 q
        refine cw_iconst (v := 0) dX11_swapShares_32 (by decide) ?_
        exact cw_iret rfl dX11_swapShares_33 h
    · have h := h.2 q
      refine cw_iconst (v := 1) dX11_swapShares_20 (by decide) ?_
      refine cw_goto (tgt := 25) dX11_swapShares_21 (by decide) ?_
      refine cw_iconst (v := 0) dX11_swapShares_25 (by decide) ?_
      obtain ⟨v_26, J_26, hc_26, h⟩ := h
      refine cw_callV (o := 0) (As := [.int 0, .int 1, .int 0]) hc_26 okX11_fails rfl gX11_swapShares_X11_fails (by decide) (show 0 < 11 by decide) rfl (ci := 9) rfl rfl (Nat.le_of_ble_eq_true rfl) dX11_swapShares_26 ?_
      refine cw_if_eq (tgt := 34) dX11_swapShares_29 (by decide) (fun q => ?_) (fun q => ?_)
      · have h := h.1 q
        refine cw_aload_n dX11_swapShares_34 0 rfl rfl ?_
        refine cw_iconst (v := 0) dX11_swapShares_35 (by decide) ?_
        obtain ⟨J_36, hc_36, h⟩ := h
        refine cw_callV (o := 0) (As := [.int 0]) hc_36 okX11_remember rfl gX11_swapShares_X11_remember (by decide) (show 0 < 11 by decide) rfl (ci := 9) rfl rfl (Nat.le_of_ble_eq_true rfl) dX11_swapShares_36 ?_
        refine cw_aload_n dX11_swapShares_39 0 rfl rfl ?_
        refine cw_iload_n dX11_swapShares_40 1 rfl rfl ?_
        refine cw_iload_n dX11_swapShares_41 2 rfl rfl ?_
        obtain ⟨J_42, hc_42, h⟩ := h
        refine cw_callV (o := 0) (As := [.int x1, .int x2]) hc_42 okX11_exchange rfl gX11_swapShares_X11_exchange (by decide) (show 0 < 11 by decide) rfl (ci := 9) rfl rfl (Nat.le_of_ble_eq_true rfl) dX11_swapShares_42 ?_
        refine cw_aload_n dX11_swapShares_45 0 rfl rfl ?_
        obtain ⟨v_46, J_46, hc_46, h⟩ := h
        refine cw_callV (o := 0) (As := []) hc_46 okX11_envyTotal rfl gX11_swapShares_X11_envyTotal (by decide) (show 0 < 11 by decide) rfl (ci := 9) rfl rfl (Nat.le_of_ble_eq_true rfl) dX11_swapShares_46 ?_
        exact cw_iret rfl dX11_swapShares_49 h
      · have h := h.2 q
        refine cw_iconst (v := 0) dX11_swapShares_32 (by decide) ?_
        exact cw_iret rfl dX11_swapShares_33 h
  · have h := h.2 q
    refine cw_iconst (v := 1) dX11_swapShares_10 (by decide) ?_
    refine cw_goto (tgt := 15) dX11_swapShares_11 (by decide) ?_
    refine cw_iload_n dX11_swapShares_15 1 rfl rfl ?_
    refine cw_iload_n dX11_swapShares_16 2 rfl rfl ?_
    refine cw_icmp_ne (tgt := 24) dX11_swapShares_17 (by decide) (fun q => ?_) (fun q => ?_)
    · have h := h.1 q
      refine cw_iconst (v := 0) dX11_swapShares_24 (by decide) ?_
      refine cw_iconst (v := 0) dX11_swapShares_25 (by decide) ?_
      obtain ⟨v_26, J_26, hc_26, h⟩ := h
      refine cw_callV (o := 0) (As := [.int 1, .int 0, .int 0]) hc_26 okX11_fails rfl gX11_swapShares_X11_fails (by decide) (show 0 < 11 by decide) rfl (ci := 9) rfl rfl (Nat.le_of_ble_eq_true rfl) dX11_swapShares_26 ?_
      refine cw_if_eq (tgt := 34) dX11_swapShares_29 (by decide) (fun q => ?_) (fun q => ?_)
      · have h := h.1 q
        refine cw_aload_n dX11_swapShares_34 0 rfl rfl ?_
        refine cw_iconst (v := 0) dX11_swapShares_35 (by decide) ?_
        obtain ⟨J_36, hc_36, h⟩ := h
        refine cw_callV (o := 0) (As := [.int 0]) hc_36 okX11_remember rfl gX11_swapShares_X11_remember (by decide) (show 0 < 11 by decide) rfl (ci := 9) rfl rfl (Nat.le_of_ble_eq_true rfl) dX11_swapShares_36 ?_
        refine cw_aload_n dX11_swapShares_39 0 rfl rfl ?_
        refine cw_iload_n dX11_swapShares_40 1 rfl rfl ?_
        refine cw_iload_n dX11_swapShares_41 2 rfl rfl ?_
        obtain ⟨J_42, hc_42, h⟩ := h
        refine cw_callV (o := 0) (As := [.int x1, .int x2]) hc_42 okX11_exchange rfl gX11_swapShares_X11_exchange (by decide) (show 0 < 11 by decide) rfl (ci := 9) rfl rfl (Nat.le_of_ble_eq_true rfl) dX11_swapShares_42 ?_
        refine cw_aload_n dX11_swapShares_45 0 rfl rfl ?_
        obtain ⟨v_46, J_46, hc_46, h⟩ := h
        refine cw_callV (o := 0) (As := []) hc_46 okX11_envyTotal rfl gX11_swapShares_X11_envyTotal (by decide) (show 0 < 11 by decide) rfl (ci := 9) rfl rfl (Nat.le_of_ble_eq_true rfl) dX11_swapShares_46 ?_
        exact cw_iret rfl dX11_swapShares_49 h
      · have h := h.2 q
        refine cw_iconst (v := 0) dX11_swapShares_32 (by decide) ?_
        exact cw_iret rfl dX11_swapShares_33 h
    · have h := h.2 q
      refine cw_iconst (v := 1) dX11_swapShares_20 (by decide) ?_
      refine cw_goto (tgt := 25) dX11_swapShares_21 (by decide) ?_
      refine cw_iconst (v := 0) dX11_swapShares_25 (by decide) ?_
      obtain ⟨v_26, J_26, hc_26, h⟩ := h
      refine cw_callV (o := 0) (As := [.int 1, .int 1, .int 0]) hc_26 okX11_fails rfl gX11_swapShares_X11_fails (by decide) (show 0 < 11 by decide) rfl (ci := 9) rfl rfl (Nat.le_of_ble_eq_true rfl) dX11_swapShares_26 ?_
      refine cw_if_eq (tgt := 34) dX11_swapShares_29 (by decide) (fun q => ?_) (fun q => ?_)
      · have h := h.1 q
        refine cw_aload_n dX11_swapShares_34 0 rfl rfl ?_
        refine cw_iconst (v := 0) dX11_swapShares_35 (by decide) ?_
        obtain ⟨J_36, hc_36, h⟩ := h
        refine cw_callV (o := 0) (As := [.int 0]) hc_36 okX11_remember rfl gX11_swapShares_X11_remember (by decide) (show 0 < 11 by decide) rfl (ci := 9) rfl rfl (Nat.le_of_ble_eq_true rfl) dX11_swapShares_36 ?_
        refine cw_aload_n dX11_swapShares_39 0 rfl rfl ?_
        refine cw_iload_n dX11_swapShares_40 1 rfl rfl ?_
        refine cw_iload_n dX11_swapShares_41 2 rfl rfl ?_
        obtain ⟨J_42, hc_42, h⟩ := h
        refine cw_callV (o := 0) (As := [.int x1, .int x2]) hc_42 okX11_exchange rfl gX11_swapShares_X11_exchange (by decide) (show 0 < 11 by decide) rfl (ci := 9) rfl rfl (Nat.le_of_ble_eq_true rfl) dX11_swapShares_42 ?_
        refine cw_aload_n dX11_swapShares_45 0 rfl rfl ?_
        obtain ⟨v_46, J_46, hc_46, h⟩ := h
        refine cw_callV (o := 0) (As := []) hc_46 okX11_envyTotal rfl gX11_swapShares_X11_envyTotal (by decide) (show 0 < 11 by decide) rfl (ci := 9) rfl rfl (Nat.le_of_ble_eq_true rfl) dX11_swapShares_46 ?_
        exact cw_iret rfl dX11_swapShares_49 h
      · have h := h.2 q
        refine cw_iconst (v := 0) dX11_swapShares_32 (by decide) ?_
        exact cw_iret rfl dX11_swapShares_33 h
set_option maxRecDepth 20000 in
set_option maxHeartbeats 4000000 in
theorem eX11_thrown_0 {K : cw_K} {r : Option Value} {J0 I : cw_M} (h : (r = some (.int (I 0 9)) ∧ J0 = I)) : cw_C (cr_w K) mX11_thrown [.ref (cw_a (cr_w K) 0)] I r J0 := by
  refine cw_entry okX11_thrown (Nat.le_of_ble_eq_true rfl) (show cw_B (cr_w K) mX11_thrown (cw_Z (cr_w K) r J0) 0 0 I 0 [(0, .ref (cw_a (cr_w K) 0))] [] from ?_)
  refine cw_aload_n dX11_thrown_0 0 rfl rfl ?_
  refine cw_getf (C := RX11) (T := TX11) (N := 20) (ci := 9) inX11_thrown_RX11 0 (show 0 < 11 by decide) rfl rfl 9 (by decide) (by decide +kernel) rfl dX11_thrown_1 ?_
  exact cw_iret rfl dX11_thrown_4 h
abbrev bX11_token_0_0 (K : cw_K) (r : Option Value) (J0 : cw_M) (I : cw_M) : Prop := cw_B (cr_w K) mX11_token (cw_Z (cr_w K) r J0) 0 0 I 0 [(0, .ref (cw_a (cr_w K) 0))] []
abbrev bX11_token_0_175 (K : cw_K) (r : Option Value) (J0 : cw_M) (I : cw_M) : Prop := cw_B (cr_w K) mX11_token (cw_Z (cr_w K) r J0) 0 0 I 175 [(0, .ref (cw_a (cr_w K) 0))] []
abbrev bX11_token_0_92 (K : cw_K) (r : Option Value) (J0 : cw_M) (I : cw_M) : Prop := cw_B (cr_w K) mX11_token (cw_Z (cr_w K) r J0) 0 0 I 92 [(0, .ref (cw_a (cr_w K) 0))] []
set_option maxRecDepth 20000 in
set_option maxHeartbeats 4000000 in
theorem eX11_token_0 {K : cw_K} {r : Option Value} {J0 I : cw_M} (h : bX11_token_0_0 K r J0 I) : cw_C (cr_w K) mX11_token [.ref (cw_a (cr_w K) 0)] I r J0 := by
  refine cw_entry okX11_token (Nat.le_of_ble_eq_true rfl) (show cw_B (cr_w K) mX11_token (cw_Z (cr_w K) r J0) 0 0 I 0 [(0, .ref (cw_a (cr_w K) 0))] [] from ?_)
  exact h
set_option maxRecDepth 20000 in
set_option maxHeartbeats 4000000 in
theorem tbX11_token_0_0 {K : cw_K} {r : Option Value} {J0 I : cw_M} (h : (((I 0 4) ≤ (I 0 15) → ((¬ ((cw_st I 0 17 (I 0 15)) 0 15) = ((cw_st I 0 17 (I 0 15)) 0 4) → (vp_in ((cw_st I 0 17 (I 0 15)) 0 15) 600 ∧ (∃ (v_86 : Int32) (J_86 : cw_M), cw_C (cr_w K) mX11_isSmall [.int ((cw_st I 0 17 (I 0 15)) 3 ((cw_st I 0 17 (I 0 15)) 0 15).toNatClampNeg)] (cw_st I 0 17 (I 0 15)) (some (.int v_86)) J_86 ∧ ((v_86 = 0 → (vp_in (J_86 0 15) 600 ∧ (∃ (v_164 : Int32) (J_164 : cw_M), cw_C (cr_w K) mX11_isDigit [.int (J_86 3 (J_86 0 15).toNatClampNeg)] J_86 (some (.int v_164)) J_164 ∧ ((v_164 = 0 → (vp_in (J_164 0 15) 600 ∧ ((¬ (J_164 3 (J_164 0 15).toNatClampNeg) = 59 → (r = none ∧ J0 = cw_st (cw_st J_164 0 16 4) 0 15 (((cw_st J_164 0 16 4) 0 15) + 1))) ∧ ((J_164 3 (J_164 0 15).toNatClampNeg) = 59 → (r = none ∧ J0 = cw_st (cw_st J_164 0 16 3) 0 15 (((cw_st J_164 0 16 3) 0 15) + 1)))))) ∧ (¬ v_164 = 0 → bX11_token_0_175 K r J0 (cw_st J_164 0 18 0)))))) ∧ (¬ v_86 = 0 → bX11_token_0_92 K r J0 J_86))))) ∧ (((cw_st I 0 17 (I 0 15)) 0 15) = ((cw_st I 0 17 (I 0 15)) 0 4) → (r = none ∧ J0 = cw_st (cw_st I 0 17 (I 0 15)) 0 16 0)))) ∧ (¬ (I 0 4) ≤ (I 0 15) → (vp_in (I 0 15) 600 ∧ (((I 3 (I 0 15).toNatClampNeg) = 32 → bX11_token_0_0 K r J0 (cw_st I 0 15 ((I 0 15) + 1))) ∧ (¬ (I 3 (I 0 15).toNatClampNeg) = 32 → (vp_in (I 0 15) 600 ∧ ((¬ (I 3 (I 0 15).toNatClampNeg) = 10 → ((¬ ((cw_st I 0 17 (I 0 15)) 0 15) = ((cw_st I 0 17 (I 0 15)) 0 4) → (vp_in ((cw_st I 0 17 (I 0 15)) 0 15) 600 ∧ (∃ (v_86 : Int32) (J_86 : cw_M), cw_C (cr_w K) mX11_isSmall [.int ((cw_st I 0 17 (I 0 15)) 3 ((cw_st I 0 17 (I 0 15)) 0 15).toNatClampNeg)] (cw_st I 0 17 (I 0 15)) (some (.int v_86)) J_86 ∧ ((v_86 = 0 → (vp_in (J_86 0 15) 600 ∧ (∃ (v_164 : Int32) (J_164 : cw_M), cw_C (cr_w K) mX11_isDigit [.int (J_86 3 (J_86 0 15).toNatClampNeg)] J_86 (some (.int v_164)) J_164 ∧ ((v_164 = 0 → (vp_in (J_164 0 15) 600 ∧ ((¬ (J_164 3 (J_164 0 15).toNatClampNeg) = 59 → (r = none ∧ J0 = cw_st (cw_st J_164 0 16 4) 0 15 (((cw_st J_164 0 16 4) 0 15) + 1))) ∧ ((J_164 3 (J_164 0 15).toNatClampNeg) = 59 → (r = none ∧ J0 = cw_st (cw_st J_164 0 16 3) 0 15 (((cw_st J_164 0 16 3) 0 15) + 1)))))) ∧ (¬ v_164 = 0 → bX11_token_0_175 K r J0 (cw_st J_164 0 18 0)))))) ∧ (¬ v_86 = 0 → bX11_token_0_92 K r J0 J_86))))) ∧ (((cw_st I 0 17 (I 0 15)) 0 15) = ((cw_st I 0 17 (I 0 15)) 0 4) → (r = none ∧ J0 = cw_st (cw_st I 0 17 (I 0 15)) 0 16 0)))) ∧ ((I 3 (I 0 15).toNatClampNeg) = 10 → bX11_token_0_0 K r J0 (cw_st I 0 15 ((I 0 15) + 1))))))))))) : bX11_token_0_0 K r J0  I := by
  refine cw_aload_n dX11_token_0 0 rfl rfl ?_
  refine cw_getf (C := RX11) (T := TX11) (N := 20) (ci := 9) inX11_token_RX11 0 (show 0 < 11 by decide) rfl rfl 15 (by decide) (by decide +kernel) rfl dX11_token_1 ?_
  refine cw_aload_n dX11_token_4 0 rfl rfl ?_
  refine cw_getf (C := RX11) (T := TX11) (N := 20) (ci := 9) inX11_token_RX11 0 (show 0 < 11 by decide) rfl rfl 4 (by decide) (by decide +kernel) rfl dX11_token_5 ?_
  refine cw_icmp_ge (tgt := 52) dX11_token_8 (by decide) (fun q => ?_) (fun q => ?_)
  · have h := h.1 q
    refine cw_aload_n dX11_token_52 0 rfl rfl ?_
    refine cw_aload_n dX11_token_53 0 rfl rfl ?_
    refine cw_getf (C := RX11) (T := TX11) (N := 20) (ci := 9) inX11_token_RX11 0 (show 0 < 11 by decide) rfl rfl 15 (by decide) (by decide +kernel) rfl dX11_token_54 ?_
    refine cw_putf (C := RX11) (T := TX11) (N := 20) (ci := 9) inX11_token_RX11 tyX11 tyX11_ok nmX11 0 (show 0 < 11 by decide) rfl rfl 17 (by decide) (by decide +kernel) rfl rfl (show 17 < 20 by decide) rfl dX11_token_57 ?_
    refine cw_aload_n dX11_token_60 0 rfl rfl ?_
    refine cw_getf (C := RX11) (T := TX11) (N := 20) (ci := 9) inX11_token_RX11 0 (show 0 < 11 by decide) rfl rfl 15 (by decide) (by decide +kernel) rfl dX11_token_61 ?_
    refine cw_aload_n dX11_token_64 0 rfl rfl ?_
    refine cw_getf (C := RX11) (T := TX11) (N := 20) (ci := 9) inX11_token_RX11 0 (show 0 < 11 by decide) rfl rfl 4 (by decide) (by decide +kernel) rfl dX11_token_65 ?_
    refine cw_icmp_ne (tgt := 77) dX11_token_68 (by decide) (fun q => ?_) (fun q => ?_)
    · have h := h.1 q
      refine cw_aload_n dX11_token_77 0 rfl rfl ?_
      refine cw_getf (C := RX11) (T := TX11) (N := 20) (ci := 9) inX11_token_RX11 0 (show 0 < 11 by decide) rfl rfl 3 (by decide) (by decide +kernel) rfl dX11_token_78 ?_
      refine cw_aload_n dX11_token_81 0 rfl rfl ?_
      refine cw_getf (C := RX11) (T := TX11) (N := 20) (ci := 9) inX11_token_RX11 0 (show 0 < 11 by decide) rfl rfl 15 (by decide) (by decide +kernel) rfl dX11_token_82 ?_
      obtain ⟨g_85, h⟩ := h
      refine cw_iald 3 (show 3 < 11 by decide) rfl 0 rfl dX11_token_85 g_85 ?_
      obtain ⟨v_86, J_86, hc_86, h⟩ := h
      refine cw_callS (As := [.int ((cw_st I 0 17 (I 0 15)) 3 ((cw_st I 0 17 (I 0 15)) 0 15).toNatClampNeg)]) hc_86 okX11_isSmall rfl gX11_token_X11_isSmall (by decide) rfl rfl (Nat.le_of_ble_eq_true rfl) dX11_token_86 ?_
      refine cw_if_eq (tgt := 155) dX11_token_89 (by decide) (fun q => ?_) (fun q => ?_)
      · have h := h.1 q
        refine cw_aload_n dX11_token_155 0 rfl rfl ?_
        refine cw_getf (C := RX11) (T := TX11) (N := 20) (ci := 9) inX11_token_RX11 0 (show 0 < 11 by decide) rfl rfl 3 (by decide) (by decide +kernel) rfl dX11_token_156 ?_
        refine cw_aload_n dX11_token_159 0 rfl rfl ?_
        refine cw_getf (C := RX11) (T := TX11) (N := 20) (ci := 9) inX11_token_RX11 0 (show 0 < 11 by decide) rfl rfl 15 (by decide) (by decide +kernel) rfl dX11_token_160 ?_
        obtain ⟨g_163, h⟩ := h
        refine cw_iald 3 (show 3 < 11 by decide) rfl 0 rfl dX11_token_163 g_163 ?_
        obtain ⟨v_164, J_164, hc_164, h⟩ := h
        refine cw_callS (As := [.int (J_86 3 (J_86 0 15).toNatClampNeg)]) hc_164 okX11_isDigit rfl gX11_token_X11_isDigit (by decide) rfl rfl (Nat.le_of_ble_eq_true rfl) dX11_token_164 ?_
        refine cw_if_eq (tgt := 274) dX11_token_167 (by decide) (fun q => ?_) (fun q => ?_)
        · have h := h.1 q
          refine cw_aload_n dX11_token_274 0 rfl rfl ?_
          refine cw_aload_n dX11_token_275 0 rfl rfl ?_
          refine cw_getf (C := RX11) (T := TX11) (N := 20) (ci := 9) inX11_token_RX11 0 (show 0 < 11 by decide) rfl rfl 3 (by decide) (by decide +kernel) rfl dX11_token_276 ?_
          refine cw_aload_n dX11_token_279 0 rfl rfl ?_
          refine cw_getf (C := RX11) (T := TX11) (N := 20) (ci := 9) inX11_token_RX11 0 (show 0 < 11 by decide) rfl rfl 15 (by decide) (by decide +kernel) rfl dX11_token_280 ?_
          obtain ⟨g_283, h⟩ := h
          refine cw_iald 3 (show 3 < 11 by decide) rfl 0 rfl dX11_token_283 g_283 ?_
          refine cw_bipush (v := 59) dX11_token_284 (by decide) ?_
          refine cw_icmp_ne (tgt := 293) dX11_token_286 (by decide) (fun q => ?_) (fun q => ?_)
          · have h := h.1 q
            refine cw_iconst (v := 4) dX11_token_293 (by decide) ?_
            refine cw_putf (C := RX11) (T := TX11) (N := 20) (ci := 9) inX11_token_RX11 tyX11 tyX11_ok nmX11 0 (show 0 < 11 by decide) rfl rfl 16 (by decide) (by decide +kernel) rfl rfl (show 16 < 20 by decide) rfl dX11_token_294 ?_
            refine cw_aload_n dX11_token_297 0 rfl rfl ?_
            refine cw_dup dX11_token_298 rfl ?_
            refine cw_getf (C := RX11) (T := TX11) (N := 20) (ci := 9) inX11_token_RX11 0 (show 0 < 11 by decide) rfl rfl 15 (by decide) (by decide +kernel) rfl dX11_token_299 ?_
            refine cw_iconst (v := 1) dX11_token_302 (by decide) ?_
            refine cw_iadd dX11_token_303 ?_
            refine cw_putf (C := RX11) (T := TX11) (N := 20) (ci := 9) inX11_token_RX11 tyX11 tyX11_ok nmX11 0 (show 0 < 11 by decide) rfl rfl 15 (by decide) (by decide +kernel) rfl rfl (show 15 < 20 by decide) rfl dX11_token_304 ?_
            exact cw_vret rfl dX11_token_307 h
          · have h := h.2 q
            refine cw_iconst (v := 3) dX11_token_289 (by decide) ?_
            refine cw_goto (tgt := 294) dX11_token_290 (by decide) ?_
            refine cw_putf (C := RX11) (T := TX11) (N := 20) (ci := 9) inX11_token_RX11 tyX11 tyX11_ok nmX11 0 (show 0 < 11 by decide) rfl rfl 16 (by decide) (by decide +kernel) rfl rfl (show 16 < 20 by decide) rfl dX11_token_294 ?_
            refine cw_aload_n dX11_token_297 0 rfl rfl ?_
            refine cw_dup dX11_token_298 rfl ?_
            refine cw_getf (C := RX11) (T := TX11) (N := 20) (ci := 9) inX11_token_RX11 0 (show 0 < 11 by decide) rfl rfl 15 (by decide) (by decide +kernel) rfl dX11_token_299 ?_
            refine cw_iconst (v := 1) dX11_token_302 (by decide) ?_
            refine cw_iadd dX11_token_303 ?_
            refine cw_putf (C := RX11) (T := TX11) (N := 20) (ci := 9) inX11_token_RX11 tyX11 tyX11_ok nmX11 0 (show 0 < 11 by decide) rfl rfl 15 (by decide) (by decide +kernel) rfl rfl (show 15 < 20 by decide) rfl dX11_token_304 ?_
            exact cw_vret rfl dX11_token_307 h
        · have h := h.2 q
          refine cw_aload_n dX11_token_170 0 rfl rfl ?_
          refine cw_iconst (v := 0) dX11_token_171 (by decide) ?_
          refine cw_putf (C := RX11) (T := TX11) (N := 20) (ci := 9) inX11_token_RX11 tyX11 tyX11_ok nmX11 0 (show 0 < 11 by decide) rfl rfl 18 (by decide) (by decide +kernel) rfl rfl (show 18 < 20 by decide) rfl dX11_token_172 ?_
          exact h
      · have h := h.2 q
        exact h
    · have h := h.2 q
      refine cw_aload_n dX11_token_71 0 rfl rfl ?_
      refine cw_iconst (v := 0) dX11_token_72 (by decide) ?_
      refine cw_putf (C := RX11) (T := TX11) (N := 20) (ci := 9) inX11_token_RX11 tyX11 tyX11_ok nmX11 0 (show 0 < 11 by decide) rfl rfl 16 (by decide) (by decide +kernel) rfl rfl (show 16 < 20 by decide) rfl dX11_token_73 ?_
      exact cw_vret rfl dX11_token_76 h
  · have h := h.2 q
    refine cw_aload_n dX11_token_11 0 rfl rfl ?_
    refine cw_getf (C := RX11) (T := TX11) (N := 20) (ci := 9) inX11_token_RX11 0 (show 0 < 11 by decide) rfl rfl 3 (by decide) (by decide +kernel) rfl dX11_token_12 ?_
    refine cw_aload_n dX11_token_15 0 rfl rfl ?_
    refine cw_getf (C := RX11) (T := TX11) (N := 20) (ci := 9) inX11_token_RX11 0 (show 0 < 11 by decide) rfl rfl 15 (by decide) (by decide +kernel) rfl dX11_token_16 ?_
    obtain ⟨g_19, h⟩ := h
    refine cw_iald 3 (show 3 < 11 by decide) rfl 0 rfl dX11_token_19 g_19 ?_
    refine cw_bipush (v := 32) dX11_token_20 (by decide) ?_
    refine cw_icmp_eq (tgt := 39) dX11_token_22 (by decide) (fun q => ?_) (fun q => ?_)
    · have h := h.1 q
      refine cw_aload_n dX11_token_39 0 rfl rfl ?_
      refine cw_dup dX11_token_40 rfl ?_
      refine cw_getf (C := RX11) (T := TX11) (N := 20) (ci := 9) inX11_token_RX11 0 (show 0 < 11 by decide) rfl rfl 15 (by decide) (by decide +kernel) rfl dX11_token_41 ?_
      refine cw_iconst (v := 1) dX11_token_44 (by decide) ?_
      refine cw_iadd dX11_token_45 ?_
      refine cw_putf (C := RX11) (T := TX11) (N := 20) (ci := 9) inX11_token_RX11 tyX11 tyX11_ok nmX11 0 (show 0 < 11 by decide) rfl rfl 15 (by decide) (by decide +kernel) rfl rfl (show 15 < 20 by decide) rfl dX11_token_46 ?_
      refine cw_goto (tgt := 0) dX11_token_49 (by decide) ?_
      exact h
    · have h := h.2 q
      refine cw_aload_n dX11_token_25 0 rfl rfl ?_
      refine cw_getf (C := RX11) (T := TX11) (N := 20) (ci := 9) inX11_token_RX11 0 (show 0 < 11 by decide) rfl rfl 3 (by decide) (by decide +kernel) rfl dX11_token_26 ?_
      refine cw_aload_n dX11_token_29 0 rfl rfl ?_
      refine cw_getf (C := RX11) (T := TX11) (N := 20) (ci := 9) inX11_token_RX11 0 (show 0 < 11 by decide) rfl rfl 15 (by decide) (by decide +kernel) rfl dX11_token_30 ?_
      obtain ⟨g_33, h⟩ := h
      refine cw_iald 3 (show 3 < 11 by decide) rfl 0 rfl dX11_token_33 g_33 ?_
      refine cw_bipush (v := 10) dX11_token_34 (by decide) ?_
      refine cw_icmp_ne (tgt := 52) dX11_token_36 (by decide) (fun q => ?_) (fun q => ?_)
      · have h := h.1 q
        refine cw_aload_n dX11_token_52 0 rfl rfl ?_
        refine cw_aload_n dX11_token_53 0 rfl rfl ?_
        refine cw_getf (C := RX11) (T := TX11) (N := 20) (ci := 9) inX11_token_RX11 0 (show 0 < 11 by decide) rfl rfl 15 (by decide) (by decide +kernel) rfl dX11_token_54 ?_
        refine cw_putf (C := RX11) (T := TX11) (N := 20) (ci := 9) inX11_token_RX11 tyX11 tyX11_ok nmX11 0 (show 0 < 11 by decide) rfl rfl 17 (by decide) (by decide +kernel) rfl rfl (show 17 < 20 by decide) rfl dX11_token_57 ?_
        refine cw_aload_n dX11_token_60 0 rfl rfl ?_
        refine cw_getf (C := RX11) (T := TX11) (N := 20) (ci := 9) inX11_token_RX11 0 (show 0 < 11 by decide) rfl rfl 15 (by decide) (by decide +kernel) rfl dX11_token_61 ?_
        refine cw_aload_n dX11_token_64 0 rfl rfl ?_
        refine cw_getf (C := RX11) (T := TX11) (N := 20) (ci := 9) inX11_token_RX11 0 (show 0 < 11 by decide) rfl rfl 4 (by decide) (by decide +kernel) rfl dX11_token_65 ?_
        refine cw_icmp_ne (tgt := 77) dX11_token_68 (by decide) (fun q => ?_) (fun q => ?_)
        · have h := h.1 q
          refine cw_aload_n dX11_token_77 0 rfl rfl ?_
          refine cw_getf (C := RX11) (T := TX11) (N := 20) (ci := 9) inX11_token_RX11 0 (show 0 < 11 by decide) rfl rfl 3 (by decide) (by decide +kernel) rfl dX11_token_78 ?_
          refine cw_aload_n dX11_token_81 0 rfl rfl ?_
          refine cw_getf (C := RX11) (T := TX11) (N := 20) (ci := 9) inX11_token_RX11 0 (show 0 < 11 by decide) rfl rfl 15 (by decide) (by decide +kernel) rfl dX11_token_82 ?_
          obtain ⟨g_85, h⟩ := h
          refine cw_iald 3 (show 3 < 11 by decide) rfl 0 rfl dX11_token_85 g_85 ?_
          obtain ⟨v_86, J_86, hc_86, h⟩ := h
          refine cw_callS (As := [.int ((cw_st I 0 17 (I 0 15)) 3 ((cw_st I 0 17 (I 0 15)) 0 15).toNatClampNeg)]) hc_86 okX11_isSmall rfl gX11_token_X11_isSmall (by decide) rfl rfl (Nat.le_of_ble_eq_true rfl) dX11_token_86 ?_
          refine cw_if_eq (tgt := 155) dX11_token_89 (by decide) (fun q => ?_) (fun q => ?_)
          · have h := h.1 q
            refine cw_aload_n dX11_token_155 0 rfl rfl ?_
            refine cw_getf (C := RX11) (T := TX11) (N := 20) (ci := 9) inX11_token_RX11 0 (show 0 < 11 by decide) rfl rfl 3 (by decide) (by decide +kernel) rfl dX11_token_156 ?_
            refine cw_aload_n dX11_token_159 0 rfl rfl ?_
            refine cw_getf (C := RX11) (T := TX11) (N := 20) (ci := 9) inX11_token_RX11 0 (show 0 < 11 by decide) rfl rfl 15 (by decide) (by decide +kernel) rfl dX11_token_160 ?_
            obtain ⟨g_163, h⟩ := h
            refine cw_iald 3 (show 3 < 11 by decide) rfl 0 rfl dX11_token_163 g_163 ?_
            obtain ⟨v_164, J_164, hc_164, h⟩ := h
            refine cw_callS (As := [.int (J_86 3 (J_86 0 15).toNatClampNeg)]) hc_164 okX11_isDigit rfl gX11_token_X11_isDigit (by decide) rfl rfl (Nat.le_of_ble_eq_true rfl) dX11_token_164 ?_
            refine cw_if_eq (tgt := 274) dX11_token_167 (by decide) (fun q => ?_) (fun q => ?_)
            · have h := h.1 q
              refine cw_aload_n dX11_token_274 0 rfl rfl ?_
              refine cw_aload_n dX11_token_275 0 rfl rfl ?_
              refine cw_getf (C := RX11) (T := TX11) (N := 20) (ci := 9) inX11_token_RX11 0 (show 0 < 11 by decide) rfl rfl 3 (by decide) (by decide +kernel) rfl dX11_token_276 ?_
              refine cw_aload_n dX11_token_279 0 rfl rfl ?_
              refine cw_getf (C := RX11) (T := TX11) (N := 20) (ci := 9) inX11_token_RX11 0 (show 0 < 11 by decide) rfl rfl 15 (by decide) (by decide +kernel) rfl dX11_token_280 ?_
              obtain ⟨g_283, h⟩ := h
              refine cw_iald 3 (show 3 < 11 by decide) rfl 0 rfl dX11_token_283 g_283 ?_
              refine cw_bipush (v := 59) dX11_token_284 (by decide) ?_
              refine cw_icmp_ne (tgt := 293) dX11_token_286 (by decide) (fun q => ?_) (fun q => ?_)
              · have h := h.1 q
                refine cw_iconst (v := 4) dX11_token_293 (by decide) ?_
                refine cw_putf (C := RX11) (T := TX11) (N := 20) (ci := 9) inX11_token_RX11 tyX11 tyX11_ok nmX11 0 (show 0 < 11 by decide) rfl rfl 16 (by decide) (by decide +kernel) rfl rfl (show 16 < 20 by decide) rfl dX11_token_294 ?_
                refine cw_aload_n dX11_token_297 0 rfl rfl ?_
                refine cw_dup dX11_token_298 rfl ?_
                refine cw_getf (C := RX11) (T := TX11) (N := 20) (ci := 9) inX11_token_RX11 0 (show 0 < 11 by decide) rfl rfl 15 (by decide) (by decide +kernel) rfl dX11_token_299 ?_
                refine cw_iconst (v := 1) dX11_token_302 (by decide) ?_
                refine cw_iadd dX11_token_303 ?_
                refine cw_putf (C := RX11) (T := TX11) (N := 20) (ci := 9) inX11_token_RX11 tyX11 tyX11_ok nmX11 0 (show 0 < 11 by decide) rfl rfl 15 (by decide) (by decide +kernel) rfl rfl (show 15 < 20 by decide) rfl dX11_token_304 ?_
                exact cw_vret rfl dX11_token_307 h
              · have h := h.2 q
                refine cw_iconst (v := 3) dX11_token_289 (by decide) ?_
                refine cw_goto (tgt := 294) dX11_token_290 (by decide) ?_
                refine cw_putf (C := RX11) (T := TX11) (N := 20) (ci := 9) inX11_token_RX11 tyX11 tyX11_ok nmX11 0 (show 0 < 11 by decide) rfl rfl 16 (by decide) (by decide +kernel) rfl rfl (show 16 < 20 by decide) rfl dX11_token_294 ?_
                refine cw_aload_n dX11_token_297 0 rfl rfl ?_
                refine cw_dup dX11_token_298 rfl ?_
                refine cw_getf (C := RX11) (T := TX11) (N := 20) (ci := 9) inX11_token_RX11 0 (show 0 < 11 by decide) rfl rfl 15 (by decide) (by decide +kernel) rfl dX11_token_299 ?_
                refine cw_iconst (v := 1) dX11_token_302 (by decide) ?_
                refine cw_iadd dX11_token_303 ?_
                refine cw_putf (C := RX11) (T := TX11) (N := 20) (ci := 9) inX11_token_RX11 tyX11 tyX11_ok nmX11 0 (show 0 < 11 by decide) rfl rfl 15 (by decide) (by decide +kernel) rfl rfl (show 15 < 20 by decide) rfl dX11_token_304 ?_
                exact cw_vret rfl dX11_token_307 h
            · have h := h.2 q
              refine cw_aload_n dX11_token_170 0 rfl rfl ?_
              refine cw_iconst (v := 0) dX11_token_171 (by decide) ?_
              refine cw_putf (C := RX11) (T := TX11) (N := 20) (ci := 9) inX11_token_RX11 tyX11 tyX11_ok nmX11 0 (show 0 < 11 by decide) rfl rfl 18 (by decide) (by decide +kernel) rfl rfl (show 18 < 20 by decide) rfl dX11_token_172 ?_
              exact h
          · have h := h.2 q
            exact h
        · have h := h.2 q
          refine cw_aload_n dX11_token_71 0 rfl rfl ?_
          refine cw_iconst (v := 0) dX11_token_72 (by decide) ?_
          refine cw_putf (C := RX11) (T := TX11) (N := 20) (ci := 9) inX11_token_RX11 tyX11 tyX11_ok nmX11 0 (show 0 < 11 by decide) rfl rfl 16 (by decide) (by decide +kernel) rfl rfl (show 16 < 20 by decide) rfl dX11_token_73 ?_
          exact cw_vret rfl dX11_token_76 h
      · have h := h.2 q
        refine cw_aload_n dX11_token_39 0 rfl rfl ?_
        refine cw_dup dX11_token_40 rfl ?_
        refine cw_getf (C := RX11) (T := TX11) (N := 20) (ci := 9) inX11_token_RX11 0 (show 0 < 11 by decide) rfl rfl 15 (by decide) (by decide +kernel) rfl dX11_token_41 ?_
        refine cw_iconst (v := 1) dX11_token_44 (by decide) ?_
        refine cw_iadd dX11_token_45 ?_
        refine cw_putf (C := RX11) (T := TX11) (N := 20) (ci := 9) inX11_token_RX11 tyX11 tyX11_ok nmX11 0 (show 0 < 11 by decide) rfl rfl 15 (by decide) (by decide +kernel) rfl rfl (show 15 < 20 by decide) rfl dX11_token_46 ?_
        refine cw_goto (tgt := 0) dX11_token_49 (by decide) ?_
        exact h
set_option maxRecDepth 20000 in
set_option maxHeartbeats 4000000 in
theorem tbX11_token_0_175 {K : cw_K} {r : Option Value} {J0 I : cw_M} (h : (((I 0 4) ≤ (I 0 15) → ((((I 0 15) - (I 0 17)) ≤ 2 → (r = none ∧ J0 = cw_st I 0 16 2)) ∧ (¬ ((I 0 15) - (I 0 17)) ≤ 2 → (r = none ∧ J0 = cw_st I 0 16 4)))) ∧ (¬ (I 0 4) ≤ (I 0 15) → (vp_in (I 0 15) 600 ∧ (∃ (v_195 : Int32) (J_195 : cw_M), cw_C (cr_w K) mX11_isDigit [.int (I 3 (I 0 15).toNatClampNeg)] I (some (.int v_195)) J_195 ∧ ((v_195 = 0 → ((((J_195 0 15) - (J_195 0 17)) ≤ 2 → (r = none ∧ J0 = cw_st J_195 0 16 2)) ∧ (¬ ((J_195 0 15) - (J_195 0 17)) ≤ 2 → (r = none ∧ J0 = cw_st J_195 0 16 4)))) ∧ (¬ v_195 = 0 → ((2 ≤ ((J_195 0 15) - (J_195 0 17)) → bX11_token_0_175 K r J0 (cw_st J_195 0 15 ((J_195 0 15) + 1))) ∧ (¬ 2 ≤ ((J_195 0 15) - (J_195 0 17)) → (vp_in (J_195 0 15) 600 ∧ bX11_token_0_175 K r J0 (cw_st (cw_st J_195 0 18 ((((J_195 0 18) * 10) + (J_195 3 (J_195 0 15).toNatClampNeg)) - 48)) 0 15 (((cw_st J_195 0 18 ((((J_195 0 18) * 10) + (J_195 3 (J_195 0 15).toNatClampNeg)) - 48)) 0 15) + 1)))))))))))) : bX11_token_0_175 K r J0  I := by
  refine cw_aload_n dX11_token_175 0 rfl rfl ?_
  refine cw_getf (C := RX11) (T := TX11) (N := 20) (ci := 9) inX11_token_RX11 0 (show 0 < 11 by decide) rfl rfl 15 (by decide) (by decide +kernel) rfl dX11_token_176 ?_
  refine cw_aload_n dX11_token_179 0 rfl rfl ?_
  refine cw_getf (C := RX11) (T := TX11) (N := 20) (ci := 9) inX11_token_RX11 0 (show 0 < 11 by decide) rfl rfl 4 (by decide) (by decide +kernel) rfl dX11_token_180 ?_
  refine cw_icmp_ge (tgt := 251) dX11_token_183 (by decide) (fun q => ?_) (fun q => ?_)
  · have h := h.1 q
    refine cw_aload_n dX11_token_251 0 rfl rfl ?_
    refine cw_aload_n dX11_token_252 0 rfl rfl ?_
    refine cw_getf (C := RX11) (T := TX11) (N := 20) (ci := 9) inX11_token_RX11 0 (show 0 < 11 by decide) rfl rfl 15 (by decide) (by decide +kernel) rfl dX11_token_253 ?_
    refine cw_aload_n dX11_token_256 0 rfl rfl ?_
    refine cw_getf (C := RX11) (T := TX11) (N := 20) (ci := 9) inX11_token_RX11 0 (show 0 < 11 by decide) rfl rfl 17 (by decide) (by decide +kernel) rfl dX11_token_257 ?_
    refine cw_isub dX11_token_260 ?_
    refine cw_iconst (v := 2) dX11_token_261 (by decide) ?_
    refine cw_icmp_le (tgt := 269) dX11_token_262 (by decide) (fun q => ?_) (fun q => ?_)
    · have h := h.1 q
      refine cw_iconst (v := 2) dX11_token_269 (by decide) ?_
      refine cw_putf (C := RX11) (T := TX11) (N := 20) (ci := 9) inX11_token_RX11 tyX11 tyX11_ok nmX11 0 (show 0 < 11 by decide) rfl rfl 16 (by decide) (by decide +kernel) rfl rfl (show 16 < 20 by decide) rfl dX11_token_270 ?_
      exact cw_vret rfl dX11_token_273 h
    · have h := h.2 q
      refine cw_iconst (v := 4) dX11_token_265 (by decide) ?_
      refine cw_goto (tgt := 270) dX11_token_266 (by decide) ?_
      refine cw_putf (C := RX11) (T := TX11) (N := 20) (ci := 9) inX11_token_RX11 tyX11 tyX11_ok nmX11 0 (show 0 < 11 by decide) rfl rfl 16 (by decide) (by decide +kernel) rfl rfl (show 16 < 20 by decide) rfl dX11_token_270 ?_
      exact cw_vret rfl dX11_token_273 h
  · have h := h.2 q
    refine cw_aload_n dX11_token_186 0 rfl rfl ?_
    refine cw_getf (C := RX11) (T := TX11) (N := 20) (ci := 9) inX11_token_RX11 0 (show 0 < 11 by decide) rfl rfl 3 (by decide) (by decide +kernel) rfl dX11_token_187 ?_
    refine cw_aload_n dX11_token_190 0 rfl rfl ?_
    refine cw_getf (C := RX11) (T := TX11) (N := 20) (ci := 9) inX11_token_RX11 0 (show 0 < 11 by decide) rfl rfl 15 (by decide) (by decide +kernel) rfl dX11_token_191 ?_
    obtain ⟨g_194, h⟩ := h
    refine cw_iald 3 (show 3 < 11 by decide) rfl 0 rfl dX11_token_194 g_194 ?_
    obtain ⟨v_195, J_195, hc_195, h⟩ := h
    refine cw_callS (As := [.int (I 3 (I 0 15).toNatClampNeg)]) hc_195 okX11_isDigit rfl gX11_token_X11_isDigit (by decide) rfl rfl (Nat.le_of_ble_eq_true rfl) dX11_token_195 ?_
    refine cw_if_eq (tgt := 251) dX11_token_198 (by decide) (fun q => ?_) (fun q => ?_)
    · have h := h.1 q
      refine cw_aload_n dX11_token_251 0 rfl rfl ?_
      refine cw_aload_n dX11_token_252 0 rfl rfl ?_
      refine cw_getf (C := RX11) (T := TX11) (N := 20) (ci := 9) inX11_token_RX11 0 (show 0 < 11 by decide) rfl rfl 15 (by decide) (by decide +kernel) rfl dX11_token_253 ?_
      refine cw_aload_n dX11_token_256 0 rfl rfl ?_
      refine cw_getf (C := RX11) (T := TX11) (N := 20) (ci := 9) inX11_token_RX11 0 (show 0 < 11 by decide) rfl rfl 17 (by decide) (by decide +kernel) rfl dX11_token_257 ?_
      refine cw_isub dX11_token_260 ?_
      refine cw_iconst (v := 2) dX11_token_261 (by decide) ?_
      refine cw_icmp_le (tgt := 269) dX11_token_262 (by decide) (fun q => ?_) (fun q => ?_)
      · have h := h.1 q
        refine cw_iconst (v := 2) dX11_token_269 (by decide) ?_
        refine cw_putf (C := RX11) (T := TX11) (N := 20) (ci := 9) inX11_token_RX11 tyX11 tyX11_ok nmX11 0 (show 0 < 11 by decide) rfl rfl 16 (by decide) (by decide +kernel) rfl rfl (show 16 < 20 by decide) rfl dX11_token_270 ?_
        exact cw_vret rfl dX11_token_273 h
      · have h := h.2 q
        refine cw_iconst (v := 4) dX11_token_265 (by decide) ?_
        refine cw_goto (tgt := 270) dX11_token_266 (by decide) ?_
        refine cw_putf (C := RX11) (T := TX11) (N := 20) (ci := 9) inX11_token_RX11 tyX11 tyX11_ok nmX11 0 (show 0 < 11 by decide) rfl rfl 16 (by decide) (by decide +kernel) rfl rfl (show 16 < 20 by decide) rfl dX11_token_270 ?_
        exact cw_vret rfl dX11_token_273 h
    · have h := h.2 q
      refine cw_aload_n dX11_token_201 0 rfl rfl ?_
      refine cw_getf (C := RX11) (T := TX11) (N := 20) (ci := 9) inX11_token_RX11 0 (show 0 < 11 by decide) rfl rfl 15 (by decide) (by decide +kernel) rfl dX11_token_202 ?_
      refine cw_aload_n dX11_token_205 0 rfl rfl ?_
      refine cw_getf (C := RX11) (T := TX11) (N := 20) (ci := 9) inX11_token_RX11 0 (show 0 < 11 by decide) rfl rfl 17 (by decide) (by decide +kernel) rfl dX11_token_206 ?_
      refine cw_isub dX11_token_209 ?_
      refine cw_iconst (v := 2) dX11_token_210 (by decide) ?_
      refine cw_icmp_ge (tgt := 238) dX11_token_211 (by decide) (fun q => ?_) (fun q => ?_)
      · have h := h.1 q
        refine cw_aload_n dX11_token_238 0 rfl rfl ?_
        refine cw_dup dX11_token_239 rfl ?_
        refine cw_getf (C := RX11) (T := TX11) (N := 20) (ci := 9) inX11_token_RX11 0 (show 0 < 11 by decide) rfl rfl 15 (by decide) (by decide +kernel) rfl dX11_token_240 ?_
        refine cw_iconst (v := 1) dX11_token_243 (by decide) ?_
        refine cw_iadd dX11_token_244 ?_
        refine cw_putf (C := RX11) (T := TX11) (N := 20) (ci := 9) inX11_token_RX11 tyX11 tyX11_ok nmX11 0 (show 0 < 11 by decide) rfl rfl 15 (by decide) (by decide +kernel) rfl rfl (show 15 < 20 by decide) rfl dX11_token_245 ?_
        refine cw_goto (tgt := 175) dX11_token_248 (by decide) ?_
        exact h
      · have h := h.2 q
        refine cw_aload_n dX11_token_214 0 rfl rfl ?_
        refine cw_aload_n dX11_token_215 0 rfl rfl ?_
        refine cw_getf (C := RX11) (T := TX11) (N := 20) (ci := 9) inX11_token_RX11 0 (show 0 < 11 by decide) rfl rfl 18 (by decide) (by decide +kernel) rfl dX11_token_216 ?_
        refine cw_bipush (v := 10) dX11_token_219 (by decide) ?_
        refine cw_imul dX11_token_221 ?_
        refine cw_aload_n dX11_token_222 0 rfl rfl ?_
        refine cw_getf (C := RX11) (T := TX11) (N := 20) (ci := 9) inX11_token_RX11 0 (show 0 < 11 by decide) rfl rfl 3 (by decide) (by decide +kernel) rfl dX11_token_223 ?_
        refine cw_aload_n dX11_token_226 0 rfl rfl ?_
        refine cw_getf (C := RX11) (T := TX11) (N := 20) (ci := 9) inX11_token_RX11 0 (show 0 < 11 by decide) rfl rfl 15 (by decide) (by decide +kernel) rfl dX11_token_227 ?_
        obtain ⟨g_230, h⟩ := h
        refine cw_iald 3 (show 3 < 11 by decide) rfl 0 rfl dX11_token_230 g_230 ?_
        refine cw_iadd dX11_token_231 ?_
        refine cw_bipush (v := 48) dX11_token_232 (by decide) ?_
        refine cw_isub dX11_token_234 ?_
        refine cw_putf (C := RX11) (T := TX11) (N := 20) (ci := 9) inX11_token_RX11 tyX11 tyX11_ok nmX11 0 (show 0 < 11 by decide) rfl rfl 18 (by decide) (by decide +kernel) rfl rfl (show 18 < 20 by decide) rfl dX11_token_235 ?_
        refine cw_aload_n dX11_token_238 0 rfl rfl ?_
        refine cw_dup dX11_token_239 rfl ?_
        refine cw_getf (C := RX11) (T := TX11) (N := 20) (ci := 9) inX11_token_RX11 0 (show 0 < 11 by decide) rfl rfl 15 (by decide) (by decide +kernel) rfl dX11_token_240 ?_
        refine cw_iconst (v := 1) dX11_token_243 (by decide) ?_
        refine cw_iadd dX11_token_244 ?_
        refine cw_putf (C := RX11) (T := TX11) (N := 20) (ci := 9) inX11_token_RX11 tyX11 tyX11_ok nmX11 0 (show 0 < 11 by decide) rfl rfl 15 (by decide) (by decide +kernel) rfl rfl (show 15 < 20 by decide) rfl dX11_token_245 ?_
        refine cw_goto (tgt := 175) dX11_token_248 (by decide) ?_
        exact h
set_option maxRecDepth 20000 in
set_option maxHeartbeats 4000000 in
theorem tbX11_token_0_92 {K : cw_K} {r : Option Value} {J0 I : cw_M} (h : (((I 0 4) ≤ (I 0 15) → ((((I 0 15) - (I 0 17)) ≤ 8 → (r = none ∧ J0 = cw_st I 0 16 1)) ∧ (¬ ((I 0 15) - (I 0 17)) ≤ 8 → (r = none ∧ J0 = cw_st I 0 16 4)))) ∧ (¬ (I 0 4) ≤ (I 0 15) → (vp_in (I 0 15) 600 ∧ (∃ (v_112 : Int32) (J_112 : cw_M), cw_C (cr_w K) mX11_isSmall [.int (I 3 (I 0 15).toNatClampNeg)] I (some (.int v_112)) J_112 ∧ ((v_112 = 0 → ((((J_112 0 15) - (J_112 0 17)) ≤ 8 → (r = none ∧ J0 = cw_st J_112 0 16 1)) ∧ (¬ ((J_112 0 15) - (J_112 0 17)) ≤ 8 → (r = none ∧ J0 = cw_st J_112 0 16 4)))) ∧ (¬ v_112 = 0 → bX11_token_0_92 K r J0 (cw_st J_112 0 15 ((J_112 0 15) + 1))))))))) : bX11_token_0_92 K r J0  I := by
  refine cw_aload_n dX11_token_92 0 rfl rfl ?_
  refine cw_getf (C := RX11) (T := TX11) (N := 20) (ci := 9) inX11_token_RX11 0 (show 0 < 11 by decide) rfl rfl 15 (by decide) (by decide +kernel) rfl dX11_token_93 ?_
  refine cw_aload_n dX11_token_96 0 rfl rfl ?_
  refine cw_getf (C := RX11) (T := TX11) (N := 20) (ci := 9) inX11_token_RX11 0 (show 0 < 11 by decide) rfl rfl 4 (by decide) (by decide +kernel) rfl dX11_token_97 ?_
  refine cw_icmp_ge (tgt := 131) dX11_token_100 (by decide) (fun q => ?_) (fun q => ?_)
  · have h := h.1 q
    refine cw_aload_n dX11_token_131 0 rfl rfl ?_
    refine cw_aload_n dX11_token_132 0 rfl rfl ?_
    refine cw_getf (C := RX11) (T := TX11) (N := 20) (ci := 9) inX11_token_RX11 0 (show 0 < 11 by decide) rfl rfl 15 (by decide) (by decide +kernel) rfl dX11_token_133 ?_
    refine cw_aload_n dX11_token_136 0 rfl rfl ?_
    refine cw_getf (C := RX11) (T := TX11) (N := 20) (ci := 9) inX11_token_RX11 0 (show 0 < 11 by decide) rfl rfl 17 (by decide) (by decide +kernel) rfl dX11_token_137 ?_
    refine cw_isub dX11_token_140 ?_
    refine cw_bipush (v := 8) dX11_token_141 (by decide) ?_
    refine cw_icmp_le (tgt := 150) dX11_token_143 (by decide) (fun q => ?_) (fun q => ?_)
    · have h := h.1 q
      refine cw_iconst (v := 1) dX11_token_150 (by decide) ?_
      refine cw_putf (C := RX11) (T := TX11) (N := 20) (ci := 9) inX11_token_RX11 tyX11 tyX11_ok nmX11 0 (show 0 < 11 by decide) rfl rfl 16 (by decide) (by decide +kernel) rfl rfl (show 16 < 20 by decide) rfl dX11_token_151 ?_
      exact cw_vret rfl dX11_token_154 h
    · have h := h.2 q
      refine cw_iconst (v := 4) dX11_token_146 (by decide) ?_
      refine cw_goto (tgt := 151) dX11_token_147 (by decide) ?_
      refine cw_putf (C := RX11) (T := TX11) (N := 20) (ci := 9) inX11_token_RX11 tyX11 tyX11_ok nmX11 0 (show 0 < 11 by decide) rfl rfl 16 (by decide) (by decide +kernel) rfl rfl (show 16 < 20 by decide) rfl dX11_token_151 ?_
      exact cw_vret rfl dX11_token_154 h
  · have h := h.2 q
    refine cw_aload_n dX11_token_103 0 rfl rfl ?_
    refine cw_getf (C := RX11) (T := TX11) (N := 20) (ci := 9) inX11_token_RX11 0 (show 0 < 11 by decide) rfl rfl 3 (by decide) (by decide +kernel) rfl dX11_token_104 ?_
    refine cw_aload_n dX11_token_107 0 rfl rfl ?_
    refine cw_getf (C := RX11) (T := TX11) (N := 20) (ci := 9) inX11_token_RX11 0 (show 0 < 11 by decide) rfl rfl 15 (by decide) (by decide +kernel) rfl dX11_token_108 ?_
    obtain ⟨g_111, h⟩ := h
    refine cw_iald 3 (show 3 < 11 by decide) rfl 0 rfl dX11_token_111 g_111 ?_
    obtain ⟨v_112, J_112, hc_112, h⟩ := h
    refine cw_callS (As := [.int (I 3 (I 0 15).toNatClampNeg)]) hc_112 okX11_isSmall rfl gX11_token_X11_isSmall (by decide) rfl rfl (Nat.le_of_ble_eq_true rfl) dX11_token_112 ?_
    refine cw_if_eq (tgt := 131) dX11_token_115 (by decide) (fun q => ?_) (fun q => ?_)
    · have h := h.1 q
      refine cw_aload_n dX11_token_131 0 rfl rfl ?_
      refine cw_aload_n dX11_token_132 0 rfl rfl ?_
      refine cw_getf (C := RX11) (T := TX11) (N := 20) (ci := 9) inX11_token_RX11 0 (show 0 < 11 by decide) rfl rfl 15 (by decide) (by decide +kernel) rfl dX11_token_133 ?_
      refine cw_aload_n dX11_token_136 0 rfl rfl ?_
      refine cw_getf (C := RX11) (T := TX11) (N := 20) (ci := 9) inX11_token_RX11 0 (show 0 < 11 by decide) rfl rfl 17 (by decide) (by decide +kernel) rfl dX11_token_137 ?_
      refine cw_isub dX11_token_140 ?_
      refine cw_bipush (v := 8) dX11_token_141 (by decide) ?_
      refine cw_icmp_le (tgt := 150) dX11_token_143 (by decide) (fun q => ?_) (fun q => ?_)
      · have h := h.1 q
        refine cw_iconst (v := 1) dX11_token_150 (by decide) ?_
        refine cw_putf (C := RX11) (T := TX11) (N := 20) (ci := 9) inX11_token_RX11 tyX11 tyX11_ok nmX11 0 (show 0 < 11 by decide) rfl rfl 16 (by decide) (by decide +kernel) rfl rfl (show 16 < 20 by decide) rfl dX11_token_151 ?_
        exact cw_vret rfl dX11_token_154 h
      · have h := h.2 q
        refine cw_iconst (v := 4) dX11_token_146 (by decide) ?_
        refine cw_goto (tgt := 151) dX11_token_147 (by decide) ?_
        refine cw_putf (C := RX11) (T := TX11) (N := 20) (ci := 9) inX11_token_RX11 tyX11 tyX11_ok nmX11 0 (show 0 < 11 by decide) rfl rfl 16 (by decide) (by decide +kernel) rfl rfl (show 16 < 20 by decide) rfl dX11_token_151 ?_
        exact cw_vret rfl dX11_token_154 h
    · have h := h.2 q
      refine cw_aload_n dX11_token_118 0 rfl rfl ?_
      refine cw_dup dX11_token_119 rfl ?_
      refine cw_getf (C := RX11) (T := TX11) (N := 20) (ci := 9) inX11_token_RX11 0 (show 0 < 11 by decide) rfl rfl 15 (by decide) (by decide +kernel) rfl dX11_token_120 ?_
      refine cw_iconst (v := 1) dX11_token_123 (by decide) ?_
      refine cw_iadd dX11_token_124 ?_
      refine cw_putf (C := RX11) (T := TX11) (N := 20) (ci := 9) inX11_token_RX11 tyX11 tyX11_ok nmX11 0 (show 0 < 11 by decide) rfl rfl 15 (by decide) (by decide +kernel) rfl rfl (show 15 < 20 by decide) rfl dX11_token_125 ?_
      refine cw_goto (tgt := 92) dX11_token_128 (by decide) ?_
      exact h
set_option maxRecDepth 20000 in
set_option maxHeartbeats 4000000 in
theorem eX11_total_0 {K : cw_K} {r : Option Value} {J0 I : cw_M} {x1 : Int32} (h : (∃ (v_3 : Int32) (J_3 : cw_M), cw_C (cr_w K) mX11_isSibling [.ref (cw_a (cr_w K) 0), .int x1] I (some (.int v_3)) J_3 ∧ ((¬ v_3 = 0 → (∃ (v_16 : Int32) (J_16 : cw_M), cw_C (cr_w K) mX11_fails [.ref (cw_a (cr_w K) 0), .int 0, .int 0, .int 0] J_3 (some (.int v_16)) J_16 ∧ ((v_16 = 0 → (∃ (v_26 : Int32) (J_26 : cw_M), cw_C (cr_w K) mX11_totalOf [.ref (cw_a (cr_w K) 0), .int x1] J_16 (some (.int v_26)) J_26 ∧ (r = some (.int v_26) ∧ J0 = J_26))) ∧ (¬ v_16 = 0 → (r = some (.int 0) ∧ J0 = J_16))))) ∧ (v_3 = 0 → (∃ (v_16 : Int32) (J_16 : cw_M), cw_C (cr_w K) mX11_fails [.ref (cw_a (cr_w K) 0), .int 1, .int 0, .int 0] J_3 (some (.int v_16)) J_16 ∧ ((v_16 = 0 → (∃ (v_26 : Int32) (J_26 : cw_M), cw_C (cr_w K) mX11_totalOf [.ref (cw_a (cr_w K) 0), .int x1] J_16 (some (.int v_26)) J_26 ∧ (r = some (.int v_26) ∧ J0 = J_26))) ∧ (¬ v_16 = 0 → (r = some (.int 0) ∧ J0 = J_16)))))))) : cw_C (cr_w K) mX11_total [.ref (cw_a (cr_w K) 0), .int x1] I r J0 := by
  refine cw_entry okX11_total (Nat.le_of_ble_eq_true rfl) (show cw_B (cr_w K) mX11_total (cw_Z (cr_w K) r J0) 0 0 I 0 [(0, .ref (cw_a (cr_w K) 0)), (1, .int x1)] [] from ?_)
  refine cw_aload_n dX11_total_0 0 rfl rfl ?_
  refine cw_aload_n dX11_total_1 0 rfl rfl ?_
  refine cw_iload_n dX11_total_2 1 rfl rfl ?_
  obtain ⟨v_3, J_3, hc_3, h⟩ := h
  refine cw_callV (o := 0) (As := [.int x1]) hc_3 okX11_isSibling rfl gX11_total_X11_isSibling (by decide) (show 0 < 11 by decide) rfl (ci := 9) rfl rfl (Nat.le_of_ble_eq_true rfl) dX11_total_3 ?_
  refine cw_if_ne (tgt := 13) dX11_total_6 (by decide) (fun q => ?_) (fun q => ?_)
  · have h := h.1 q
    refine cw_iconst (v := 0) dX11_total_13 (by decide) ?_
    refine cw_iconst (v := 0) dX11_total_14 (by decide) ?_
    refine cw_iconst (v := 0) dX11_total_15 (by decide) ?_
    obtain ⟨v_16, J_16, hc_16, h⟩ := h
    refine cw_callV (o := 0) (As := [.int 0, .int 0, .int 0]) hc_16 okX11_fails rfl gX11_total_X11_fails (by decide) (show 0 < 11 by decide) rfl (ci := 9) rfl rfl (Nat.le_of_ble_eq_true rfl) dX11_total_16 ?_
    refine cw_if_eq (tgt := 24) dX11_total_19 (by decide) (fun q => ?_) (fun q => ?_)
    · have h := h.1 q
      refine cw_aload_n dX11_total_24 0 rfl rfl ?_
      refine cw_iload_n dX11_total_25 1 rfl rfl ?_
      obtain ⟨v_26, J_26, hc_26, h⟩ := h
      refine cw_callV (o := 0) (As := [.int x1]) hc_26 okX11_totalOf rfl gX11_total_X11_totalOf (by decide) (show 0 < 11 by decide) rfl (ci := 9) rfl rfl (Nat.le_of_ble_eq_true rfl) dX11_total_26 ?_
      exact cw_iret rfl dX11_total_29 h
    · have h := h.2 q
      refine cw_iconst (v := 0) dX11_total_22 (by decide) ?_
      exact cw_iret rfl dX11_total_23 h
  · have h := h.2 q
    refine cw_iconst (v := 1) dX11_total_9 (by decide) ?_
    refine cw_goto (tgt := 14) dX11_total_10 (by decide) ?_
    refine cw_iconst (v := 0) dX11_total_14 (by decide) ?_
    refine cw_iconst (v := 0) dX11_total_15 (by decide) ?_
    obtain ⟨v_16, J_16, hc_16, h⟩ := h
    refine cw_callV (o := 0) (As := [.int 1, .int 0, .int 0]) hc_16 okX11_fails rfl gX11_total_X11_fails (by decide) (show 0 < 11 by decide) rfl (ci := 9) rfl rfl (Nat.le_of_ble_eq_true rfl) dX11_total_16 ?_
    refine cw_if_eq (tgt := 24) dX11_total_19 (by decide) (fun q => ?_) (fun q => ?_)
    · have h := h.1 q
      refine cw_aload_n dX11_total_24 0 rfl rfl ?_
      refine cw_iload_n dX11_total_25 1 rfl rfl ?_
      obtain ⟨v_26, J_26, hc_26, h⟩ := h
      refine cw_callV (o := 0) (As := [.int x1]) hc_26 okX11_totalOf rfl gX11_total_X11_totalOf (by decide) (show 0 < 11 by decide) rfl (ci := 9) rfl rfl (Nat.le_of_ble_eq_true rfl) dX11_total_26 ?_
      exact cw_iret rfl dX11_total_29 h
    · have h := h.2 q
      refine cw_iconst (v := 0) dX11_total_22 (by decide) ?_
      exact cw_iret rfl dX11_total_23 h
set_option maxRecDepth 20000 in
set_option maxHeartbeats 4000000 in
theorem eX11_totalOf_0 {K : cw_K} {r : Option Value} {J0 I : cw_M} {x1 : Int32} (h : (∃ (v_11 : Int32) (J_11 : cw_M), cw_C (cr_w K) mX11_worthOf [.ref (cw_a (cr_w K) 0), .int x1, .int 0, .int ((I 1 0) - 1)] I (some (.int v_11)) J_11 ∧ (r = some (.int v_11) ∧ J0 = J_11))) : cw_C (cr_w K) mX11_totalOf [.ref (cw_a (cr_w K) 0), .int x1] I r J0 := by
  refine cw_entry okX11_totalOf (Nat.le_of_ble_eq_true rfl) (show cw_B (cr_w K) mX11_totalOf (cw_Z (cr_w K) r J0) 0 0 I 0 [(0, .ref (cw_a (cr_w K) 0)), (1, .int x1)] [] from ?_)
  refine cw_aload_n dX11_totalOf_0 0 rfl rfl ?_
  refine cw_iload_n dX11_totalOf_1 1 rfl rfl ?_
  refine cw_iconst (v := 0) dX11_totalOf_2 (by decide) ?_
  refine cw_aload_n dX11_totalOf_3 0 rfl rfl ?_
  refine cw_getf (C := RX11) (T := TX11) (N := 20) (ci := 9) inX11_totalOf_RX11 0 (show 0 < 11 by decide) rfl rfl 0 (by decide) (by decide +kernel) rfl dX11_totalOf_4 ?_
  refine cw_iconst (v := 0) dX11_totalOf_7 (by decide) ?_
  refine cw_ialdL (j := 0) 1 (show 1 < 11 by decide) rfl 0 rfl dX11_totalOf_8 rfl (by decide) (by decide) ?_
  refine cw_iconst (v := 1) dX11_totalOf_9 (by decide) ?_
  refine cw_isub dX11_totalOf_10 ?_
  obtain ⟨v_11, J_11, hc_11, h⟩ := h
  refine cw_callV (o := 0) (As := [.int x1, .int 0, .int ((I 1 0) - 1)]) hc_11 okX11_worthOf rfl gX11_totalOf_X11_worthOf (by decide) (show 0 < 11 by decide) rfl (ci := 9) rfl rfl (Nat.le_of_ble_eq_true rfl) dX11_totalOf_11 ?_
  exact cw_iret rfl dX11_totalOf_14 h
abbrev bX11_totalWelfare_0_9 (K : cw_K) (r : Option Value) (J0 : cw_M) (x1 : Int32) (x2 : Int32) (I : cw_M) : Prop := cw_B (cr_w K) mX11_totalWelfare (cw_Z (cr_w K) r J0) 0 0 I 9 [(0, .ref (cw_a (cr_w K) 0)), (1, .int x1), (2, .int x2)] []
set_option maxRecDepth 20000 in
set_option maxHeartbeats 4000000 in
theorem eX11_totalWelfare_0 {K : cw_K} {r : Option Value} {J0 I : cw_M} (h : bX11_totalWelfare_0_9 K r J0 0 0 (cw_st I 0 9 0)) : cw_C (cr_w K) mX11_totalWelfare [.ref (cw_a (cr_w K) 0)] I r J0 := by
  refine cw_entry okX11_totalWelfare (Nat.le_of_ble_eq_true rfl) (show cw_B (cr_w K) mX11_totalWelfare (cw_Z (cr_w K) r J0) 0 0 I 0 [(0, .ref (cw_a (cr_w K) 0))] [] from ?_)
  refine cw_aload_n dX11_totalWelfare_0 0 rfl rfl ?_
  refine cw_iconst (v := 0) dX11_totalWelfare_1 (by decide) ?_
  refine cw_putf (C := RX11) (T := TX11) (N := 20) (ci := 9) inX11_totalWelfare_RX11 tyX11 tyX11_ok nmX11 0 (show 0 < 11 by decide) rfl rfl 9 (by decide) (by decide +kernel) rfl rfl (show 9 < 20 by decide) rfl dX11_totalWelfare_2 ?_
  refine cw_iconst (v := 0) dX11_totalWelfare_5 (by decide) ?_
  refine cw_istore_n dX11_totalWelfare_6 rfl (by decide) rfl ?_
  refine cw_iconst (v := 0) dX11_totalWelfare_7 (by decide) ?_
  refine cw_istore_n dX11_totalWelfare_8 rfl (by decide) rfl ?_
  refine cw_sub [2, 1, 0] rfl ?_
  exact h
set_option maxRecDepth 20000 in
set_option maxHeartbeats 4000000 in
theorem tbX11_totalWelfare_0_9 {K : cw_K} {r : Option Value} {J0 I : cw_M} {x1 : Int32} {x2 : Int32} (h : (((I 1 1) ≤ x2 → (r = some (.int x1) ∧ J0 = I)) ∧ (¬ (I 1 1) ≤ x2 → (∃ (v_22 : Int32) (J_22 : cw_M), cw_C (cr_w K) mX11_welfareOf [.ref (cw_a (cr_w K) 0), .int x2] I (some (.int v_22)) J_22 ∧ bX11_totalWelfare_0_9 K r J0 (x1 + v_22) (x2 + 1) J_22)))) : bX11_totalWelfare_0_9 K r J0 x1 x2 I := by
  refine cw_iload_n dX11_totalWelfare_9 2 rfl rfl ?_
  refine cw_aload_n dX11_totalWelfare_10 0 rfl rfl ?_
  refine cw_getf (C := RX11) (T := TX11) (N := 20) (ci := 9) inX11_totalWelfare_RX11 0 (show 0 < 11 by decide) rfl rfl 0 (by decide) (by decide +kernel) rfl dX11_totalWelfare_11 ?_
  refine cw_iconst (v := 1) dX11_totalWelfare_14 (by decide) ?_
  refine cw_ialdL (j := 1) 1 (show 1 < 11 by decide) rfl 0 rfl dX11_totalWelfare_15 rfl (by decide) (by decide) ?_
  refine cw_icmp_ge (tgt := 33) dX11_totalWelfare_16 (by decide) (fun q => ?_) (fun q => ?_)
  · have h := h.1 q
    refine cw_iload_n dX11_totalWelfare_33 1 rfl rfl ?_
    exact cw_iret rfl dX11_totalWelfare_34 h
  · have h := h.2 q
    refine cw_iload_n dX11_totalWelfare_19 1 rfl rfl ?_
    refine cw_aload_n dX11_totalWelfare_20 0 rfl rfl ?_
    refine cw_iload_n dX11_totalWelfare_21 2 rfl rfl ?_
    obtain ⟨v_22, J_22, hc_22, h⟩ := h
    refine cw_callV (o := 0) (As := [.int x2]) hc_22 okX11_welfareOf rfl gX11_totalWelfare_X11_welfareOf (by decide) (show 0 < 11 by decide) rfl (ci := 9) rfl rfl (Nat.le_of_ble_eq_true rfl) dX11_totalWelfare_22 ?_
    refine cw_iadd dX11_totalWelfare_25 ?_
    refine cw_istore_n dX11_totalWelfare_26 rfl (by decide) rfl ?_
    refine cw_iinc (v := x2 + 1) dX11_totalWelfare_27 (j := 2) rfl rfl (by decide) rfl ?_
    refine cw_goto (tgt := 9) dX11_totalWelfare_30 (by decide) ?_
    refine cw_sub [2, 1, 0] rfl ?_
    exact h
set_option maxRecDepth 20000 in
set_option maxHeartbeats 4000000 in
theorem eX11_truncate_0 {K : cw_K} {r : Option Value} {J0 I : cw_M} {x1 : Int32} (h : (∃ (v_7 : Int32) (J_7 : cw_M), cw_C (cr_w K) mX11_in [.int x1, .int 0, .int (I 0 4)] I (some (.int v_7)) J_7 ∧ ((¬ v_7 = 0 → (∃ (v_20 : Int32) (J_20 : cw_M), cw_C (cr_w K) mX11_fails [.ref (cw_a (cr_w K) 0), .int 0, .int 0, .int 0] J_7 (some (.int v_20)) J_20 ∧ ((v_20 = 0 → (r = some (.int x1) ∧ J0 = cw_st J_20 0 4 x1)) ∧ (¬ v_20 = 0 → (r = some (.int 0) ∧ J0 = J_20))))) ∧ (v_7 = 0 → (∃ (v_20 : Int32) (J_20 : cw_M), cw_C (cr_w K) mX11_fails [.ref (cw_a (cr_w K) 0), .int 1, .int 0, .int 0] J_7 (some (.int v_20)) J_20 ∧ ((v_20 = 0 → (r = some (.int x1) ∧ J0 = cw_st J_20 0 4 x1)) ∧ (¬ v_20 = 0 → (r = some (.int 0) ∧ J0 = J_20)))))))) : cw_C (cr_w K) mX11_truncate [.ref (cw_a (cr_w K) 0), .int x1] I r J0 := by
  refine cw_entry okX11_truncate (Nat.le_of_ble_eq_true rfl) (show cw_B (cr_w K) mX11_truncate (cw_Z (cr_w K) r J0) 0 0 I 0 [(0, .ref (cw_a (cr_w K) 0)), (1, .int x1)] [] from ?_)
  refine cw_aload_n dX11_truncate_0 0 rfl rfl ?_
  refine cw_iload_n dX11_truncate_1 1 rfl rfl ?_
  refine cw_iconst (v := 0) dX11_truncate_2 (by decide) ?_
  refine cw_aload_n dX11_truncate_3 0 rfl rfl ?_
  refine cw_getf (C := RX11) (T := TX11) (N := 20) (ci := 9) inX11_truncate_RX11 0 (show 0 < 11 by decide) rfl rfl 4 (by decide) (by decide +kernel) rfl dX11_truncate_4 ?_
  obtain ⟨v_7, J_7, hc_7, h⟩ := h
  refine cw_callS (As := [.int x1, .int 0, .int (I 0 4)]) hc_7 okX11_in rfl gX11_truncate_X11_in (by decide) rfl rfl (Nat.le_of_ble_eq_true rfl) dX11_truncate_7 ?_
  refine cw_if_ne (tgt := 17) dX11_truncate_10 (by decide) (fun q => ?_) (fun q => ?_)
  · have h := h.1 q
    refine cw_iconst (v := 0) dX11_truncate_17 (by decide) ?_
    refine cw_iconst (v := 0) dX11_truncate_18 (by decide) ?_
    refine cw_iconst (v := 0) dX11_truncate_19 (by decide) ?_
    obtain ⟨v_20, J_20, hc_20, h⟩ := h
    refine cw_callV (o := 0) (As := [.int 0, .int 0, .int 0]) hc_20 okX11_fails rfl gX11_truncate_X11_fails (by decide) (show 0 < 11 by decide) rfl (ci := 9) rfl rfl (Nat.le_of_ble_eq_true rfl) dX11_truncate_20 ?_
    refine cw_if_eq (tgt := 28) dX11_truncate_23 (by decide) (fun q => ?_) (fun q => ?_)
    · have h := h.1 q
      refine cw_aload_n dX11_truncate_28 0 rfl rfl ?_
      refine cw_iload_n dX11_truncate_29 1 rfl rfl ?_
      refine cw_putf (C := RX11) (T := TX11) (N := 20) (ci := 9) inX11_truncate_RX11 tyX11 tyX11_ok nmX11 0 (show 0 < 11 by decide) rfl rfl 4 (by decide) (by decide +kernel) rfl rfl (show 4 < 20 by decide) rfl dX11_truncate_30 ?_
      refine cw_iload_n dX11_truncate_33 1 rfl rfl ?_
      exact cw_iret rfl dX11_truncate_34 h
    · have h := h.2 q
      refine cw_iconst (v := 0) dX11_truncate_26 (by decide) ?_
      exact cw_iret rfl dX11_truncate_27 h
  · have h := h.2 q
    refine cw_iconst (v := 1) dX11_truncate_13 (by decide) ?_
    refine cw_goto (tgt := 18) dX11_truncate_14 (by decide) ?_
    refine cw_iconst (v := 0) dX11_truncate_18 (by decide) ?_
    refine cw_iconst (v := 0) dX11_truncate_19 (by decide) ?_
    obtain ⟨v_20, J_20, hc_20, h⟩ := h
    refine cw_callV (o := 0) (As := [.int 1, .int 0, .int 0]) hc_20 okX11_fails rfl gX11_truncate_X11_fails (by decide) (show 0 < 11 by decide) rfl (ci := 9) rfl rfl (Nat.le_of_ble_eq_true rfl) dX11_truncate_20 ?_
    refine cw_if_eq (tgt := 28) dX11_truncate_23 (by decide) (fun q => ?_) (fun q => ?_)
    · have h := h.1 q
      refine cw_aload_n dX11_truncate_28 0 rfl rfl ?_
      refine cw_iload_n dX11_truncate_29 1 rfl rfl ?_
      refine cw_putf (C := RX11) (T := TX11) (N := 20) (ci := 9) inX11_truncate_RX11 tyX11 tyX11_ok nmX11 0 (show 0 < 11 by decide) rfl rfl 4 (by decide) (by decide +kernel) rfl rfl (show 4 < 20 by decide) rfl dX11_truncate_30 ?_
      refine cw_iload_n dX11_truncate_33 1 rfl rfl ?_
      exact cw_iret rfl dX11_truncate_34 h
    · have h := h.2 q
      refine cw_iconst (v := 0) dX11_truncate_26 (by decide) ?_
      exact cw_iret rfl dX11_truncate_27 h
abbrev bX11_turnCycle_0_8 (K : cw_K) (r : Option Value) (J0 : cw_M) (x2 : Int32) (x3 : Int32) (I : cw_M) : Prop := cw_B (cr_w K) mX11_turnCycle (cw_Z (cr_w K) r J0) 0 0 I 8 [(0, .ref (cw_a (cr_w K) 0)), (2, .int x2), (3, .int x3)] []
abbrev bX11_turnCycle_0_28 (K : cw_K) (r : Option Value) (J0 : cw_M) (x2 : Int32) (x3 : Int32) (x4 : Int32) (x5 : Int32) (I : cw_M) : Prop := cw_B (cr_w K) mX11_turnCycle (cw_Z (cr_w K) r J0) 0 0 I 28 [(0, .ref (cw_a (cr_w K) 0)), (2, .int x2), (3, .int x3), (4, .int x4), (5, .int x5)] []
set_option maxRecDepth 20000 in
set_option maxHeartbeats 4000000 in
theorem eX11_turnCycle_0 {K : cw_K} {r : Option Value} {J0 I : cw_M} {x1 : Int32} (h : (∃ (v_2 : Int32) (J_2 : cw_M), cw_C (cr_w K) mX11_findCycle [.ref (cw_a (cr_w K) 0), .int x1] I (some (.int v_2)) J_2 ∧ bX11_turnCycle_0_8 K r J0 v_2 0 J_2)) : cw_C (cr_w K) mX11_turnCycle [.ref (cw_a (cr_w K) 0), .int x1] I r J0 := by
  refine cw_entry okX11_turnCycle (Nat.le_of_ble_eq_true rfl) (show cw_B (cr_w K) mX11_turnCycle (cw_Z (cr_w K) r J0) 0 0 I 0 [(0, .ref (cw_a (cr_w K) 0)), (1, .int x1)] [] from ?_)
  refine cw_aload_n dX11_turnCycle_0 0 rfl rfl ?_
  refine cw_iload_n dX11_turnCycle_1 1 rfl rfl ?_
  obtain ⟨v_2, J_2, hc_2, h⟩ := h
  refine cw_callV (o := 0) (As := [.int x1]) hc_2 okX11_findCycle rfl gX11_turnCycle_X11_findCycle (by decide) (show 0 < 11 by decide) rfl (ci := 9) rfl rfl (Nat.le_of_ble_eq_true rfl) dX11_turnCycle_2 ?_
  refine cw_istore_n dX11_turnCycle_5 rfl (by decide) rfl ?_
  refine cw_iconst (v := 0) dX11_turnCycle_6 (by decide) ?_
  refine cw_istore_n dX11_turnCycle_7 rfl (by decide) rfl ?_
  refine cw_sub [2, 1, 0] rfl ?_
  exact h
set_option maxRecDepth 20000 in
set_option maxHeartbeats 4000000 in
theorem tbX11_turnCycle_0_8 {K : cw_K} {r : Option Value} {J0 I : cw_M} {x2 : Int32} {x3 : Int32} (h : (((I 1 0) ≤ x3 → (r = some (.int x2) ∧ J0 = I)) ∧ (¬ (I 1 0) ≤ x3 → (∃ (v_20 : Int32) (J_20 : cw_M), cw_C (cr_w K) mX11_ownerOf [.ref (cw_a (cr_w K) 0), .int x3] I (some (.int v_20)) J_20 ∧ bX11_turnCycle_0_28 K r J0 x2 x3 v_20 0 J_20)))) : bX11_turnCycle_0_8 K r J0 x2 x3 I := by
  refine cw_iload_n dX11_turnCycle_8 2 rfl rfl ?_
  refine cw_aload_n dX11_turnCycle_9 0 rfl rfl ?_
  refine cw_getf (C := RX11) (T := TX11) (N := 20) (ci := 9) inX11_turnCycle_RX11 0 (show 0 < 11 by decide) rfl rfl 0 (by decide) (by decide +kernel) rfl dX11_turnCycle_10 ?_
  refine cw_iconst (v := 0) dX11_turnCycle_13 (by decide) ?_
  refine cw_ialdL (j := 0) 1 (show 1 < 11 by decide) rfl 0 rfl dX11_turnCycle_14 rfl (by decide) (by decide) ?_
  refine cw_icmp_ge (tgt := 79) dX11_turnCycle_15 (by decide) (fun q => ?_) (fun q => ?_)
  · have h := h.1 q
    refine cw_iload_n dX11_turnCycle_79 1 rfl rfl ?_
    exact cw_iret rfl dX11_turnCycle_80 h
  · have h := h.2 q
    refine cw_aload_n dX11_turnCycle_18 0 rfl rfl ?_
    refine cw_iload_n dX11_turnCycle_19 2 rfl rfl ?_
    obtain ⟨v_20, J_20, hc_20, h⟩ := h
    refine cw_callV (o := 0) (As := [.int x3]) hc_20 okX11_ownerOf rfl gX11_turnCycle_X11_ownerOf (by decide) (show 0 < 11 by decide) rfl (ci := 9) rfl rfl (Nat.le_of_ble_eq_true rfl) dX11_turnCycle_20 ?_
    refine cw_istore dX11_turnCycle_23 (by decide) rfl ?_
    refine cw_iconst (v := 0) dX11_turnCycle_25 (by decide) ?_
    refine cw_istore dX11_turnCycle_26 (by decide) rfl ?_
    refine cw_sub [2, 3, 4, 1, 0] rfl ?_
    exact h
set_option maxRecDepth 20000 in
set_option maxHeartbeats 4000000 in
theorem tbX11_turnCycle_0_28 {K : cw_K} {r : Option Value} {J0 I : cw_M} {x2 : Int32} {x3 : Int32} {x4 : Int32} {x5 : Int32} (h : ((x2 ≤ x5 → bX11_turnCycle_0_8 K r J0 x2 (x3 + 1) I) ∧ (¬ x2 ≤ x5 → (vp_in x5 6 ∧ ((¬ (I 6 x5.toNatClampNeg) = x4 → bX11_turnCycle_0_28 K r J0 x2 x3 x4 (x5 + 1) I) ∧ ((I 6 x5.toNatClampNeg) = x4 → (¬ x2 = 0 ∧ (vp_in (((x5 + x2) - 1) - ((x5 + x2) - 1) / x2 * x2) 6 ∧ (vp_in (2 + x3) 2120 ∧ bX11_turnCycle_0_28 K r J0 x2 x3 x4 (x5 + 1) (cw_st I 1 (2 + x3).toNatClampNeg (I 6 (((x5 + x2) - 1) - ((x5 + x2) - 1) / x2 * x2).toNatClampNeg))))))))))) : bX11_turnCycle_0_28 K r J0 x2 x3 x4 x5 I := by
  refine cw_iload dX11_turnCycle_28 4 rfl ?_
  refine cw_iload_n dX11_turnCycle_30 1 rfl rfl ?_
  refine cw_icmp_ge (tgt := 73) dX11_turnCycle_31 (by decide) (fun q => ?_) (fun q => ?_)
  · have h := h.1 q
    refine cw_iinc (v := x3 + 1) dX11_turnCycle_73 (j := 2) rfl rfl (by decide) rfl ?_
    refine cw_goto (tgt := 8) dX11_turnCycle_76 (by decide) ?_
    refine cw_sub [1, 2, 0] rfl ?_
    exact h
  · have h := h.2 q
    refine cw_aload_n dX11_turnCycle_34 0 rfl rfl ?_
    refine cw_getf (C := RX11) (T := TX11) (N := 20) (ci := 9) inX11_turnCycle_RX11 0 (show 0 < 11 by decide) rfl rfl 11 (by decide) (by decide +kernel) rfl dX11_turnCycle_35 ?_
    refine cw_iload dX11_turnCycle_38 4 rfl ?_
    obtain ⟨g_40, h⟩ := h
    refine cw_iald 6 (show 6 < 11 by decide) rfl 0 rfl dX11_turnCycle_40 g_40 ?_
    refine cw_iload dX11_turnCycle_41 3 rfl ?_
    refine cw_icmp_ne (tgt := 67) dX11_turnCycle_43 (by decide) (fun q => ?_) (fun q => ?_)
    · have h := h.1 q
      refine cw_iinc (v := x5 + 1) dX11_turnCycle_67 (j := 4) rfl rfl (by decide) rfl ?_
      refine cw_goto (tgt := 28) dX11_turnCycle_70 (by decide) ?_
      refine cw_sub [1, 2, 3, 4, 0] rfl ?_
      exact h
    · have h := h.2 q
      refine cw_aload_n dX11_turnCycle_46 0 rfl rfl ?_
      refine cw_getf (C := RX11) (T := TX11) (N := 20) (ci := 9) inX11_turnCycle_RX11 0 (show 0 < 11 by decide) rfl rfl 0 (by decide) (by decide +kernel) rfl dX11_turnCycle_47 ?_
      refine cw_iconst (v := 2) dX11_turnCycle_50 (by decide) ?_
      refine cw_iload_n dX11_turnCycle_51 2 rfl rfl ?_
      refine cw_iadd dX11_turnCycle_52 ?_
      refine cw_aload_n dX11_turnCycle_53 0 rfl rfl ?_
      refine cw_getf (C := RX11) (T := TX11) (N := 20) (ci := 9) inX11_turnCycle_RX11 0 (show 0 < 11 by decide) rfl rfl 11 (by decide) (by decide +kernel) rfl dX11_turnCycle_54 ?_
      refine cw_iload dX11_turnCycle_57 4 rfl ?_
      refine cw_iload_n dX11_turnCycle_59 1 rfl rfl ?_
      refine cw_iadd dX11_turnCycle_60 ?_
      refine cw_iconst (v := 1) dX11_turnCycle_61 (by decide) ?_
      refine cw_isub dX11_turnCycle_62 ?_
      refine cw_iload_n dX11_turnCycle_63 1 rfl rfl ?_
      obtain ⟨g0_64, h⟩ := h
      refine cw_irem dX11_turnCycle_64 g0_64 ?_
      obtain ⟨g_65, h⟩ := h
      refine cw_iald 6 (show 6 < 11 by decide) rfl 0 rfl dX11_turnCycle_65 g_65 ?_
      obtain ⟨g_66, h⟩ := h
      refine cw_iast 1 (show 1 < 11 by decide) (fun _ => rfl) 0 rfl dX11_turnCycle_66 g_66 ?_
      refine cw_iinc (v := x5 + 1) dX11_turnCycle_67 (j := 4) rfl rfl (by decide) rfl ?_
      refine cw_goto (tgt := 28) dX11_turnCycle_70 (by decide) ?_
      refine cw_sub [1, 2, 3, 4, 0] rfl ?_
      exact h
set_option maxRecDepth 20000 in
set_option maxHeartbeats 4000000 in
theorem eX11_undo_0 {K : cw_K} {r : Option Value} {J0 I : cw_M} (h : ((¬ (I 0 2) = 0 → (∃ (v_15 : Int32) (J_15 : cw_M), cw_C (cr_w K) mX11_fails [.ref (cw_a (cr_w K) 0), .int 0, .int 0, .int 0] I (some (.int v_15)) J_15 ∧ ((v_15 = 0 → (∃ J_29 : cw_M, cw_C (cr_w K) mX11_copyBlock [.ref (cw_a (cr_w K) 0), .int (J_15 0 2), .int 0] J_15 none J_29 ∧ (r = some (.int ((cw_st J_29 0 2 ((J_29 0 2) - 1)) 0 2)) ∧ J0 = cw_st J_29 0 2 ((J_29 0 2) - 1)))) ∧ (¬ v_15 = 0 → (r = some (.int 0) ∧ J0 = J_15))))) ∧ ((I 0 2) = 0 → (∃ (v_15 : Int32) (J_15 : cw_M), cw_C (cr_w K) mX11_fails [.ref (cw_a (cr_w K) 0), .int 1, .int 0, .int 0] I (some (.int v_15)) J_15 ∧ ((v_15 = 0 → (∃ J_29 : cw_M, cw_C (cr_w K) mX11_copyBlock [.ref (cw_a (cr_w K) 0), .int (J_15 0 2), .int 0] J_15 none J_29 ∧ (r = some (.int ((cw_st J_29 0 2 ((J_29 0 2) - 1)) 0 2)) ∧ J0 = cw_st J_29 0 2 ((J_29 0 2) - 1)))) ∧ (¬ v_15 = 0 → (r = some (.int 0) ∧ J0 = J_15))))))) : cw_C (cr_w K) mX11_undo [.ref (cw_a (cr_w K) 0)] I r J0 := by
  refine cw_entry okX11_undo (Nat.le_of_ble_eq_true rfl) (show cw_B (cr_w K) mX11_undo (cw_Z (cr_w K) r J0) 0 0 I 0 [(0, .ref (cw_a (cr_w K) 0))] [] from ?_)
  refine cw_aload_n dX11_undo_0 0 rfl rfl ?_
  refine cw_aload_n dX11_undo_1 0 rfl rfl ?_
  refine cw_getf (C := RX11) (T := TX11) (N := 20) (ci := 9) inX11_undo_RX11 0 (show 0 < 11 by decide) rfl rfl 2 (by decide) (by decide +kernel) rfl dX11_undo_2 ?_
  refine cw_if_ne (tgt := 12) dX11_undo_5 (by decide) (fun q => ?_) (fun q => ?_)
  · have h := h.1 q
    refine cw_iconst (v := 0) dX11_undo_12 (by decide) ?_
    refine cw_iconst (v := 0) dX11_undo_13 (by decide) ?_
    refine cw_iconst (v := 0) dX11_undo_14 (by decide) ?_
    obtain ⟨v_15, J_15, hc_15, h⟩ := h
    refine cw_callV (o := 0) (As := [.int 0, .int 0, .int 0]) hc_15 okX11_fails rfl gX11_undo_X11_fails (by decide) (show 0 < 11 by decide) rfl (ci := 9) rfl rfl (Nat.le_of_ble_eq_true rfl) dX11_undo_15 ?_
    refine cw_if_eq (tgt := 23) dX11_undo_18 (by decide) (fun q => ?_) (fun q => ?_)
    · have h := h.1 q
      refine cw_aload_n dX11_undo_23 0 rfl rfl ?_
      refine cw_aload_n dX11_undo_24 0 rfl rfl ?_
      refine cw_getf (C := RX11) (T := TX11) (N := 20) (ci := 9) inX11_undo_RX11 0 (show 0 < 11 by decide) rfl rfl 2 (by decide) (by decide +kernel) rfl dX11_undo_25 ?_
      refine cw_iconst (v := 0) dX11_undo_28 (by decide) ?_
      obtain ⟨J_29, hc_29, h⟩ := h
      refine cw_callV (o := 0) (As := [.int (J_15 0 2), .int 0]) hc_29 okX11_copyBlock rfl gX11_undo_X11_copyBlock (by decide) (show 0 < 11 by decide) rfl (ci := 9) rfl rfl (Nat.le_of_ble_eq_true rfl) dX11_undo_29 ?_
      refine cw_aload_n dX11_undo_32 0 rfl rfl ?_
      refine cw_dup dX11_undo_33 rfl ?_
      refine cw_getf (C := RX11) (T := TX11) (N := 20) (ci := 9) inX11_undo_RX11 0 (show 0 < 11 by decide) rfl rfl 2 (by decide) (by decide +kernel) rfl dX11_undo_34 ?_
      refine cw_iconst (v := 1) dX11_undo_37 (by decide) ?_
      refine cw_isub dX11_undo_38 ?_
      refine cw_putf (C := RX11) (T := TX11) (N := 20) (ci := 9) inX11_undo_RX11 tyX11 tyX11_ok nmX11 0 (show 0 < 11 by decide) rfl rfl 2 (by decide) (by decide +kernel) rfl rfl (show 2 < 20 by decide) rfl dX11_undo_39 ?_
      refine cw_aload_n dX11_undo_42 0 rfl rfl ?_
      refine cw_getf (C := RX11) (T := TX11) (N := 20) (ci := 9) inX11_undo_RX11 0 (show 0 < 11 by decide) rfl rfl 2 (by decide) (by decide +kernel) rfl dX11_undo_43 ?_
      exact cw_iret rfl dX11_undo_46 h
    · have h := h.2 q
      refine cw_iconst (v := 0) dX11_undo_21 (by decide) ?_
      exact cw_iret rfl dX11_undo_22 h
  · have h := h.2 q
    refine cw_iconst (v := 1) dX11_undo_8 (by decide) ?_
    refine cw_goto (tgt := 13) dX11_undo_9 (by decide) ?_
    refine cw_iconst (v := 0) dX11_undo_13 (by decide) ?_
    refine cw_iconst (v := 0) dX11_undo_14 (by decide) ?_
    obtain ⟨v_15, J_15, hc_15, h⟩ := h
    refine cw_callV (o := 0) (As := [.int 1, .int 0, .int 0]) hc_15 okX11_fails rfl gX11_undo_X11_fails (by decide) (show 0 < 11 by decide) rfl (ci := 9) rfl rfl (Nat.le_of_ble_eq_true rfl) dX11_undo_15 ?_
    refine cw_if_eq (tgt := 23) dX11_undo_18 (by decide) (fun q => ?_) (fun q => ?_)
    · have h := h.1 q
      refine cw_aload_n dX11_undo_23 0 rfl rfl ?_
      refine cw_aload_n dX11_undo_24 0 rfl rfl ?_
      refine cw_getf (C := RX11) (T := TX11) (N := 20) (ci := 9) inX11_undo_RX11 0 (show 0 < 11 by decide) rfl rfl 2 (by decide) (by decide +kernel) rfl dX11_undo_25 ?_
      refine cw_iconst (v := 0) dX11_undo_28 (by decide) ?_
      obtain ⟨J_29, hc_29, h⟩ := h
      refine cw_callV (o := 0) (As := [.int (J_15 0 2), .int 0]) hc_29 okX11_copyBlock rfl gX11_undo_X11_copyBlock (by decide) (show 0 < 11 by decide) rfl (ci := 9) rfl rfl (Nat.le_of_ble_eq_true rfl) dX11_undo_29 ?_
      refine cw_aload_n dX11_undo_32 0 rfl rfl ?_
      refine cw_dup dX11_undo_33 rfl ?_
      refine cw_getf (C := RX11) (T := TX11) (N := 20) (ci := 9) inX11_undo_RX11 0 (show 0 < 11 by decide) rfl rfl 2 (by decide) (by decide +kernel) rfl dX11_undo_34 ?_
      refine cw_iconst (v := 1) dX11_undo_37 (by decide) ?_
      refine cw_isub dX11_undo_38 ?_
      refine cw_putf (C := RX11) (T := TX11) (N := 20) (ci := 9) inX11_undo_RX11 tyX11 tyX11_ok nmX11 0 (show 0 < 11 by decide) rfl rfl 2 (by decide) (by decide +kernel) rfl rfl (show 2 < 20 by decide) rfl dX11_undo_39 ?_
      refine cw_aload_n dX11_undo_42 0 rfl rfl ?_
      refine cw_getf (C := RX11) (T := TX11) (N := 20) (ci := 9) inX11_undo_RX11 0 (show 0 < 11 by decide) rfl rfl 2 (by decide) (by decide +kernel) rfl dX11_undo_43 ?_
      exact cw_iret rfl dX11_undo_46 h
    · have h := h.2 q
      refine cw_iconst (v := 0) dX11_undo_21 (by decide) ?_
      exact cw_iret rfl dX11_undo_22 h
set_option maxRecDepth 20000 in
set_option maxHeartbeats 4000000 in
theorem eX11_value_0 {K : cw_K} {r : Option Value} {J0 I : cw_M} {x1 : Int32} {x2 : Int32} (h : (∃ (v_3 : Int32) (J_3 : cw_M), cw_C (cr_w K) mX11_isSibling [.ref (cw_a (cr_w K) 0), .int x1] I (some (.int v_3)) J_3 ∧ ((v_3 = 0 → (∃ (v_24 : Int32) (J_24 : cw_M), cw_C (cr_w K) mX11_fails [.ref (cw_a (cr_w K) 0), .int 1, .int 0, .int 0] J_3 (some (.int v_24)) J_24 ∧ ((v_24 = 0 → (∃ (v_35 : Int32) (J_35 : cw_M), cw_C (cr_w K) mX11_valueOf [.ref (cw_a (cr_w K) 0), .int x1, .int x2] J_24 (some (.int v_35)) J_35 ∧ (r = some (.int v_35) ∧ J0 = J_35))) ∧ (¬ v_24 = 0 → (r = some (.int 0) ∧ J0 = J_24))))) ∧ (¬ v_3 = 0 → (∃ (v_11 : Int32) (J_11 : cw_M), cw_C (cr_w K) mX11_isCell [.ref (cw_a (cr_w K) 0), .int x2] J_3 (some (.int v_11)) J_11 ∧ ((¬ v_11 = 0 → (∃ (v_24 : Int32) (J_24 : cw_M), cw_C (cr_w K) mX11_fails [.ref (cw_a (cr_w K) 0), .int 0, .int 0, .int 0] J_11 (some (.int v_24)) J_24 ∧ ((v_24 = 0 → (∃ (v_35 : Int32) (J_35 : cw_M), cw_C (cr_w K) mX11_valueOf [.ref (cw_a (cr_w K) 0), .int x1, .int x2] J_24 (some (.int v_35)) J_35 ∧ (r = some (.int v_35) ∧ J0 = J_35))) ∧ (¬ v_24 = 0 → (r = some (.int 0) ∧ J0 = J_24))))) ∧ (v_11 = 0 → (∃ (v_24 : Int32) (J_24 : cw_M), cw_C (cr_w K) mX11_fails [.ref (cw_a (cr_w K) 0), .int 1, .int 0, .int 0] J_11 (some (.int v_24)) J_24 ∧ ((v_24 = 0 → (∃ (v_35 : Int32) (J_35 : cw_M), cw_C (cr_w K) mX11_valueOf [.ref (cw_a (cr_w K) 0), .int x1, .int x2] J_24 (some (.int v_35)) J_35 ∧ (r = some (.int v_35) ∧ J0 = J_35))) ∧ (¬ v_24 = 0 → (r = some (.int 0) ∧ J0 = J_24))))))))))) : cw_C (cr_w K) mX11_value [.ref (cw_a (cr_w K) 0), .int x1, .int x2] I r J0 := by
  refine cw_entry okX11_value (Nat.le_of_ble_eq_true rfl) (show cw_B (cr_w K) mX11_value (cw_Z (cr_w K) r J0) 0 0 I 0 [(0, .ref (cw_a (cr_w K) 0)), (1, .int x1), (2, .int x2)] [] from ?_)
  refine cw_aload_n dX11_value_0 0 rfl rfl ?_
  refine cw_aload_n dX11_value_1 0 rfl rfl ?_
  refine cw_iload_n dX11_value_2 1 rfl rfl ?_
  obtain ⟨v_3, J_3, hc_3, h⟩ := h
  refine cw_callV (o := 0) (As := [.int x1]) hc_3 okX11_isSibling rfl gX11_value_X11_isSibling (by decide) (show 0 < 11 by decide) rfl (ci := 9) rfl rfl (Nat.le_of_ble_eq_true rfl) dX11_value_3 ?_
  refine cw_if_eq (tgt := 17) dX11_value_6 (by decide) (fun q => ?_) (fun q => ?_)
  · have h := h.1 q
    refine cw_iconst (v := 1) dX11_value_17 (by decide) ?_
    refine cw_goto (tgt := 22) dX11_value_18 (by decide) ?_
    refine cw_iconst (v := 0) dX11_value_22 (by decide) ?_
    refine cw_iconst (v := 0) dX11_value_23 (by decide) ?_
    obtain ⟨v_24, J_24, hc_24, h⟩ := h
    refine cw_callV (o := 0) (As := [.int 1, .int 0, .int 0]) hc_24 okX11_fails rfl gX11_value_X11_fails (by decide) (show 0 < 11 by decide) rfl (ci := 9) rfl rfl (Nat.le_of_ble_eq_true rfl) dX11_value_24 ?_
    refine cw_if_eq (tgt := 32) dX11_value_27 (by decide) (fun q => ?_) (fun q => ?_)
    · have h := h.1 q
      refine cw_aload_n dX11_value_32 0 rfl rfl ?_
      refine cw_iload_n dX11_value_33 1 rfl rfl ?_
      refine cw_iload_n dX11_value_34 2 rfl rfl ?_
      obtain ⟨v_35, J_35, hc_35, h⟩ := h
      refine cw_callV (o := 0) (As := [.int x1, .int x2]) hc_35 okX11_valueOf rfl gX11_value_X11_valueOf (by decide) (show 0 < 11 by decide) rfl (ci := 9) rfl rfl (Nat.le_of_ble_eq_true rfl) dX11_value_35 ?_
      exact cw_iret rfl dX11_value_38 h
    · have h := h.2 q
      refine cw_iconst (v := 0) dX11_value_30 (by decide) ?_
      exact cw_iret rfl dX11_value_31 h
  · have h := h.2 q
    refine cw_aload_n dX11_value_9 0 rfl rfl ?_
    refine cw_iload_n dX11_value_10 2 rfl rfl ?_
    obtain ⟨v_11, J_11, hc_11, h⟩ := h
    refine cw_callV (o := 0) (As := [.int x2]) hc_11 okX11_isCell rfl gX11_value_X11_isCell (by decide) (show 0 < 11 by decide) rfl (ci := 9) rfl rfl (Nat.le_of_ble_eq_true rfl) dX11_value_11 ?_
    refine cw_if_ne (tgt := 21) dX11_value_14 (by decide) (fun q => ?_) (fun q => ?_)
    · have h := h.1 q
      refine cw_iconst (v := 0) dX11_value_21 (by decide) ?_
      refine cw_iconst (v := 0) dX11_value_22 (by decide) ?_
      refine cw_iconst (v := 0) dX11_value_23 (by decide) ?_
      obtain ⟨v_24, J_24, hc_24, h⟩ := h
      refine cw_callV (o := 0) (As := [.int 0, .int 0, .int 0]) hc_24 okX11_fails rfl gX11_value_X11_fails (by decide) (show 0 < 11 by decide) rfl (ci := 9) rfl rfl (Nat.le_of_ble_eq_true rfl) dX11_value_24 ?_
      refine cw_if_eq (tgt := 32) dX11_value_27 (by decide) (fun q => ?_) (fun q => ?_)
      · have h := h.1 q
        refine cw_aload_n dX11_value_32 0 rfl rfl ?_
        refine cw_iload_n dX11_value_33 1 rfl rfl ?_
        refine cw_iload_n dX11_value_34 2 rfl rfl ?_
        obtain ⟨v_35, J_35, hc_35, h⟩ := h
        refine cw_callV (o := 0) (As := [.int x1, .int x2]) hc_35 okX11_valueOf rfl gX11_value_X11_valueOf (by decide) (show 0 < 11 by decide) rfl (ci := 9) rfl rfl (Nat.le_of_ble_eq_true rfl) dX11_value_35 ?_
        exact cw_iret rfl dX11_value_38 h
      · have h := h.2 q
        refine cw_iconst (v := 0) dX11_value_30 (by decide) ?_
        exact cw_iret rfl dX11_value_31 h
    · have h := h.2 q
      refine cw_iconst (v := 1) dX11_value_17 (by decide) ?_
      refine cw_goto (tgt := 22) dX11_value_18 (by decide) ?_
      refine cw_iconst (v := 0) dX11_value_22 (by decide) ?_
      refine cw_iconst (v := 0) dX11_value_23 (by decide) ?_
      obtain ⟨v_24, J_24, hc_24, h⟩ := h
      refine cw_callV (o := 0) (As := [.int 1, .int 0, .int 0]) hc_24 okX11_fails rfl gX11_value_X11_fails (by decide) (show 0 < 11 by decide) rfl (ci := 9) rfl rfl (Nat.le_of_ble_eq_true rfl) dX11_value_24 ?_
      refine cw_if_eq (tgt := 32) dX11_value_27 (by decide) (fun q => ?_) (fun q => ?_)
      · have h := h.1 q
        refine cw_aload_n dX11_value_32 0 rfl rfl ?_
        refine cw_iload_n dX11_value_33 1 rfl rfl ?_
        refine cw_iload_n dX11_value_34 2 rfl rfl ?_
        obtain ⟨v_35, J_35, hc_35, h⟩ := h
        refine cw_callV (o := 0) (As := [.int x1, .int x2]) hc_35 okX11_valueOf rfl gX11_value_X11_valueOf (by decide) (show 0 < 11 by decide) rfl (ci := 9) rfl rfl (Nat.le_of_ble_eq_true rfl) dX11_value_35 ?_
        exact cw_iret rfl dX11_value_38 h
      · have h := h.2 q
        refine cw_iconst (v := 0) dX11_value_30 (by decide) ?_
        exact cw_iret rfl dX11_value_31 h
set_option maxRecDepth 20000 in
set_option maxHeartbeats 4000000 in
theorem eX11_valueOf_0 {K : cw_K} {r : Option Value} {J0 I : cw_M} {x1 : Int32} {x2 : Int32} (h : (vp_in (((26 + (x1 * 31)) + 7) + x2) 2120 ∧ (r = some (.int (I 1 (((26 + (x1 * 31)) + 7) + x2).toNatClampNeg)) ∧ J0 = I))) : cw_C (cr_w K) mX11_valueOf [.ref (cw_a (cr_w K) 0), .int x1, .int x2] I r J0 := by
  refine cw_entry okX11_valueOf (Nat.le_of_ble_eq_true rfl) (show cw_B (cr_w K) mX11_valueOf (cw_Z (cr_w K) r J0) 0 0 I 0 [(0, .ref (cw_a (cr_w K) 0)), (1, .int x1), (2, .int x2)] [] from ?_)
  refine cw_aload_n dX11_valueOf_0 0 rfl rfl ?_
  refine cw_getf (C := RX11) (T := TX11) (N := 20) (ci := 9) inX11_valueOf_RX11 0 (show 0 < 11 by decide) rfl rfl 0 (by decide) (by decide +kernel) rfl dX11_valueOf_1 ?_
  refine cw_bipush (v := 26) dX11_valueOf_4 (by decide) ?_
  refine cw_iload_n dX11_valueOf_6 1 rfl rfl ?_
  refine cw_bipush (v := 31) dX11_valueOf_7 (by decide) ?_
  refine cw_imul dX11_valueOf_9 ?_
  refine cw_iadd dX11_valueOf_10 ?_
  refine cw_bipush (v := 7) dX11_valueOf_11 (by decide) ?_
  refine cw_iadd dX11_valueOf_13 ?_
  refine cw_iload_n dX11_valueOf_14 2 rfl rfl ?_
  refine cw_iadd dX11_valueOf_15 ?_
  obtain ⟨g_16, h⟩ := h
  refine cw_iald 1 (show 1 < 11 by decide) rfl 0 rfl dX11_valueOf_16 g_16 ?_
  exact cw_iret rfl dX11_valueOf_17 h
abbrev bX11_walkTo_0_2 (K : cw_K) (r : Option Value) (J0 : cw_M) (x1 : Int32) (x2 : Int32) (I : cw_M) : Prop := cw_B (cr_w K) mX11_walkTo (cw_Z (cr_w K) r J0) 0 0 I 2 [(0, .ref (cw_a (cr_w K) 0)), (1, .int x1), (2, .int x2)] []
abbrev bX11_walkTo_0_23 (K : cw_K) (r : Option Value) (J0 : cw_M) (x1 : Int32) (x2 : Int32) (I : cw_M) : Prop := cw_B (cr_w K) mX11_walkTo (cw_Z (cr_w K) r J0) 0 0 I 23 [(0, .ref (cw_a (cr_w K) 0)), (1, .int x1), (2, .int x2)] []
abbrev bX11_walkTo_0_35 (K : cw_K) (r : Option Value) (J0 : cw_M) (x1 : Int32) (x2 : Int32) (x3 : Int32) (I : cw_M) : Prop := cw_B (cr_w K) mX11_walkTo (cw_Z (cr_w K) r J0) 0 0 I 35 [(0, .ref (cw_a (cr_w K) 0)), (1, .int x1), (2, .int x2), (3, .int x3)] []
abbrev bX11_walkTo_0_48 (K : cw_K) (r : Option Value) (J0 : cw_M) (x1 : Int32) (x2 : Int32) (x3 : Int32) (x4 : Int32) (I : cw_M) : Prop := cw_B (cr_w K) mX11_walkTo (cw_Z (cr_w K) r J0) 0 0 I 48 [(0, .ref (cw_a (cr_w K) 0)), (1, .int x1), (2, .int x2), (3, .int x3), (4, .int x4)] []
set_option maxRecDepth 20000 in
set_option maxHeartbeats 4000000 in
theorem eX11_walkTo_0 {K : cw_K} {r : Option Value} {J0 I : cw_M} {x1 : Int32} (h : bX11_walkTo_0_2 K r J0 x1 0 I) : cw_C (cr_w K) mX11_walkTo [.ref (cw_a (cr_w K) 0), .int x1] I r J0 := by
  refine cw_entry okX11_walkTo (Nat.le_of_ble_eq_true rfl) (show cw_B (cr_w K) mX11_walkTo (cw_Z (cr_w K) r J0) 0 0 I 0 [(0, .ref (cw_a (cr_w K) 0)), (1, .int x1)] [] from ?_)
  refine cw_iconst (v := 0) dX11_walkTo_0 (by decide) ?_
  refine cw_istore_n dX11_walkTo_1 rfl (by decide) rfl ?_
  refine cw_sub [1, 2, 0] rfl ?_
  exact h
set_option maxRecDepth 20000 in
set_option maxHeartbeats 4000000 in
theorem tbX11_walkTo_0_2 {K : cw_K} {r : Option Value} {J0 I : cw_M} {x1 : Int32} {x2 : Int32} (h : ((6 ≤ x2 → bX11_walkTo_0_23 K r J0 x1 1 I) ∧ (¬ 6 ≤ x2 → (vp_in x2 6 ∧ bX11_walkTo_0_2 K r J0 x1 (x2 + 1) (cw_st I 5 x2.toNatClampNeg (-1)))))) : bX11_walkTo_0_2 K r J0 x1 x2 I := by
  refine cw_iload_n dX11_walkTo_2 2 rfl rfl ?_
  refine cw_bipush (v := 6) dX11_walkTo_3 (by decide) ?_
  refine cw_icmp_ge (tgt := 21) dX11_walkTo_5 (by decide) (fun q => ?_) (fun q => ?_)
  · have h := h.1 q
    refine cw_iconst (v := 1) dX11_walkTo_21 (by decide) ?_
    refine cw_istore_n dX11_walkTo_22 rfl (by decide) rfl ?_
    refine cw_sub [1, 2, 0] rfl ?_
    exact h
  · have h := h.2 q
    refine cw_aload_n dX11_walkTo_8 0 rfl rfl ?_
    refine cw_getf (C := RX11) (T := TX11) (N := 20) (ci := 9) inX11_walkTo_RX11 0 (show 0 < 11 by decide) rfl rfl 10 (by decide) (by decide +kernel) rfl dX11_walkTo_9 ?_
    refine cw_iload_n dX11_walkTo_12 2 rfl rfl ?_
    refine cw_iconst (v := (-1)) dX11_walkTo_13 (by decide) ?_
    obtain ⟨g_14, h⟩ := h
    refine cw_iast 5 (show 5 < 11 by decide) (fun _ => rfl) 0 rfl dX11_walkTo_14 g_14 ?_
    refine cw_iinc (v := x2 + 1) dX11_walkTo_15 (j := 2) rfl rfl (by decide) rfl ?_
    refine cw_goto (tgt := 2) dX11_walkTo_18 (by decide) ?_
    refine cw_sub [1, 2, 0] rfl ?_
    exact h
set_option maxRecDepth 20000 in
set_option maxHeartbeats 4000000 in
theorem tbX11_walkTo_0_23 {K : cw_K} {r : Option Value} {J0 I : cw_M} {x1 : Int32} {x2 : Int32} (h : (((I 1 1) < x2 → (r = none ∧ J0 = I)) ∧ (¬ (I 1 1) < x2 → bX11_walkTo_0_35 K r J0 x1 x2 0 I))) : bX11_walkTo_0_23 K r J0 x1 x2 I := by
  refine cw_iload_n dX11_walkTo_23 2 rfl rfl ?_
  refine cw_aload_n dX11_walkTo_24 0 rfl rfl ?_
  refine cw_getf (C := RX11) (T := TX11) (N := 20) (ci := 9) inX11_walkTo_RX11 0 (show 0 < 11 by decide) rfl rfl 0 (by decide) (by decide +kernel) rfl dX11_walkTo_25 ?_
  refine cw_iconst (v := 1) dX11_walkTo_28 (by decide) ?_
  refine cw_ialdL (j := 1) 1 (show 1 < 11 by decide) rfl 0 rfl dX11_walkTo_29 rfl (by decide) (by decide) ?_
  refine cw_icmp_gt (tgt := 154) dX11_walkTo_30 (by decide) (fun q => ?_) (fun q => ?_)
  · have h := h.1 q
    exact cw_vret rfl dX11_walkTo_154 h
  · have h := h.2 q
    refine cw_iconst (v := 0) dX11_walkTo_33 (by decide) ?_
    refine cw_istore_n dX11_walkTo_34 rfl (by decide) rfl ?_
    refine cw_sub [1, 2, 3, 0] rfl ?_
    exact h
set_option maxRecDepth 20000 in
set_option maxHeartbeats 4000000 in
theorem tbX11_walkTo_0_35 {K : cw_K} {r : Option Value} {J0 I : cw_M} {x1 : Int32} {x2 : Int32} {x3 : Int32} (h : (((I 1 1) ≤ x3 → bX11_walkTo_0_23 K r J0 x1 (x2 + 1) I) ∧ (¬ (I 1 1) ≤ x3 → bX11_walkTo_0_48 K r J0 x1 x2 x3 0 I))) : bX11_walkTo_0_35 K r J0 x1 x2 x3 I := by
  refine cw_iload_n dX11_walkTo_35 3 rfl rfl ?_
  refine cw_aload_n dX11_walkTo_36 0 rfl rfl ?_
  refine cw_getf (C := RX11) (T := TX11) (N := 20) (ci := 9) inX11_walkTo_RX11 0 (show 0 < 11 by decide) rfl rfl 0 (by decide) (by decide +kernel) rfl dX11_walkTo_37 ?_
  refine cw_iconst (v := 1) dX11_walkTo_40 (by decide) ?_
  refine cw_ialdL (j := 1) 1 (show 1 < 11 by decide) rfl 0 rfl dX11_walkTo_41 rfl (by decide) (by decide) ?_
  refine cw_icmp_ge (tgt := 148) dX11_walkTo_42 (by decide) (fun q => ?_) (fun q => ?_)
  · have h := h.1 q
    refine cw_iinc (v := x2 + 1) dX11_walkTo_148 (j := 2) rfl rfl (by decide) rfl ?_
    refine cw_goto (tgt := 23) dX11_walkTo_151 (by decide) ?_
    refine cw_sub [1, 2, 0] rfl ?_
    exact h
  · have h := h.2 q
    refine cw_iconst (v := 0) dX11_walkTo_45 (by decide) ?_
    refine cw_istore dX11_walkTo_46 (by decide) rfl ?_
    refine cw_sub [1, 2, 3, 4, 0] rfl ?_
    exact h
set_option maxRecDepth 20000 in
set_option maxHeartbeats 4000000 in
theorem tbX11_walkTo_0_48 {K : cw_K} {r : Option Value} {J0 I : cw_M} {x1 : Int32} {x2 : Int32} {x3 : Int32} {x4 : Int32} (h : (vp_in x3 6 ∧ ((¬ (I 5 x3.toNatClampNeg) = (-1) → bX11_walkTo_0_35 K r J0 x1 x2 (x3 + 1) I) ∧ ((I 5 x3.toNatClampNeg) = (-1) → (((I 1 1) ≤ x4 → bX11_walkTo_0_35 K r J0 x1 x2 (x3 + 1) I) ∧ (¬ (I 1 1) ≤ x4 → ((¬ x2 = 1 → ((x4 = x1 → bX11_walkTo_0_48 K r J0 x1 x2 x3 (x4 + 1) I) ∧ (¬ x4 = x1 → (vp_in x4 6 ∧ ((¬ (I 5 x4.toNatClampNeg) = (x2 - 1) → bX11_walkTo_0_48 K r J0 x1 x2 x3 (x4 + 1) I) ∧ ((I 5 x4.toNatClampNeg) = (x2 - 1) → (∃ (v_123 : Int32) (J_123 : cw_M), cw_C (cr_w K) mX11_hasEnvy [.ref (cw_a (cr_w K) 0), .int x3, .int x4] I (some (.int v_123)) J_123 ∧ ((v_123 = 0 → bX11_walkTo_0_48 K r J0 x1 x2 x3 (x4 + 1) J_123) ∧ (¬ v_123 = 0 → (vp_in x3 6 ∧ bX11_walkTo_0_48 K r J0 x1 x2 x3 (x4 + 1) (cw_st J_123 5 x3.toNatClampNeg x2))))))))))) ∧ (x2 = 1 → ((¬ x4 = x1 → bX11_walkTo_0_48 K r J0 x1 x2 x3 (x4 + 1) I) ∧ (x4 = x1 → (∃ (v_123 : Int32) (J_123 : cw_M), cw_C (cr_w K) mX11_hasEnvy [.ref (cw_a (cr_w K) 0), .int x3, .int x4] I (some (.int v_123)) J_123 ∧ ((v_123 = 0 → bX11_walkTo_0_48 K r J0 x1 x2 x3 (x4 + 1) J_123) ∧ (¬ v_123 = 0 → (vp_in x3 6 ∧ bX11_walkTo_0_48 K r J0 x1 x2 x3 (x4 + 1) (cw_st J_123 5 x3.toNatClampNeg x2))))))))))))))) : bX11_walkTo_0_48 K r J0 x1 x2 x3 x4 I := by
  refine cw_aload_n dX11_walkTo_48 0 rfl rfl ?_
  refine cw_getf (C := RX11) (T := TX11) (N := 20) (ci := 9) inX11_walkTo_RX11 0 (show 0 < 11 by decide) rfl rfl 10 (by decide) (by decide +kernel) rfl dX11_walkTo_49 ?_
  refine cw_iload_n dX11_walkTo_52 3 rfl rfl ?_
  obtain ⟨g_53, h⟩ := h
  refine cw_iald 5 (show 5 < 11 by decide) rfl 0 rfl dX11_walkTo_53 g_53 ?_
  refine cw_iconst (v := (-1)) dX11_walkTo_54 (by decide) ?_
  refine cw_icmp_ne (tgt := 142) dX11_walkTo_55 (by decide) (fun q => ?_) (fun q => ?_)
  · have h := h.1 q
    refine cw_iinc (v := x3 + 1) dX11_walkTo_142 (j := 3) rfl rfl (by decide) rfl ?_
    refine cw_goto (tgt := 35) dX11_walkTo_145 (by decide) ?_
    refine cw_sub [1, 2, 3, 0] rfl ?_
    exact h
  · have h := h.2 q
    refine cw_iload dX11_walkTo_58 4 rfl ?_
    refine cw_aload_n dX11_walkTo_60 0 rfl rfl ?_
    refine cw_getf (C := RX11) (T := TX11) (N := 20) (ci := 9) inX11_walkTo_RX11 0 (show 0 < 11 by decide) rfl rfl 0 (by decide) (by decide +kernel) rfl dX11_walkTo_61 ?_
    refine cw_iconst (v := 1) dX11_walkTo_64 (by decide) ?_
    refine cw_ialdL (j := 1) 1 (show 1 < 11 by decide) rfl 0 rfl dX11_walkTo_65 rfl (by decide) (by decide) ?_
    refine cw_icmp_ge (tgt := 142) dX11_walkTo_66 (by decide) (fun q => ?_) (fun q => ?_)
    · have h := h.1 q
      refine cw_iinc (v := x3 + 1) dX11_walkTo_142 (j := 3) rfl rfl (by decide) rfl ?_
      refine cw_goto (tgt := 35) dX11_walkTo_145 (by decide) ?_
      refine cw_sub [1, 2, 3, 0] rfl ?_
      exact h
    · have h := h.2 q
      refine cw_iload_n dX11_walkTo_69 2 rfl rfl ?_
      refine cw_iconst (v := 1) dX11_walkTo_70 (by decide) ?_
      refine cw_icmp_ne (tgt := 88) dX11_walkTo_71 (by decide) (fun q => ?_) (fun q => ?_)
      · have h := h.1 q
        refine cw_iload dX11_walkTo_88 4 rfl ?_
        refine cw_iload_n dX11_walkTo_90 1 rfl rfl ?_
        refine cw_icmp_eq (tgt := 111) dX11_walkTo_91 (by decide) (fun q => ?_) (fun q => ?_)
        · have h := h.1 q
          refine cw_iconst (v := 0) dX11_walkTo_111 (by decide) ?_
          refine cw_istore dX11_walkTo_112 (by decide) rfl ?_
          refine cw_iload dX11_walkTo_114 0 rfl ?_
          refine cw_if_eq (tgt := 136) dX11_walkTo_116 (by decide) (fun _ => ?_) (fun q => absurd q (by decide))
          refine cw_iinc (v := x4 + 1) dX11_walkTo_136 (j := 5) rfl rfl (by decide) rfl ?_
          refine cw_goto (tgt := 48) dX11_walkTo_139 (by decide) ?_
          refine cw_sub [2, 3, 4, 5, 0] rfl ?_
          exact h
        · have h := h.2 q
          refine cw_aload_n dX11_walkTo_94 0 rfl rfl ?_
          refine cw_getf (C := RX11) (T := TX11) (N := 20) (ci := 9) inX11_walkTo_RX11 0 (show 0 < 11 by decide) rfl rfl 10 (by decide) (by decide +kernel) rfl dX11_walkTo_95 ?_
          refine cw_iload dX11_walkTo_98 4 rfl ?_
          obtain ⟨g_100, h⟩ := h
          refine cw_iald 5 (show 5 < 11 by decide) rfl 0 rfl dX11_walkTo_100 g_100 ?_
          refine cw_iload_n dX11_walkTo_101 2 rfl rfl ?_
          refine cw_iconst (v := 1) dX11_walkTo_102 (by decide) ?_
          refine cw_isub dX11_walkTo_103 ?_
          refine cw_icmp_ne (tgt := 111) dX11_walkTo_104 (by decide) (fun q => ?_) (fun q => ?_)
          · have h := h.1 q
            refine cw_iconst (v := 0) dX11_walkTo_111 (by decide) ?_
            refine cw_istore dX11_walkTo_112 (by decide) rfl ?_
            refine cw_iload dX11_walkTo_114 0 rfl ?_
            refine cw_if_eq (tgt := 136) dX11_walkTo_116 (by decide) (fun _ => ?_) (fun q => absurd q (by decide))
            refine cw_iinc (v := x4 + 1) dX11_walkTo_136 (j := 5) rfl rfl (by decide) rfl ?_
            refine cw_goto (tgt := 48) dX11_walkTo_139 (by decide) ?_
            refine cw_sub [2, 3, 4, 5, 0] rfl ?_
            exact h
          · have h := h.2 q
            refine cw_iconst (v := 1) dX11_walkTo_107 (by decide) ?_
            refine cw_goto (tgt := 112) dX11_walkTo_108 (by decide) ?_
            refine cw_istore dX11_walkTo_112 (by decide) rfl ?_
            refine cw_iload dX11_walkTo_114 0 rfl ?_
            refine cw_if_eq (tgt := 136) dX11_walkTo_116 (by decide) (fun q => absurd q (by decide)) (fun _ => ?_)
            refine cw_aload_n dX11_walkTo_119 1 rfl rfl ?_
            refine cw_iload_n dX11_walkTo_120 4 rfl rfl ?_
            refine cw_iload dX11_walkTo_121 5 rfl ?_
            obtain ⟨v_123, J_123, hc_123, h⟩ := h
            refine cw_callV (o := 0) (As := [.int x3, .int x4]) hc_123 okX11_hasEnvy rfl gX11_walkTo_X11_hasEnvy (by decide) (show 0 < 11 by decide) rfl (ci := 9) rfl rfl (Nat.le_of_ble_eq_true rfl) dX11_walkTo_123 ?_
            refine cw_if_eq (tgt := 136) dX11_walkTo_126 (by decide) (fun q => ?_) (fun q => ?_)
            · have h := h.1 q
              refine cw_iinc (v := x4 + 1) dX11_walkTo_136 (j := 5) rfl rfl (by decide) rfl ?_
              refine cw_goto (tgt := 48) dX11_walkTo_139 (by decide) ?_
              refine cw_sub [2, 3, 4, 5, 0] rfl ?_
              exact h
            · have h := h.2 q
              refine cw_aload_n dX11_walkTo_129 1 rfl rfl ?_
              refine cw_getf (C := RX11) (T := TX11) (N := 20) (ci := 9) inX11_walkTo_RX11 0 (show 0 < 11 by decide) rfl rfl 10 (by decide) (by decide +kernel) rfl dX11_walkTo_130 ?_
              refine cw_iload_n dX11_walkTo_133 4 rfl rfl ?_
              refine cw_iload_n dX11_walkTo_134 3 rfl rfl ?_
              obtain ⟨g_135, h⟩ := h
              refine cw_iast 5 (show 5 < 11 by decide) (fun _ => rfl) 0 rfl dX11_walkTo_135 g_135 ?_
              refine cw_iinc (v := x4 + 1) dX11_walkTo_136 (j := 5) rfl rfl (by decide) rfl ?_
              refine cw_goto (tgt := 48) dX11_walkTo_139 (by decide) ?_
              refine cw_sub [2, 3, 4, 5, 0] rfl ?_
              exact h
      · have h := h.2 q
        refine cw_iload dX11_walkTo_74 4 rfl ?_
        refine cw_iload_n dX11_walkTo_76 1 rfl rfl ?_
        refine cw_icmp_ne (tgt := 84) dX11_walkTo_77 (by decide) (fun q => ?_) (fun q => ?_)
        · have h := h.1 q
          refine cw_iconst (v := 0) dX11_walkTo_84 (by decide) ?_
          refine cw_goto (tgt := 112) dX11_walkTo_85 (by decide) ?_
          refine cw_istore dX11_walkTo_112 (by decide) rfl ?_
          refine cw_iload dX11_walkTo_114 0 rfl ?_
          refine cw_if_eq (tgt := 136) dX11_walkTo_116 (by decide) (fun _ => ?_) (fun q => absurd q (by decide))
          refine cw_iinc (v := x4 + 1) dX11_walkTo_136 (j := 5) rfl rfl (by decide) rfl ?_
          refine cw_goto (tgt := 48) dX11_walkTo_139 (by decide) ?_
          refine cw_sub [2, 3, 4, 5, 0] rfl ?_
          exact h
        · have h := h.2 q
          refine cw_iconst (v := 1) dX11_walkTo_80 (by decide) ?_
          refine cw_goto (tgt := 112) dX11_walkTo_81 (by decide) ?_
          refine cw_istore dX11_walkTo_112 (by decide) rfl ?_
          refine cw_iload dX11_walkTo_114 0 rfl ?_
          refine cw_if_eq (tgt := 136) dX11_walkTo_116 (by decide) (fun q => absurd q (by decide)) (fun _ => ?_)
          refine cw_aload_n dX11_walkTo_119 1 rfl rfl ?_
          refine cw_iload_n dX11_walkTo_120 4 rfl rfl ?_
          refine cw_iload dX11_walkTo_121 5 rfl ?_
          obtain ⟨v_123, J_123, hc_123, h⟩ := h
          refine cw_callV (o := 0) (As := [.int x3, .int x4]) hc_123 okX11_hasEnvy rfl gX11_walkTo_X11_hasEnvy (by decide) (show 0 < 11 by decide) rfl (ci := 9) rfl rfl (Nat.le_of_ble_eq_true rfl) dX11_walkTo_123 ?_
          refine cw_if_eq (tgt := 136) dX11_walkTo_126 (by decide) (fun q => ?_) (fun q => ?_)
          · have h := h.1 q
            refine cw_iinc (v := x4 + 1) dX11_walkTo_136 (j := 5) rfl rfl (by decide) rfl ?_
            refine cw_goto (tgt := 48) dX11_walkTo_139 (by decide) ?_
            refine cw_sub [2, 3, 4, 5, 0] rfl ?_
            exact h
          · have h := h.2 q
            refine cw_aload_n dX11_walkTo_129 1 rfl rfl ?_
            refine cw_getf (C := RX11) (T := TX11) (N := 20) (ci := 9) inX11_walkTo_RX11 0 (show 0 < 11 by decide) rfl rfl 10 (by decide) (by decide +kernel) rfl dX11_walkTo_130 ?_
            refine cw_iload_n dX11_walkTo_133 4 rfl rfl ?_
            refine cw_iload_n dX11_walkTo_134 3 rfl rfl ?_
            obtain ⟨g_135, h⟩ := h
            refine cw_iast 5 (show 5 < 11 by decide) (fun _ => rfl) 0 rfl dX11_walkTo_135 g_135 ?_
            refine cw_iinc (v := x4 + 1) dX11_walkTo_136 (j := 5) rfl rfl (by decide) rfl ?_
            refine cw_goto (tgt := 48) dX11_walkTo_139 (by decide) ?_
            refine cw_sub [2, 3, 4, 5, 0] rfl ?_
            exact h
set_option maxRecDepth 20000 in
set_option maxHeartbeats 4000000 in
theorem eX11_welfareByKnife_0 {K : cw_K} {r : Option Value} {J0 I : cw_M} {x1 : Int32} (h : (∃ (v_3 : Int32) (J_3 : cw_M), cw_C (cr_w K) mX11_isSibling [.ref (cw_a (cr_w K) 0), .int x1] I (some (.int v_3)) J_3 ∧ ((¬ v_3 = 0 → (∃ (v_16 : Int32) (J_16 : cw_M), cw_C (cr_w K) mX11_fails [.ref (cw_a (cr_w K) 0), .int 0, .int 0, .int 0] J_3 (some (.int v_16)) J_16 ∧ ((v_16 = 0 → (∃ J_28 : cw_M, cw_C (cr_w K) mX11_copyBlock [.ref (cw_a (cr_w K) 0), .int 0, .int 9] J_16 none J_28 ∧ (∃ (v_32 : Int32) (J_32 : cw_M), cw_C (cr_w K) mX11_knife [.ref (cw_a (cr_w K) 0)] J_28 (some (.int v_32)) J_32 ∧ (∃ (v_38 : Int32) (J_38 : cw_M), cw_C (cr_w K) mX11_welfareOf [.ref (cw_a (cr_w K) 0), .int x1] J_32 (some (.int v_38)) J_38 ∧ (∃ J_46 : cw_M, cw_C (cr_w K) mX11_copyBlock [.ref (cw_a (cr_w K) 0), .int 9, .int 0] J_38 none J_46 ∧ (r = some (.int v_38) ∧ J0 = J_46)))))) ∧ (¬ v_16 = 0 → (r = some (.int 0) ∧ J0 = J_16))))) ∧ (v_3 = 0 → (∃ (v_16 : Int32) (J_16 : cw_M), cw_C (cr_w K) mX11_fails [.ref (cw_a (cr_w K) 0), .int 1, .int 0, .int 0] J_3 (some (.int v_16)) J_16 ∧ ((v_16 = 0 → (∃ J_28 : cw_M, cw_C (cr_w K) mX11_copyBlock [.ref (cw_a (cr_w K) 0), .int 0, .int 9] J_16 none J_28 ∧ (∃ (v_32 : Int32) (J_32 : cw_M), cw_C (cr_w K) mX11_knife [.ref (cw_a (cr_w K) 0)] J_28 (some (.int v_32)) J_32 ∧ (∃ (v_38 : Int32) (J_38 : cw_M), cw_C (cr_w K) mX11_welfareOf [.ref (cw_a (cr_w K) 0), .int x1] J_32 (some (.int v_38)) J_38 ∧ (∃ J_46 : cw_M, cw_C (cr_w K) mX11_copyBlock [.ref (cw_a (cr_w K) 0), .int 9, .int 0] J_38 none J_46 ∧ (r = some (.int v_38) ∧ J0 = J_46)))))) ∧ (¬ v_16 = 0 → (r = some (.int 0) ∧ J0 = J_16)))))))) : cw_C (cr_w K) mX11_welfareByKnife [.ref (cw_a (cr_w K) 0), .int x1] I r J0 := by
  refine cw_entry okX11_welfareByKnife (Nat.le_of_ble_eq_true rfl) (show cw_B (cr_w K) mX11_welfareByKnife (cw_Z (cr_w K) r J0) 0 0 I 0 [(0, .ref (cw_a (cr_w K) 0)), (1, .int x1)] [] from ?_)
  refine cw_aload_n dX11_welfareByKnife_0 0 rfl rfl ?_
  refine cw_aload_n dX11_welfareByKnife_1 0 rfl rfl ?_
  refine cw_iload_n dX11_welfareByKnife_2 1 rfl rfl ?_
  obtain ⟨v_3, J_3, hc_3, h⟩ := h
  refine cw_callV (o := 0) (As := [.int x1]) hc_3 okX11_isSibling rfl gX11_welfareByKnife_X11_isSibling (by decide) (show 0 < 11 by decide) rfl (ci := 9) rfl rfl (Nat.le_of_ble_eq_true rfl) dX11_welfareByKnife_3 ?_
  refine cw_if_ne (tgt := 13) dX11_welfareByKnife_6 (by decide) (fun q => ?_) (fun q => ?_)
  · have h := h.1 q
    refine cw_iconst (v := 0) dX11_welfareByKnife_13 (by decide) ?_
    refine cw_iconst (v := 0) dX11_welfareByKnife_14 (by decide) ?_
    refine cw_iconst (v := 0) dX11_welfareByKnife_15 (by decide) ?_
    obtain ⟨v_16, J_16, hc_16, h⟩ := h
    refine cw_callV (o := 0) (As := [.int 0, .int 0, .int 0]) hc_16 okX11_fails rfl gX11_welfareByKnife_X11_fails (by decide) (show 0 < 11 by decide) rfl (ci := 9) rfl rfl (Nat.le_of_ble_eq_true rfl) dX11_welfareByKnife_16 ?_
    refine cw_if_eq (tgt := 24) dX11_welfareByKnife_19 (by decide) (fun q => ?_) (fun q => ?_)
    · have h := h.1 q
      refine cw_aload_n dX11_welfareByKnife_24 0 rfl rfl ?_
      refine cw_iconst (v := 0) dX11_welfareByKnife_25 (by decide) ?_
      refine cw_bipush (v := 9) dX11_welfareByKnife_26 (by decide) ?_
      obtain ⟨J_28, hc_28, h⟩ := h
      refine cw_callV (o := 0) (As := [.int 0, .int 9]) hc_28 okX11_copyBlock rfl gX11_welfareByKnife_X11_copyBlock (by decide) (show 0 < 11 by decide) rfl (ci := 9) rfl rfl (Nat.le_of_ble_eq_true rfl) dX11_welfareByKnife_28 ?_
      refine cw_aload_n dX11_welfareByKnife_31 0 rfl rfl ?_
      obtain ⟨v_32, J_32, hc_32, h⟩ := h
      refine cw_callV (o := 0) (As := []) hc_32 okX11_knife rfl gX11_welfareByKnife_X11_knife (by decide) (show 0 < 11 by decide) rfl (ci := 9) rfl rfl (Nat.le_of_ble_eq_true rfl) dX11_welfareByKnife_32 ?_
      refine cw_pop dX11_welfareByKnife_35 rfl ?_
      refine cw_aload_n dX11_welfareByKnife_36 0 rfl rfl ?_
      refine cw_iload_n dX11_welfareByKnife_37 1 rfl rfl ?_
      obtain ⟨v_38, J_38, hc_38, h⟩ := h
      refine cw_callV (o := 0) (As := [.int x1]) hc_38 okX11_welfareOf rfl gX11_welfareByKnife_X11_welfareOf (by decide) (show 0 < 11 by decide) rfl (ci := 9) rfl rfl (Nat.le_of_ble_eq_true rfl) dX11_welfareByKnife_38 ?_
      refine cw_istore_n dX11_welfareByKnife_41 rfl (by decide) rfl ?_
      refine cw_aload_n dX11_welfareByKnife_42 1 rfl rfl ?_
      refine cw_bipush (v := 9) dX11_welfareByKnife_43 (by decide) ?_
      refine cw_iconst (v := 0) dX11_welfareByKnife_45 (by decide) ?_
      obtain ⟨J_46, hc_46, h⟩ := h
      refine cw_callV (o := 0) (As := [.int 9, .int 0]) hc_46 okX11_copyBlock rfl gX11_welfareByKnife_X11_copyBlock (by decide) (show 0 < 11 by decide) rfl (ci := 9) rfl rfl (Nat.le_of_ble_eq_true rfl) dX11_welfareByKnife_46 ?_
      refine cw_iload_n dX11_welfareByKnife_49 0 rfl rfl ?_
      exact cw_iret rfl dX11_welfareByKnife_50 h
    · have h := h.2 q
      refine cw_iconst (v := 0) dX11_welfareByKnife_22 (by decide) ?_
      exact cw_iret rfl dX11_welfareByKnife_23 h
  · have h := h.2 q
    refine cw_iconst (v := 1) dX11_welfareByKnife_9 (by decide) ?_
    refine cw_goto (tgt := 14) dX11_welfareByKnife_10 (by decide) ?_
    refine cw_iconst (v := 0) dX11_welfareByKnife_14 (by decide) ?_
    refine cw_iconst (v := 0) dX11_welfareByKnife_15 (by decide) ?_
    obtain ⟨v_16, J_16, hc_16, h⟩ := h
    refine cw_callV (o := 0) (As := [.int 1, .int 0, .int 0]) hc_16 okX11_fails rfl gX11_welfareByKnife_X11_fails (by decide) (show 0 < 11 by decide) rfl (ci := 9) rfl rfl (Nat.le_of_ble_eq_true rfl) dX11_welfareByKnife_16 ?_
    refine cw_if_eq (tgt := 24) dX11_welfareByKnife_19 (by decide) (fun q => ?_) (fun q => ?_)
    · have h := h.1 q
      refine cw_aload_n dX11_welfareByKnife_24 0 rfl rfl ?_
      refine cw_iconst (v := 0) dX11_welfareByKnife_25 (by decide) ?_
      refine cw_bipush (v := 9) dX11_welfareByKnife_26 (by decide) ?_
      obtain ⟨J_28, hc_28, h⟩ := h
      refine cw_callV (o := 0) (As := [.int 0, .int 9]) hc_28 okX11_copyBlock rfl gX11_welfareByKnife_X11_copyBlock (by decide) (show 0 < 11 by decide) rfl (ci := 9) rfl rfl (Nat.le_of_ble_eq_true rfl) dX11_welfareByKnife_28 ?_
      refine cw_aload_n dX11_welfareByKnife_31 0 rfl rfl ?_
      obtain ⟨v_32, J_32, hc_32, h⟩ := h
      refine cw_callV (o := 0) (As := []) hc_32 okX11_knife rfl gX11_welfareByKnife_X11_knife (by decide) (show 0 < 11 by decide) rfl (ci := 9) rfl rfl (Nat.le_of_ble_eq_true rfl) dX11_welfareByKnife_32 ?_
      refine cw_pop dX11_welfareByKnife_35 rfl ?_
      refine cw_aload_n dX11_welfareByKnife_36 0 rfl rfl ?_
      refine cw_iload_n dX11_welfareByKnife_37 1 rfl rfl ?_
      obtain ⟨v_38, J_38, hc_38, h⟩ := h
      refine cw_callV (o := 0) (As := [.int x1]) hc_38 okX11_welfareOf rfl gX11_welfareByKnife_X11_welfareOf (by decide) (show 0 < 11 by decide) rfl (ci := 9) rfl rfl (Nat.le_of_ble_eq_true rfl) dX11_welfareByKnife_38 ?_
      refine cw_istore_n dX11_welfareByKnife_41 rfl (by decide) rfl ?_
      refine cw_aload_n dX11_welfareByKnife_42 1 rfl rfl ?_
      refine cw_bipush (v := 9) dX11_welfareByKnife_43 (by decide) ?_
      refine cw_iconst (v := 0) dX11_welfareByKnife_45 (by decide) ?_
      obtain ⟨J_46, hc_46, h⟩ := h
      refine cw_callV (o := 0) (As := [.int 9, .int 0]) hc_46 okX11_copyBlock rfl gX11_welfareByKnife_X11_copyBlock (by decide) (show 0 < 11 by decide) rfl (ci := 9) rfl rfl (Nat.le_of_ble_eq_true rfl) dX11_welfareByKnife_46 ?_
      refine cw_iload_n dX11_welfareByKnife_49 0 rfl rfl ?_
      exact cw_iret rfl dX11_welfareByKnife_50 h
    · have h := h.2 q
      refine cw_iconst (v := 0) dX11_welfareByKnife_22 (by decide) ?_
      exact cw_iret rfl dX11_welfareByKnife_23 h
set_option maxRecDepth 20000 in
set_option maxHeartbeats 4000000 in
theorem eX11_welfareByRobin_0 {K : cw_K} {r : Option Value} {J0 I : cw_M} {x1 : Int32} {x2 : Int32} (h : (∃ (v_4 : Int32) (J_4 : cw_M), cw_C (cr_w K) mX11_areSiblings [.ref (cw_a (cr_w K) 0), .int x1, .int x2] I (some (.int v_4)) J_4 ∧ ((¬ v_4 = 0 → (∃ (v_17 : Int32) (J_17 : cw_M), cw_C (cr_w K) mX11_fails [.ref (cw_a (cr_w K) 0), .int 0, .int 0, .int 0] J_4 (some (.int v_17)) J_17 ∧ ((v_17 = 0 → (∃ J_29 : cw_M, cw_C (cr_w K) mX11_copyBlock [.ref (cw_a (cr_w K) 0), .int 0, .int 9] J_17 none J_29 ∧ (∃ J_33 : cw_M, cw_C (cr_w K) mX11_clear [.ref (cw_a (cr_w K) 0)] J_29 none J_33 ∧ (∃ (v_38 : Int32) (J_38 : cw_M), cw_C (cr_w K) mX11_robin [.ref (cw_a (cr_w K) 0), .int x2] J_33 (some (.int v_38)) J_38 ∧ (∃ (v_44 : Int32) (J_44 : cw_M), cw_C (cr_w K) mX11_welfareOf [.ref (cw_a (cr_w K) 0), .int x1] J_38 (some (.int v_44)) J_44 ∧ (∃ J_52 : cw_M, cw_C (cr_w K) mX11_copyBlock [.ref (cw_a (cr_w K) 0), .int 9, .int 0] J_44 none J_52 ∧ (r = some (.int v_44) ∧ J0 = J_52))))))) ∧ (¬ v_17 = 0 → (r = some (.int 0) ∧ J0 = J_17))))) ∧ (v_4 = 0 → (∃ (v_17 : Int32) (J_17 : cw_M), cw_C (cr_w K) mX11_fails [.ref (cw_a (cr_w K) 0), .int 1, .int 0, .int 0] J_4 (some (.int v_17)) J_17 ∧ ((v_17 = 0 → (∃ J_29 : cw_M, cw_C (cr_w K) mX11_copyBlock [.ref (cw_a (cr_w K) 0), .int 0, .int 9] J_17 none J_29 ∧ (∃ J_33 : cw_M, cw_C (cr_w K) mX11_clear [.ref (cw_a (cr_w K) 0)] J_29 none J_33 ∧ (∃ (v_38 : Int32) (J_38 : cw_M), cw_C (cr_w K) mX11_robin [.ref (cw_a (cr_w K) 0), .int x2] J_33 (some (.int v_38)) J_38 ∧ (∃ (v_44 : Int32) (J_44 : cw_M), cw_C (cr_w K) mX11_welfareOf [.ref (cw_a (cr_w K) 0), .int x1] J_38 (some (.int v_44)) J_44 ∧ (∃ J_52 : cw_M, cw_C (cr_w K) mX11_copyBlock [.ref (cw_a (cr_w K) 0), .int 9, .int 0] J_44 none J_52 ∧ (r = some (.int v_44) ∧ J0 = J_52))))))) ∧ (¬ v_17 = 0 → (r = some (.int 0) ∧ J0 = J_17)))))))) : cw_C (cr_w K) mX11_welfareByRobin [.ref (cw_a (cr_w K) 0), .int x1, .int x2] I r J0 := by
  refine cw_entry okX11_welfareByRobin (Nat.le_of_ble_eq_true rfl) (show cw_B (cr_w K) mX11_welfareByRobin (cw_Z (cr_w K) r J0) 0 0 I 0 [(0, .ref (cw_a (cr_w K) 0)), (1, .int x1), (2, .int x2)] [] from ?_)
  refine cw_aload_n dX11_welfareByRobin_0 0 rfl rfl ?_
  refine cw_aload_n dX11_welfareByRobin_1 0 rfl rfl ?_
  refine cw_iload_n dX11_welfareByRobin_2 1 rfl rfl ?_
  refine cw_iload_n dX11_welfareByRobin_3 2 rfl rfl ?_
  obtain ⟨v_4, J_4, hc_4, h⟩ := h
  refine cw_callV (o := 0) (As := [.int x1, .int x2]) hc_4 okX11_areSiblings rfl gX11_welfareByRobin_X11_areSiblings (by decide) (show 0 < 11 by decide) rfl (ci := 9) rfl rfl (Nat.le_of_ble_eq_true rfl) dX11_welfareByRobin_4 ?_
  refine cw_if_ne (tgt := 14) dX11_welfareByRobin_7 (by decide) (fun q => ?_) (fun q => ?_)
  · have h := h.1 q
    refine cw_iconst (v := 0) dX11_welfareByRobin_14 (by decide) ?_
    refine cw_iconst (v := 0) dX11_welfareByRobin_15 (by decide) ?_
    refine cw_iconst (v := 0) dX11_welfareByRobin_16 (by decide) ?_
    obtain ⟨v_17, J_17, hc_17, h⟩ := h
    refine cw_callV (o := 0) (As := [.int 0, .int 0, .int 0]) hc_17 okX11_fails rfl gX11_welfareByRobin_X11_fails (by decide) (show 0 < 11 by decide) rfl (ci := 9) rfl rfl (Nat.le_of_ble_eq_true rfl) dX11_welfareByRobin_17 ?_
    refine cw_if_eq (tgt := 25) dX11_welfareByRobin_20 (by decide) (fun q => ?_) (fun q => ?_)
    · have h := h.1 q
      refine cw_aload_n dX11_welfareByRobin_25 0 rfl rfl ?_
      refine cw_iconst (v := 0) dX11_welfareByRobin_26 (by decide) ?_
      refine cw_bipush (v := 9) dX11_welfareByRobin_27 (by decide) ?_
      obtain ⟨J_29, hc_29, h⟩ := h
      refine cw_callV (o := 0) (As := [.int 0, .int 9]) hc_29 okX11_copyBlock rfl gX11_welfareByRobin_X11_copyBlock (by decide) (show 0 < 11 by decide) rfl (ci := 9) rfl rfl (Nat.le_of_ble_eq_true rfl) dX11_welfareByRobin_29 ?_
      refine cw_aload_n dX11_welfareByRobin_32 0 rfl rfl ?_
      obtain ⟨J_33, hc_33, h⟩ := h
      refine cw_callV (o := 0) (As := []) hc_33 okX11_clear rfl gX11_welfareByRobin_X11_clear (by decide) (show 0 < 11 by decide) rfl (ci := 9) rfl rfl (Nat.le_of_ble_eq_true rfl) dX11_welfareByRobin_33 ?_
      refine cw_aload_n dX11_welfareByRobin_36 0 rfl rfl ?_
      refine cw_iload_n dX11_welfareByRobin_37 2 rfl rfl ?_
      obtain ⟨v_38, J_38, hc_38, h⟩ := h
      refine cw_callV (o := 0) (As := [.int x2]) hc_38 okX11_robin rfl gX11_welfareByRobin_X11_robin (by decide) (show 0 < 11 by decide) rfl (ci := 9) rfl rfl (Nat.le_of_ble_eq_true rfl) dX11_welfareByRobin_38 ?_
      refine cw_pop dX11_welfareByRobin_41 rfl ?_
      refine cw_aload_n dX11_welfareByRobin_42 0 rfl rfl ?_
      refine cw_iload_n dX11_welfareByRobin_43 1 rfl rfl ?_
      obtain ⟨v_44, J_44, hc_44, h⟩ := h
      refine cw_callV (o := 0) (As := [.int x1]) hc_44 okX11_welfareOf rfl gX11_welfareByRobin_X11_welfareOf (by decide) (show 0 < 11 by decide) rfl (ci := 9) rfl rfl (Nat.le_of_ble_eq_true rfl) dX11_welfareByRobin_44 ?_
      refine cw_istore_n dX11_welfareByRobin_47 rfl (by decide) rfl ?_
      refine cw_aload_n dX11_welfareByRobin_48 1 rfl rfl ?_
      refine cw_bipush (v := 9) dX11_welfareByRobin_49 (by decide) ?_
      refine cw_iconst (v := 0) dX11_welfareByRobin_51 (by decide) ?_
      obtain ⟨J_52, hc_52, h⟩ := h
      refine cw_callV (o := 0) (As := [.int 9, .int 0]) hc_52 okX11_copyBlock rfl gX11_welfareByRobin_X11_copyBlock (by decide) (show 0 < 11 by decide) rfl (ci := 9) rfl rfl (Nat.le_of_ble_eq_true rfl) dX11_welfareByRobin_52 ?_
      refine cw_iload_n dX11_welfareByRobin_55 0 rfl rfl ?_
      exact cw_iret rfl dX11_welfareByRobin_56 h
    · have h := h.2 q
      refine cw_iconst (v := 0) dX11_welfareByRobin_23 (by decide) ?_
      exact cw_iret rfl dX11_welfareByRobin_24 h
  · have h := h.2 q
    refine cw_iconst (v := 1) dX11_welfareByRobin_10 (by decide) ?_
    refine cw_goto (tgt := 15) dX11_welfareByRobin_11 (by decide) ?_
    refine cw_iconst (v := 0) dX11_welfareByRobin_15 (by decide) ?_
    refine cw_iconst (v := 0) dX11_welfareByRobin_16 (by decide) ?_
    obtain ⟨v_17, J_17, hc_17, h⟩ := h
    refine cw_callV (o := 0) (As := [.int 1, .int 0, .int 0]) hc_17 okX11_fails rfl gX11_welfareByRobin_X11_fails (by decide) (show 0 < 11 by decide) rfl (ci := 9) rfl rfl (Nat.le_of_ble_eq_true rfl) dX11_welfareByRobin_17 ?_
    refine cw_if_eq (tgt := 25) dX11_welfareByRobin_20 (by decide) (fun q => ?_) (fun q => ?_)
    · have h := h.1 q
      refine cw_aload_n dX11_welfareByRobin_25 0 rfl rfl ?_
      refine cw_iconst (v := 0) dX11_welfareByRobin_26 (by decide) ?_
      refine cw_bipush (v := 9) dX11_welfareByRobin_27 (by decide) ?_
      obtain ⟨J_29, hc_29, h⟩ := h
      refine cw_callV (o := 0) (As := [.int 0, .int 9]) hc_29 okX11_copyBlock rfl gX11_welfareByRobin_X11_copyBlock (by decide) (show 0 < 11 by decide) rfl (ci := 9) rfl rfl (Nat.le_of_ble_eq_true rfl) dX11_welfareByRobin_29 ?_
      refine cw_aload_n dX11_welfareByRobin_32 0 rfl rfl ?_
      obtain ⟨J_33, hc_33, h⟩ := h
      refine cw_callV (o := 0) (As := []) hc_33 okX11_clear rfl gX11_welfareByRobin_X11_clear (by decide) (show 0 < 11 by decide) rfl (ci := 9) rfl rfl (Nat.le_of_ble_eq_true rfl) dX11_welfareByRobin_33 ?_
      refine cw_aload_n dX11_welfareByRobin_36 0 rfl rfl ?_
      refine cw_iload_n dX11_welfareByRobin_37 2 rfl rfl ?_
      obtain ⟨v_38, J_38, hc_38, h⟩ := h
      refine cw_callV (o := 0) (As := [.int x2]) hc_38 okX11_robin rfl gX11_welfareByRobin_X11_robin (by decide) (show 0 < 11 by decide) rfl (ci := 9) rfl rfl (Nat.le_of_ble_eq_true rfl) dX11_welfareByRobin_38 ?_
      refine cw_pop dX11_welfareByRobin_41 rfl ?_
      refine cw_aload_n dX11_welfareByRobin_42 0 rfl rfl ?_
      refine cw_iload_n dX11_welfareByRobin_43 1 rfl rfl ?_
      obtain ⟨v_44, J_44, hc_44, h⟩ := h
      refine cw_callV (o := 0) (As := [.int x1]) hc_44 okX11_welfareOf rfl gX11_welfareByRobin_X11_welfareOf (by decide) (show 0 < 11 by decide) rfl (ci := 9) rfl rfl (Nat.le_of_ble_eq_true rfl) dX11_welfareByRobin_44 ?_
      refine cw_istore_n dX11_welfareByRobin_47 rfl (by decide) rfl ?_
      refine cw_aload_n dX11_welfareByRobin_48 1 rfl rfl ?_
      refine cw_bipush (v := 9) dX11_welfareByRobin_49 (by decide) ?_
      refine cw_iconst (v := 0) dX11_welfareByRobin_51 (by decide) ?_
      obtain ⟨J_52, hc_52, h⟩ := h
      refine cw_callV (o := 0) (As := [.int 9, .int 0]) hc_52 okX11_copyBlock rfl gX11_welfareByRobin_X11_copyBlock (by decide) (show 0 < 11 by decide) rfl (ci := 9) rfl rfl (Nat.le_of_ble_eq_true rfl) dX11_welfareByRobin_52 ?_
      refine cw_iload_n dX11_welfareByRobin_55 0 rfl rfl ?_
      exact cw_iret rfl dX11_welfareByRobin_56 h
    · have h := h.2 q
      refine cw_iconst (v := 0) dX11_welfareByRobin_23 (by decide) ?_
      exact cw_iret rfl dX11_welfareByRobin_24 h
set_option maxRecDepth 20000 in
set_option maxHeartbeats 4000000 in
theorem eX11_welfareOf_0 {K : cw_K} {r : Option Value} {J0 I : cw_M} {x1 : Int32} (h : (∃ (v_3 : Int32) (J_3 : cw_M), cw_C (cr_w K) mX11_worthShare [.ref (cw_a (cr_w K) 0), .int x1, .int x1] I (some (.int v_3)) J_3 ∧ (r = some (.int v_3) ∧ J0 = J_3))) : cw_C (cr_w K) mX11_welfareOf [.ref (cw_a (cr_w K) 0), .int x1] I r J0 := by
  refine cw_entry okX11_welfareOf (Nat.le_of_ble_eq_true rfl) (show cw_B (cr_w K) mX11_welfareOf (cw_Z (cr_w K) r J0) 0 0 I 0 [(0, .ref (cw_a (cr_w K) 0)), (1, .int x1)] [] from ?_)
  refine cw_aload_n dX11_welfareOf_0 0 rfl rfl ?_
  refine cw_iload_n dX11_welfareOf_1 1 rfl rfl ?_
  refine cw_iload_n dX11_welfareOf_2 1 rfl rfl ?_
  obtain ⟨v_3, J_3, hc_3, h⟩ := h
  refine cw_callV (o := 0) (As := [.int x1, .int x1]) hc_3 okX11_worthShare rfl gX11_welfareOf_X11_worthShare (by decide) (show 0 < 11 by decide) rfl (ci := 9) rfl rfl (Nat.le_of_ble_eq_true rfl) dX11_welfareOf_3 ?_
  exact cw_iret rfl dX11_welfareOf_6 h
abbrev bX11_welfareProduct_0_9 (K : cw_K) (r : Option Value) (J0 : cw_M) (x1 : Int64) (x3 : Int32) (I : cw_M) : Prop := cw_B (cr_w K) mX11_welfareProduct (cw_Z (cr_w K) r J0) 0 0 I 9 [(0, .ref (cw_a (cr_w K) 0)), (1, .long x1), (3, .int x3)] []
set_option maxRecDepth 20000 in
set_option maxHeartbeats 4000000 in
theorem eX11_welfareProduct_0 {K : cw_K} {r : Option Value} {J0 I : cw_M} (h : bX11_welfareProduct_0_9 K r J0 1 0 (cw_st I 0 9 0)) : cw_C (cr_w K) mX11_welfareProduct [.ref (cw_a (cr_w K) 0)] I r J0 := by
  refine cw_entry okX11_welfareProduct (Nat.le_of_ble_eq_true rfl) (show cw_B (cr_w K) mX11_welfareProduct (cw_Z (cr_w K) r J0) 0 0 I 0 [(0, .ref (cw_a (cr_w K) 0))] [] from ?_)
  refine cw_aload_n dX11_welfareProduct_0 0 rfl rfl ?_
  refine cw_iconst (v := 0) dX11_welfareProduct_1 (by decide) ?_
  refine cw_putf (C := RX11) (T := TX11) (N := 20) (ci := 9) inX11_welfareProduct_RX11 tyX11 tyX11_ok nmX11 0 (show 0 < 11 by decide) rfl rfl 9 (by decide) (by decide +kernel) rfl rfl (show 9 < 20 by decide) rfl dX11_welfareProduct_2 ?_
  refine cw_lconst (v := 1) dX11_welfareProduct_5 (by decide) ?_
  refine cw_lstore_n dX11_welfareProduct_6 rfl (by decide) rfl ?_
  refine cw_iconst (v := 0) dX11_welfareProduct_7 (by decide) ?_
  refine cw_istore_n dX11_welfareProduct_8 rfl (by decide) rfl ?_
  refine cw_sub [2, 1, 0] rfl ?_
  exact h
set_option maxRecDepth 20000 in
set_option maxHeartbeats 4000000 in
theorem tbX11_welfareProduct_0_9 {K : cw_K} {r : Option Value} {J0 I : cw_M} {x1 : Int64} {x3 : Int32} (h : (((I 1 1) ≤ x3 → (r = some (.long x1) ∧ J0 = I)) ∧ (¬ (I 1 1) ≤ x3 → (∃ (v_22 : Int32) (J_22 : cw_M), cw_C (cr_w K) mX11_welfareOf [.ref (cw_a (cr_w K) 0), .int x3] I (some (.int v_22)) J_22 ∧ bX11_welfareProduct_0_9 K r J0 (x1 * v_22.toInt64) (x3 + 1) J_22)))) : bX11_welfareProduct_0_9 K r J0 x1 x3 I := by
  refine cw_iload_n dX11_welfareProduct_9 2 rfl rfl ?_
  refine cw_aload_n dX11_welfareProduct_10 0 rfl rfl ?_
  refine cw_getf (C := RX11) (T := TX11) (N := 20) (ci := 9) inX11_welfareProduct_RX11 0 (show 0 < 11 by decide) rfl rfl 0 (by decide) (by decide +kernel) rfl dX11_welfareProduct_11 ?_
  refine cw_iconst (v := 1) dX11_welfareProduct_14 (by decide) ?_
  refine cw_ialdL (j := 1) 1 (show 1 < 11 by decide) rfl 0 rfl dX11_welfareProduct_15 rfl (by decide) (by decide) ?_
  refine cw_icmp_ge (tgt := 34) dX11_welfareProduct_16 (by decide) (fun q => ?_) (fun q => ?_)
  · have h := h.1 q
    refine cw_lload_n dX11_welfareProduct_34 1 rfl rfl ?_
    exact cw_lret rfl dX11_welfareProduct_35 h
  · have h := h.2 q
    refine cw_lload_n dX11_welfareProduct_19 1 rfl rfl ?_
    refine cw_aload_n dX11_welfareProduct_20 0 rfl rfl ?_
    refine cw_iload_n dX11_welfareProduct_21 2 rfl rfl ?_
    obtain ⟨v_22, J_22, hc_22, h⟩ := h
    refine cw_callV (o := 0) (As := [.int x3]) hc_22 okX11_welfareOf rfl gX11_welfareProduct_X11_welfareOf (by decide) (show 0 < 11 by decide) rfl (ci := 9) rfl rfl (Nat.le_of_ble_eq_true rfl) dX11_welfareProduct_22 ?_
    refine cw_i2l dX11_welfareProduct_25 rfl ?_
    refine cw_lmul dX11_welfareProduct_26 ?_
    refine cw_lstore_n dX11_welfareProduct_27 rfl (by decide) rfl ?_
    refine cw_iinc (v := x3 + 1) dX11_welfareProduct_28 (j := 2) rfl rfl (by decide) rfl ?_
    refine cw_goto (tgt := 9) dX11_welfareProduct_31 (by decide) ?_
    refine cw_sub [2, 1, 0] rfl ?_
    exact h
set_option maxRecDepth 20000 in
set_option maxHeartbeats 4000000 in
theorem eX11_worth_0 {K : cw_K} {r : Option Value} {J0 I : cw_M} {x1 : Int32} {x2 : Int32} {x3 : Int32} (h : (∃ (v_3 : Int32) (J_3 : cw_M), cw_C (cr_w K) mX11_isSibling [.ref (cw_a (cr_w K) 0), .int x1] I (some (.int v_3)) J_3 ∧ ((¬ v_3 = 0 → (∃ (v_17 : Int32) (J_17 : cw_M), cw_C (cr_w K) mX11_isRange [.ref (cw_a (cr_w K) 0), .int x2, .int x3] J_3 (some (.int v_17)) J_17 ∧ ((¬ v_17 = 0 → (∃ (v_29 : Int32) (J_29 : cw_M), cw_C (cr_w K) mX11_fails [.ref (cw_a (cr_w K) 0), .int 0, .int 0, .int 0] J_17 (some (.int v_29)) J_29 ∧ ((v_29 = 0 → (∃ (v_41 : Int32) (J_41 : cw_M), cw_C (cr_w K) mX11_worthOf [.ref (cw_a (cr_w K) 0), .int x1, .int x2, .int x3] J_29 (some (.int v_41)) J_41 ∧ (r = some (.int v_41) ∧ J0 = J_41))) ∧ (¬ v_29 = 0 → (r = some (.int 0) ∧ J0 = J_29))))) ∧ (v_17 = 0 → (∃ (v_29 : Int32) (J_29 : cw_M), cw_C (cr_w K) mX11_fails [.ref (cw_a (cr_w K) 0), .int 0, .int 1, .int 0] J_17 (some (.int v_29)) J_29 ∧ ((v_29 = 0 → (∃ (v_41 : Int32) (J_41 : cw_M), cw_C (cr_w K) mX11_worthOf [.ref (cw_a (cr_w K) 0), .int x1, .int x2, .int x3] J_29 (some (.int v_41)) J_41 ∧ (r = some (.int v_41) ∧ J0 = J_41))) ∧ (¬ v_29 = 0 → (r = some (.int 0) ∧ J0 = J_29)))))))) ∧ (v_3 = 0 → (∃ (v_17 : Int32) (J_17 : cw_M), cw_C (cr_w K) mX11_isRange [.ref (cw_a (cr_w K) 0), .int x2, .int x3] J_3 (some (.int v_17)) J_17 ∧ ((¬ v_17 = 0 → (∃ (v_29 : Int32) (J_29 : cw_M), cw_C (cr_w K) mX11_fails [.ref (cw_a (cr_w K) 0), .int 1, .int 0, .int 0] J_17 (some (.int v_29)) J_29 ∧ ((v_29 = 0 → (∃ (v_41 : Int32) (J_41 : cw_M), cw_C (cr_w K) mX11_worthOf [.ref (cw_a (cr_w K) 0), .int x1, .int x2, .int x3] J_29 (some (.int v_41)) J_41 ∧ (r = some (.int v_41) ∧ J0 = J_41))) ∧ (¬ v_29 = 0 → (r = some (.int 0) ∧ J0 = J_29))))) ∧ (v_17 = 0 → (∃ (v_29 : Int32) (J_29 : cw_M), cw_C (cr_w K) mX11_fails [.ref (cw_a (cr_w K) 0), .int 1, .int 1, .int 0] J_17 (some (.int v_29)) J_29 ∧ ((v_29 = 0 → (∃ (v_41 : Int32) (J_41 : cw_M), cw_C (cr_w K) mX11_worthOf [.ref (cw_a (cr_w K) 0), .int x1, .int x2, .int x3] J_29 (some (.int v_41)) J_41 ∧ (r = some (.int v_41) ∧ J0 = J_41))) ∧ (¬ v_29 = 0 → (r = some (.int 0) ∧ J0 = J_29))))))))))) : cw_C (cr_w K) mX11_worth [.ref (cw_a (cr_w K) 0), .int x1, .int x2, .int x3] I r J0 := by
  refine cw_entry okX11_worth (Nat.le_of_ble_eq_true rfl) (show cw_B (cr_w K) mX11_worth (cw_Z (cr_w K) r J0) 0 0 I 0 [(0, .ref (cw_a (cr_w K) 0)), (1, .int x1), (2, .int x2), (3, .int x3)] [] from ?_)
  refine cw_aload_n dX11_worth_0 0 rfl rfl ?_
  refine cw_aload_n dX11_worth_1 0 rfl rfl ?_
  refine cw_iload_n dX11_worth_2 1 rfl rfl ?_
  obtain ⟨v_3, J_3, hc_3, h⟩ := h
  refine cw_callV (o := 0) (As := [.int x1]) hc_3 okX11_isSibling rfl gX11_worth_X11_isSibling (by decide) (show 0 < 11 by decide) rfl (ci := 9) rfl rfl (Nat.le_of_ble_eq_true rfl) dX11_worth_3 ?_
  refine cw_if_ne (tgt := 13) dX11_worth_6 (by decide) (fun q => ?_) (fun q => ?_)
  · have h := h.1 q
    refine cw_iconst (v := 0) dX11_worth_13 (by decide) ?_
    refine cw_aload_n dX11_worth_14 0 rfl rfl ?_
    refine cw_iload_n dX11_worth_15 2 rfl rfl ?_
    refine cw_iload_n dX11_worth_16 3 rfl rfl ?_
    obtain ⟨v_17, J_17, hc_17, h⟩ := h
    refine cw_callV (o := 0) (As := [.int x2, .int x3]) hc_17 okX11_isRange rfl gX11_worth_X11_isRange (by decide) (show 0 < 11 by decide) rfl (ci := 9) rfl rfl (Nat.le_of_ble_eq_true rfl) dX11_worth_17 ?_
    refine cw_if_ne (tgt := 27) dX11_worth_20 (by decide) (fun q => ?_) (fun q => ?_)
    · have h := h.1 q
      refine cw_iconst (v := 0) dX11_worth_27 (by decide) ?_
      refine cw_iconst (v := 0) dX11_worth_28 (by decide) ?_
      obtain ⟨v_29, J_29, hc_29, h⟩ := h
      refine cw_callV (o := 0) (As := [.int 0, .int 0, .int 0]) hc_29 okX11_fails rfl gX11_worth_X11_fails (by decide) (show 0 < 11 by decide) rfl (ci := 9) rfl rfl (Nat.le_of_ble_eq_true rfl) dX11_worth_29 ?_
      refine cw_if_eq (tgt := 37) dX11_worth_32 (by decide) (fun q => ?_) (fun q => ?_)
      · have h := h.1 q
        refine cw_aload_n dX11_worth_37 0 rfl rfl ?_
        refine cw_iload_n dX11_worth_38 1 rfl rfl ?_
        refine cw_iload_n dX11_worth_39 2 rfl rfl ?_
        refine cw_iload_n dX11_worth_40 3 rfl rfl ?_
        obtain ⟨v_41, J_41, hc_41, h⟩ := h
        refine cw_callV (o := 0) (As := [.int x1, .int x2, .int x3]) hc_41 okX11_worthOf rfl gX11_worth_X11_worthOf (by decide) (show 0 < 11 by decide) rfl (ci := 9) rfl rfl (Nat.le_of_ble_eq_true rfl) dX11_worth_41 ?_
        exact cw_iret rfl dX11_worth_44 h
      · have h := h.2 q
        refine cw_iconst (v := 0) dX11_worth_35 (by decide) ?_
        exact cw_iret rfl dX11_worth_36 h
    · have h := h.2 q
      refine cw_iconst (v := 1) dX11_worth_23 (by decide) ?_
      refine cw_goto (tgt := 28) dX11_worth_24 (by decide) ?_
      refine cw_iconst (v := 0) dX11_worth_28 (by decide) ?_
      obtain ⟨v_29, J_29, hc_29, h⟩ := h
      refine cw_callV (o := 0) (As := [.int 0, .int 1, .int 0]) hc_29 okX11_fails rfl gX11_worth_X11_fails (by decide) (show 0 < 11 by decide) rfl (ci := 9) rfl rfl (Nat.le_of_ble_eq_true rfl) dX11_worth_29 ?_
      refine cw_if_eq (tgt := 37) dX11_worth_32 (by decide) (fun q => ?_) (fun q => ?_)
      · have h := h.1 q
        refine cw_aload_n dX11_worth_37 0 rfl rfl ?_
        refine cw_iload_n dX11_worth_38 1 rfl rfl ?_
        refine cw_iload_n dX11_worth_39 2 rfl rfl ?_
        refine cw_iload_n dX11_worth_40 3 rfl rfl ?_
        obtain ⟨v_41, J_41, hc_41, h⟩ := h
        refine cw_callV (o := 0) (As := [.int x1, .int x2, .int x3]) hc_41 okX11_worthOf rfl gX11_worth_X11_worthOf (by decide) (show 0 < 11 by decide) rfl (ci := 9) rfl rfl (Nat.le_of_ble_eq_true rfl) dX11_worth_41 ?_
        exact cw_iret rfl dX11_worth_44 h
      · have h := h.2 q
        refine cw_iconst (v := 0) dX11_worth_35 (by decide) ?_
        exact cw_iret rfl dX11_worth_36 h
  · have h := h.2 q
    refine cw_iconst (v := 1) dX11_worth_9 (by decide) ?_
    refine cw_goto (tgt := 14) dX11_worth_10 (by decide) ?_
    refine cw_aload_n dX11_worth_14 0 rfl rfl ?_
    refine cw_iload_n dX11_worth_15 2 rfl rfl ?_
    refine cw_iload_n dX11_worth_16 3 rfl rfl ?_
    obtain ⟨v_17, J_17, hc_17, h⟩ := h
    refine cw_callV (o := 0) (As := [.int x2, .int x3]) hc_17 okX11_isRange rfl gX11_worth_X11_isRange (by decide) (show 0 < 11 by decide) rfl (ci := 9) rfl rfl (Nat.le_of_ble_eq_true rfl) dX11_worth_17 ?_
    refine cw_if_ne (tgt := 27) dX11_worth_20 (by decide) (fun q => ?_) (fun q => ?_)
    · have h := h.1 q
      refine cw_iconst (v := 0) dX11_worth_27 (by decide) ?_
      refine cw_iconst (v := 0) dX11_worth_28 (by decide) ?_
      obtain ⟨v_29, J_29, hc_29, h⟩ := h
      refine cw_callV (o := 0) (As := [.int 1, .int 0, .int 0]) hc_29 okX11_fails rfl gX11_worth_X11_fails (by decide) (show 0 < 11 by decide) rfl (ci := 9) rfl rfl (Nat.le_of_ble_eq_true rfl) dX11_worth_29 ?_
      refine cw_if_eq (tgt := 37) dX11_worth_32 (by decide) (fun q => ?_) (fun q => ?_)
      · have h := h.1 q
        refine cw_aload_n dX11_worth_37 0 rfl rfl ?_
        refine cw_iload_n dX11_worth_38 1 rfl rfl ?_
        refine cw_iload_n dX11_worth_39 2 rfl rfl ?_
        refine cw_iload_n dX11_worth_40 3 rfl rfl ?_
        obtain ⟨v_41, J_41, hc_41, h⟩ := h
        refine cw_callV (o := 0) (As := [.int x1, .int x2, .int x3]) hc_41 okX11_worthOf rfl gX11_worth_X11_worthOf (by decide) (show 0 < 11 by decide) rfl (ci := 9) rfl rfl (Nat.le_of_ble_eq_true rfl) dX11_worth_41 ?_
        exact cw_iret rfl dX11_worth_44 h
      · have h := h.2 q
        refine cw_iconst (v := 0) dX11_worth_35 (by decide) ?_
        exact cw_iret rfl dX11_worth_36 h
    · have h := h.2 q
      refine cw_iconst (v := 1) dX11_worth_23 (by decide) ?_
      refine cw_goto (tgt := 28) dX11_worth_24 (by decide) ?_
      refine cw_iconst (v := 0) dX11_worth_28 (by decide) ?_
      obtain ⟨v_29, J_29, hc_29, h⟩ := h
      refine cw_callV (o := 0) (As := [.int 1, .int 1, .int 0]) hc_29 okX11_fails rfl gX11_worth_X11_fails (by decide) (show 0 < 11 by decide) rfl (ci := 9) rfl rfl (Nat.le_of_ble_eq_true rfl) dX11_worth_29 ?_
      refine cw_if_eq (tgt := 37) dX11_worth_32 (by decide) (fun q => ?_) (fun q => ?_)
      · have h := h.1 q
        refine cw_aload_n dX11_worth_37 0 rfl rfl ?_
        refine cw_iload_n dX11_worth_38 1 rfl rfl ?_
        refine cw_iload_n dX11_worth_39 2 rfl rfl ?_
        refine cw_iload_n dX11_worth_40 3 rfl rfl ?_
        obtain ⟨v_41, J_41, hc_41, h⟩ := h
        refine cw_callV (o := 0) (As := [.int x1, .int x2, .int x3]) hc_41 okX11_worthOf rfl gX11_worth_X11_worthOf (by decide) (show 0 < 11 by decide) rfl (ci := 9) rfl rfl (Nat.le_of_ble_eq_true rfl) dX11_worth_41 ?_
        exact cw_iret rfl dX11_worth_44 h
      · have h := h.2 q
        refine cw_iconst (v := 0) dX11_worth_35 (by decide) ?_
        exact cw_iret rfl dX11_worth_36 h
abbrev bX11_worthOf_0_6 (K : cw_K) (r : Option Value) (J0 : cw_M) (x1 : Int32) (x3 : Int32) (x4 : Int32) (x5 : Int32) (I : cw_M) : Prop := cw_B (cr_w K) mX11_worthOf (cw_Z (cr_w K) r J0) 0 0 I 6 [(0, .ref (cw_a (cr_w K) 0)), (1, .int x1), (3, .int x3), (4, .int x4), (5, .int x5)] []
set_option maxRecDepth 20000 in
set_option maxHeartbeats 4000000 in
theorem eX11_worthOf_0 {K : cw_K} {r : Option Value} {J0 I : cw_M} {x1 : Int32} {x2 : Int32} {x3 : Int32} (h : bX11_worthOf_0_6 K r J0 x1 x3 0 x2 I) : cw_C (cr_w K) mX11_worthOf [.ref (cw_a (cr_w K) 0), .int x1, .int x2, .int x3] I r J0 := by
  refine cw_entry okX11_worthOf (Nat.le_of_ble_eq_true rfl) (show cw_B (cr_w K) mX11_worthOf (cw_Z (cr_w K) r J0) 0 0 I 0 [(0, .ref (cw_a (cr_w K) 0)), (1, .int x1), (2, .int x2), (3, .int x3)] [] from ?_)
  refine cw_iconst (v := 0) dX11_worthOf_0 (by decide) ?_
  refine cw_istore dX11_worthOf_1 (by decide) rfl ?_
  refine cw_iload_n dX11_worthOf_3 3 rfl rfl ?_
  refine cw_istore dX11_worthOf_4 (by decide) rfl ?_
  refine cw_sub [2, 3, 5, 1, 0] rfl ?_
  exact h
set_option maxRecDepth 20000 in
set_option maxHeartbeats 4000000 in
theorem tbX11_worthOf_0_6 {K : cw_K} {r : Option Value} {J0 I : cw_M} {x1 : Int32} {x3 : Int32} {x4 : Int32} {x5 : Int32} (h : ((x3 < x5 → (r = some (.int x4) ∧ J0 = I)) ∧ (¬ x3 < x5 → (∃ (v_18 : Int32) (J_18 : cw_M), cw_C (cr_w K) mX11_valueOf [.ref (cw_a (cr_w K) 0), .int x1, .int x5] I (some (.int v_18)) J_18 ∧ bX11_worthOf_0_6 K r J0 x1 x3 (x4 + v_18) (x5 + 1) J_18)))) : bX11_worthOf_0_6 K r J0 x1 x3 x4 x5 I := by
  refine cw_iload dX11_worthOf_6 4 rfl ?_
  refine cw_iload_n dX11_worthOf_8 2 rfl rfl ?_
  refine cw_icmp_gt (tgt := 30) dX11_worthOf_9 (by decide) (fun q => ?_) (fun q => ?_)
  · have h := h.1 q
    refine cw_iload dX11_worthOf_30 3 rfl ?_
    exact cw_iret rfl dX11_worthOf_32 h
  · have h := h.2 q
    refine cw_iload dX11_worthOf_12 3 rfl ?_
    refine cw_aload_n dX11_worthOf_14 0 rfl rfl ?_
    refine cw_iload_n dX11_worthOf_15 1 rfl rfl ?_
    refine cw_iload dX11_worthOf_16 4 rfl ?_
    obtain ⟨v_18, J_18, hc_18, h⟩ := h
    refine cw_callV (o := 0) (As := [.int x1, .int x5]) hc_18 okX11_valueOf rfl gX11_worthOf_X11_valueOf (by decide) (show 0 < 11 by decide) rfl (ci := 9) rfl rfl (Nat.le_of_ble_eq_true rfl) dX11_worthOf_18 ?_
    refine cw_iadd dX11_worthOf_21 ?_
    refine cw_istore dX11_worthOf_22 (by decide) rfl ?_
    refine cw_iinc (v := x5 + 1) dX11_worthOf_24 (j := 4) rfl rfl (by decide) rfl ?_
    refine cw_goto (tgt := 6) dX11_worthOf_27 (by decide) ?_
    refine cw_sub [2, 3, 4, 1, 0] rfl ?_
    exact h
set_option maxRecDepth 20000 in
set_option maxHeartbeats 4000000 in
theorem eX11_worthOfShare_0 {K : cw_K} {r : Option Value} {J0 I : cw_M} {x1 : Int32} {x2 : Int32} (h : (∃ (v_4 : Int32) (J_4 : cw_M), cw_C (cr_w K) mX11_areSiblings [.ref (cw_a (cr_w K) 0), .int x1, .int x2] I (some (.int v_4)) J_4 ∧ ((¬ v_4 = 0 → (∃ (v_17 : Int32) (J_17 : cw_M), cw_C (cr_w K) mX11_fails [.ref (cw_a (cr_w K) 0), .int 0, .int 0, .int 0] J_4 (some (.int v_17)) J_17 ∧ ((v_17 = 0 → (∃ (v_28 : Int32) (J_28 : cw_M), cw_C (cr_w K) mX11_worthShare [.ref (cw_a (cr_w K) 0), .int x1, .int x2] J_17 (some (.int v_28)) J_28 ∧ (r = some (.int v_28) ∧ J0 = J_28))) ∧ (¬ v_17 = 0 → (r = some (.int 0) ∧ J0 = J_17))))) ∧ (v_4 = 0 → (∃ (v_17 : Int32) (J_17 : cw_M), cw_C (cr_w K) mX11_fails [.ref (cw_a (cr_w K) 0), .int 1, .int 0, .int 0] J_4 (some (.int v_17)) J_17 ∧ ((v_17 = 0 → (∃ (v_28 : Int32) (J_28 : cw_M), cw_C (cr_w K) mX11_worthShare [.ref (cw_a (cr_w K) 0), .int x1, .int x2] J_17 (some (.int v_28)) J_28 ∧ (r = some (.int v_28) ∧ J0 = J_28))) ∧ (¬ v_17 = 0 → (r = some (.int 0) ∧ J0 = J_17)))))))) : cw_C (cr_w K) mX11_worthOfShare [.ref (cw_a (cr_w K) 0), .int x1, .int x2] I r J0 := by
  refine cw_entry okX11_worthOfShare (Nat.le_of_ble_eq_true rfl) (show cw_B (cr_w K) mX11_worthOfShare (cw_Z (cr_w K) r J0) 0 0 I 0 [(0, .ref (cw_a (cr_w K) 0)), (1, .int x1), (2, .int x2)] [] from ?_)
  refine cw_aload_n dX11_worthOfShare_0 0 rfl rfl ?_
  refine cw_aload_n dX11_worthOfShare_1 0 rfl rfl ?_
  refine cw_iload_n dX11_worthOfShare_2 1 rfl rfl ?_
  refine cw_iload_n dX11_worthOfShare_3 2 rfl rfl ?_
  obtain ⟨v_4, J_4, hc_4, h⟩ := h
  refine cw_callV (o := 0) (As := [.int x1, .int x2]) hc_4 okX11_areSiblings rfl gX11_worthOfShare_X11_areSiblings (by decide) (show 0 < 11 by decide) rfl (ci := 9) rfl rfl (Nat.le_of_ble_eq_true rfl) dX11_worthOfShare_4 ?_
  refine cw_if_ne (tgt := 14) dX11_worthOfShare_7 (by decide) (fun q => ?_) (fun q => ?_)
  · have h := h.1 q
    refine cw_iconst (v := 0) dX11_worthOfShare_14 (by decide) ?_
    refine cw_iconst (v := 0) dX11_worthOfShare_15 (by decide) ?_
    refine cw_iconst (v := 0) dX11_worthOfShare_16 (by decide) ?_
    obtain ⟨v_17, J_17, hc_17, h⟩ := h
    refine cw_callV (o := 0) (As := [.int 0, .int 0, .int 0]) hc_17 okX11_fails rfl gX11_worthOfShare_X11_fails (by decide) (show 0 < 11 by decide) rfl (ci := 9) rfl rfl (Nat.le_of_ble_eq_true rfl) dX11_worthOfShare_17 ?_
    refine cw_if_eq (tgt := 25) dX11_worthOfShare_20 (by decide) (fun q => ?_) (fun q => ?_)
    · have h := h.1 q
      refine cw_aload_n dX11_worthOfShare_25 0 rfl rfl ?_
      refine cw_iload_n dX11_worthOfShare_26 1 rfl rfl ?_
      refine cw_iload_n dX11_worthOfShare_27 2 rfl rfl ?_
      obtain ⟨v_28, J_28, hc_28, h⟩ := h
      refine cw_callV (o := 0) (As := [.int x1, .int x2]) hc_28 okX11_worthShare rfl gX11_worthOfShare_X11_worthShare (by decide) (show 0 < 11 by decide) rfl (ci := 9) rfl rfl (Nat.le_of_ble_eq_true rfl) dX11_worthOfShare_28 ?_
      exact cw_iret rfl dX11_worthOfShare_31 h
    · have h := h.2 q
      refine cw_iconst (v := 0) dX11_worthOfShare_23 (by decide) ?_
      exact cw_iret rfl dX11_worthOfShare_24 h
  · have h := h.2 q
    refine cw_iconst (v := 1) dX11_worthOfShare_10 (by decide) ?_
    refine cw_goto (tgt := 15) dX11_worthOfShare_11 (by decide) ?_
    refine cw_iconst (v := 0) dX11_worthOfShare_15 (by decide) ?_
    refine cw_iconst (v := 0) dX11_worthOfShare_16 (by decide) ?_
    obtain ⟨v_17, J_17, hc_17, h⟩ := h
    refine cw_callV (o := 0) (As := [.int 1, .int 0, .int 0]) hc_17 okX11_fails rfl gX11_worthOfShare_X11_fails (by decide) (show 0 < 11 by decide) rfl (ci := 9) rfl rfl (Nat.le_of_ble_eq_true rfl) dX11_worthOfShare_17 ?_
    refine cw_if_eq (tgt := 25) dX11_worthOfShare_20 (by decide) (fun q => ?_) (fun q => ?_)
    · have h := h.1 q
      refine cw_aload_n dX11_worthOfShare_25 0 rfl rfl ?_
      refine cw_iload_n dX11_worthOfShare_26 1 rfl rfl ?_
      refine cw_iload_n dX11_worthOfShare_27 2 rfl rfl ?_
      obtain ⟨v_28, J_28, hc_28, h⟩ := h
      refine cw_callV (o := 0) (As := [.int x1, .int x2]) hc_28 okX11_worthShare rfl gX11_worthOfShare_X11_worthShare (by decide) (show 0 < 11 by decide) rfl (ci := 9) rfl rfl (Nat.le_of_ble_eq_true rfl) dX11_worthOfShare_28 ?_
      exact cw_iret rfl dX11_worthOfShare_31 h
    · have h := h.2 q
      refine cw_iconst (v := 0) dX11_worthOfShare_23 (by decide) ?_
      exact cw_iret rfl dX11_worthOfShare_24 h
abbrev bX11_worthShare_0_5 (K : cw_K) (r : Option Value) (J0 : cw_M) (x1 : Int32) (x2 : Int32) (x3 : Int32) (x4 : Int32) (I : cw_M) : Prop := cw_B (cr_w K) mX11_worthShare (cw_Z (cr_w K) r J0) 0 0 I 5 [(0, .ref (cw_a (cr_w K) 0)), (1, .int x1), (2, .int x2), (3, .int x3), (4, .int x4)] []
set_option maxRecDepth 20000 in
set_option maxHeartbeats 4000000 in
theorem eX11_worthShare_0 {K : cw_K} {r : Option Value} {J0 I : cw_M} {x1 : Int32} {x2 : Int32} (h : bX11_worthShare_0_5 K r J0 x1 x2 0 0 I) : cw_C (cr_w K) mX11_worthShare [.ref (cw_a (cr_w K) 0), .int x1, .int x2] I r J0 := by
  refine cw_entry okX11_worthShare (Nat.le_of_ble_eq_true rfl) (show cw_B (cr_w K) mX11_worthShare (cw_Z (cr_w K) r J0) 0 0 I 0 [(0, .ref (cw_a (cr_w K) 0)), (1, .int x1), (2, .int x2)] [] from ?_)
  refine cw_iconst (v := 0) dX11_worthShare_0 (by decide) ?_
  refine cw_istore_n dX11_worthShare_1 rfl (by decide) rfl ?_
  refine cw_iconst (v := 0) dX11_worthShare_2 (by decide) ?_
  refine cw_istore dX11_worthShare_3 (by decide) rfl ?_
  refine cw_sub [2, 3, 4, 1, 0] rfl ?_
  exact h
set_option maxRecDepth 20000 in
set_option maxHeartbeats 4000000 in
theorem tbX11_worthShare_0_5 {K : cw_K} {r : Option Value} {J0 I : cw_M} {x1 : Int32} {x2 : Int32} {x3 : Int32} {x4 : Int32} (h : (((I 1 0) ≤ x4 → (r = some (.int x3) ∧ J0 = I)) ∧ (¬ (I 1 0) ≤ x4 → (∃ (v_20 : Int32) (J_20 : cw_M), cw_C (cr_w K) mX11_ownerOf [.ref (cw_a (cr_w K) 0), .int x4] I (some (.int v_20)) J_20 ∧ ((¬ v_20 = x2 → bX11_worthShare_0_5 K r J0 x1 x2 (x3 + 0) (x4 + 1) J_20) ∧ (v_20 = x2 → (∃ (v_31 : Int32) (J_31 : cw_M), cw_C (cr_w K) mX11_valueOf [.ref (cw_a (cr_w K) 0), .int x1, .int x4] J_20 (some (.int v_31)) J_31 ∧ bX11_worthShare_0_5 K r J0 x1 x2 (x3 + v_31) (x4 + 1) J_31))))))) : bX11_worthShare_0_5 K r J0 x1 x2 x3 x4 I := by
  refine cw_iload dX11_worthShare_5 4 rfl ?_
  refine cw_aload_n dX11_worthShare_7 0 rfl rfl ?_
  refine cw_getf (C := RX11) (T := TX11) (N := 20) (ci := 9) inX11_worthShare_RX11 0 (show 0 < 11 by decide) rfl rfl 0 (by decide) (by decide +kernel) rfl dX11_worthShare_8 ?_
  refine cw_iconst (v := 0) dX11_worthShare_11 (by decide) ?_
  refine cw_ialdL (j := 0) 1 (show 1 < 11 by decide) rfl 0 rfl dX11_worthShare_12 rfl (by decide) (by decide) ?_
  refine cw_icmp_ge (tgt := 46) dX11_worthShare_13 (by decide) (fun q => ?_) (fun q => ?_)
  · have h := h.1 q
    refine cw_iload_n dX11_worthShare_46 3 rfl rfl ?_
    exact cw_iret rfl dX11_worthShare_47 h
  · have h := h.2 q
    refine cw_iload_n dX11_worthShare_16 3 rfl rfl ?_
    refine cw_aload_n dX11_worthShare_17 0 rfl rfl ?_
    refine cw_iload dX11_worthShare_18 4 rfl ?_
    obtain ⟨v_20, J_20, hc_20, h⟩ := h
    refine cw_callV (o := 0) (As := [.int x4]) hc_20 okX11_ownerOf rfl gX11_worthShare_X11_ownerOf (by decide) (show 0 < 11 by decide) rfl (ci := 9) rfl rfl (Nat.le_of_ble_eq_true rfl) dX11_worthShare_20 ?_
    refine cw_iload_n dX11_worthShare_23 2 rfl rfl ?_
    refine cw_icmp_ne (tgt := 37) dX11_worthShare_24 (by decide) (fun q => ?_) (fun q => ?_)
    · have h := h.1 q
      refine cw_iconst (v := 0) dX11_worthShare_37 (by decide) ?_
      refine cw_iadd dX11_worthShare_38 ?_
      refine cw_istore_n dX11_worthShare_39 rfl (by decide) rfl ?_
      refine cw_iinc (v := x4 + 1) dX11_worthShare_40 (j := 4) rfl rfl (by decide) rfl ?_
      refine cw_goto (tgt := 5) dX11_worthShare_43 (by decide) ?_
      refine cw_sub [2, 3, 4, 1, 0] rfl ?_
      exact h
    · have h := h.2 q
      refine cw_aload_n dX11_worthShare_27 0 rfl rfl ?_
      refine cw_iload_n dX11_worthShare_28 1 rfl rfl ?_
      refine cw_iload dX11_worthShare_29 4 rfl ?_
      obtain ⟨v_31, J_31, hc_31, h⟩ := h
      refine cw_callV (o := 0) (As := [.int x1, .int x4]) hc_31 okX11_valueOf rfl gX11_worthShare_X11_valueOf (by decide) (show 0 < 11 by decide) rfl (ci := 9) rfl rfl (Nat.le_of_ble_eq_true rfl) dX11_worthShare_31 ?_
      refine cw_goto (tgt := 38) dX11_worthShare_34 (by decide) ?_
      refine cw_iadd dX11_worthShare_38 ?_
      refine cw_istore_n dX11_worthShare_39 rfl (by decide) rfl ?_
      refine cw_iinc (v := x4 + 1) dX11_worthShare_40 (j := 4) rfl rfl (by decide) rfl ?_
      refine cw_goto (tgt := 5) dX11_worthShare_43 (by decide) ?_
      refine cw_sub [2, 3, 4, 1, 0] rfl ?_
      exact h
set_option maxRecDepth 20000 in
set_option maxHeartbeats 4000000 in
theorem eX11_wouldSwap_0 {K : cw_K} {r : Option Value} {J0 I : cw_M} {x1 : Int32} {x2 : Int32} (h : (∃ (v_4 : Int32) (J_4 : cw_M), cw_C (cr_w K) mX11_areSiblings [.ref (cw_a (cr_w K) 0), .int x1, .int x2] I (some (.int v_4)) J_4 ∧ ((¬ v_4 = 0 → (∃ (v_17 : Int32) (J_17 : cw_M), cw_C (cr_w K) mX11_fails [.ref (cw_a (cr_w K) 0), .int 0, .int 0, .int 0] J_4 (some (.int v_17)) J_17 ∧ ((v_17 = 0 → (∃ (v_28 : Int32) (J_28 : cw_M), cw_C (cr_w K) mX11_hasEnvy [.ref (cw_a (cr_w K) 0), .int x1, .int x2] J_17 (some (.int v_28)) J_28 ∧ ((v_28 = 0 → (r = some (.int 0) ∧ J0 = J_28)) ∧ (¬ v_28 = 0 → (∃ (v_37 : Int32) (J_37 : cw_M), cw_C (cr_w K) mX11_hasEnvy [.ref (cw_a (cr_w K) 0), .int x2, .int x1] J_28 (some (.int v_37)) J_37 ∧ ((v_37 = 0 → (r = some (.int 0) ∧ J0 = J_37)) ∧ (¬ v_37 = 0 → (r = some (.int 1) ∧ J0 = J_37)))))))) ∧ (¬ v_17 = 0 → (r = some (.int 0) ∧ J0 = J_17))))) ∧ (v_4 = 0 → (∃ (v_17 : Int32) (J_17 : cw_M), cw_C (cr_w K) mX11_fails [.ref (cw_a (cr_w K) 0), .int 1, .int 0, .int 0] J_4 (some (.int v_17)) J_17 ∧ ((v_17 = 0 → (∃ (v_28 : Int32) (J_28 : cw_M), cw_C (cr_w K) mX11_hasEnvy [.ref (cw_a (cr_w K) 0), .int x1, .int x2] J_17 (some (.int v_28)) J_28 ∧ ((v_28 = 0 → (r = some (.int 0) ∧ J0 = J_28)) ∧ (¬ v_28 = 0 → (∃ (v_37 : Int32) (J_37 : cw_M), cw_C (cr_w K) mX11_hasEnvy [.ref (cw_a (cr_w K) 0), .int x2, .int x1] J_28 (some (.int v_37)) J_37 ∧ ((v_37 = 0 → (r = some (.int 0) ∧ J0 = J_37)) ∧ (¬ v_37 = 0 → (r = some (.int 1) ∧ J0 = J_37)))))))) ∧ (¬ v_17 = 0 → (r = some (.int 0) ∧ J0 = J_17)))))))) : cw_C (cr_w K) mX11_wouldSwap [.ref (cw_a (cr_w K) 0), .int x1, .int x2] I r J0 := by
  refine cw_entry okX11_wouldSwap (Nat.le_of_ble_eq_true rfl) (show cw_B (cr_w K) mX11_wouldSwap (cw_Z (cr_w K) r J0) 0 0 I 0 [(0, .ref (cw_a (cr_w K) 0)), (1, .int x1), (2, .int x2)] [] from ?_)
  refine cw_aload_n dX11_wouldSwap_0 0 rfl rfl ?_
  refine cw_aload_n dX11_wouldSwap_1 0 rfl rfl ?_
  refine cw_iload_n dX11_wouldSwap_2 1 rfl rfl ?_
  refine cw_iload_n dX11_wouldSwap_3 2 rfl rfl ?_
  obtain ⟨v_4, J_4, hc_4, h⟩ := h
  refine cw_callV (o := 0) (As := [.int x1, .int x2]) hc_4 okX11_areSiblings rfl gX11_wouldSwap_X11_areSiblings (by decide) (show 0 < 11 by decide) rfl (ci := 9) rfl rfl (Nat.le_of_ble_eq_true rfl) dX11_wouldSwap_4 ?_
  refine cw_if_ne (tgt := 14) dX11_wouldSwap_7 (by decide) (fun q => ?_) (fun q => ?_)
  · have h := h.1 q
    refine cw_iconst (v := 0) dX11_wouldSwap_14 (by decide) ?_
    refine cw_iconst (v := 0) dX11_wouldSwap_15 (by decide) ?_
    refine cw_iconst (v := 0) dX11_wouldSwap_16 (by decide) ?_
    obtain ⟨v_17, J_17, hc_17, h⟩ := h
    refine cw_callV (o := 0) (As := [.int 0, .int 0, .int 0]) hc_17 okX11_fails rfl gX11_wouldSwap_X11_fails (by decide) (show 0 < 11 by decide) rfl (ci := 9) rfl rfl (Nat.le_of_ble_eq_true rfl) dX11_wouldSwap_17 ?_
    refine cw_if_eq (tgt := 25) dX11_wouldSwap_20 (by decide) (fun q => ?_) (fun q => ?_)
    · have h := h.1 q
      refine cw_aload_n dX11_wouldSwap_25 0 rfl rfl ?_
      refine cw_iload_n dX11_wouldSwap_26 1 rfl rfl ?_
      refine cw_iload_n dX11_wouldSwap_27 2 rfl rfl ?_
      obtain ⟨v_28, J_28, hc_28, h⟩ := h
      refine cw_callV (o := 0) (As := [.int x1, .int x2]) hc_28 okX11_hasEnvy rfl gX11_wouldSwap_X11_hasEnvy (by decide) (show 0 < 11 by decide) rfl (ci := 9) rfl rfl (Nat.le_of_ble_eq_true rfl) dX11_wouldSwap_28 ?_
      refine cw_if_eq (tgt := 47) dX11_wouldSwap_31 (by decide) (fun q => ?_) (fun q => ?_)
      · have h := h.1 q
        refine cw_iconst (v := 0) dX11_wouldSwap_47 (by decide) ?_
        exact cw_bret rfl dX11_wouldSwap_48 (by decide) h
      · have h := h.2 q
        refine cw_aload_n dX11_wouldSwap_34 0 rfl rfl ?_
        refine cw_iload_n dX11_wouldSwap_35 2 rfl rfl ?_
        refine cw_iload_n dX11_wouldSwap_36 1 rfl rfl ?_
        obtain ⟨v_37, J_37, hc_37, h⟩ := h
        refine cw_callV (o := 0) (As := [.int x2, .int x1]) hc_37 okX11_hasEnvy rfl gX11_wouldSwap_X11_hasEnvy (by decide) (show 0 < 11 by decide) rfl (ci := 9) rfl rfl (Nat.le_of_ble_eq_true rfl) dX11_wouldSwap_37 ?_
        refine cw_if_eq (tgt := 47) dX11_wouldSwap_40 (by decide) (fun q => ?_) (fun q => ?_)
        · have h := h.1 q
          refine cw_iconst (v := 0) dX11_wouldSwap_47 (by decide) ?_
          exact cw_bret rfl dX11_wouldSwap_48 (by decide) h
        · have h := h.2 q
          refine cw_iconst (v := 1) dX11_wouldSwap_43 (by decide) ?_
          refine cw_goto (tgt := 48) dX11_wouldSwap_44 (by decide) ?_
          exact cw_bret rfl dX11_wouldSwap_48 (by decide) h
    · have h := h.2 q
      refine cw_iconst (v := 0) dX11_wouldSwap_23 (by decide) ?_
      exact cw_bret rfl dX11_wouldSwap_24 (by decide) h
  · have h := h.2 q
    refine cw_iconst (v := 1) dX11_wouldSwap_10 (by decide) ?_
    refine cw_goto (tgt := 15) dX11_wouldSwap_11 (by decide) ?_
    refine cw_iconst (v := 0) dX11_wouldSwap_15 (by decide) ?_
    refine cw_iconst (v := 0) dX11_wouldSwap_16 (by decide) ?_
    obtain ⟨v_17, J_17, hc_17, h⟩ := h
    refine cw_callV (o := 0) (As := [.int 1, .int 0, .int 0]) hc_17 okX11_fails rfl gX11_wouldSwap_X11_fails (by decide) (show 0 < 11 by decide) rfl (ci := 9) rfl rfl (Nat.le_of_ble_eq_true rfl) dX11_wouldSwap_17 ?_
    refine cw_if_eq (tgt := 25) dX11_wouldSwap_20 (by decide) (fun q => ?_) (fun q => ?_)
    · have h := h.1 q
      refine cw_aload_n dX11_wouldSwap_25 0 rfl rfl ?_
      refine cw_iload_n dX11_wouldSwap_26 1 rfl rfl ?_
      refine cw_iload_n dX11_wouldSwap_27 2 rfl rfl ?_
      obtain ⟨v_28, J_28, hc_28, h⟩ := h
      refine cw_callV (o := 0) (As := [.int x1, .int x2]) hc_28 okX11_hasEnvy rfl gX11_wouldSwap_X11_hasEnvy (by decide) (show 0 < 11 by decide) rfl (ci := 9) rfl rfl (Nat.le_of_ble_eq_true rfl) dX11_wouldSwap_28 ?_
      refine cw_if_eq (tgt := 47) dX11_wouldSwap_31 (by decide) (fun q => ?_) (fun q => ?_)
      · have h := h.1 q
        refine cw_iconst (v := 0) dX11_wouldSwap_47 (by decide) ?_
        exact cw_bret rfl dX11_wouldSwap_48 (by decide) h
      · have h := h.2 q
        refine cw_aload_n dX11_wouldSwap_34 0 rfl rfl ?_
        refine cw_iload_n dX11_wouldSwap_35 2 rfl rfl ?_
        refine cw_iload_n dX11_wouldSwap_36 1 rfl rfl ?_
        obtain ⟨v_37, J_37, hc_37, h⟩ := h
        refine cw_callV (o := 0) (As := [.int x2, .int x1]) hc_37 okX11_hasEnvy rfl gX11_wouldSwap_X11_hasEnvy (by decide) (show 0 < 11 by decide) rfl (ci := 9) rfl rfl (Nat.le_of_ble_eq_true rfl) dX11_wouldSwap_37 ?_
        refine cw_if_eq (tgt := 47) dX11_wouldSwap_40 (by decide) (fun q => ?_) (fun q => ?_)
        · have h := h.1 q
          refine cw_iconst (v := 0) dX11_wouldSwap_47 (by decide) ?_
          exact cw_bret rfl dX11_wouldSwap_48 (by decide) h
        · have h := h.2 q
          refine cw_iconst (v := 1) dX11_wouldSwap_43 (by decide) ?_
          refine cw_goto (tgt := 48) dX11_wouldSwap_44 (by decide) ?_
          exact cw_bret rfl dX11_wouldSwap_48 (by decide) h
    · have h := h.2 q
      refine cw_iconst (v := 0) dX11_wouldSwap_23 (by decide) ?_
      exact cw_bret rfl dX11_wouldSwap_24 (by decide) h
abbrev bX11_writeOwners_0_14 (K : cw_K) (r : Option Value) (J0 : cw_M) (x1 : Int32) (x2 : Int32) (I : cw_M) : Prop := cw_B (cr_w K) mX11_writeOwners (cw_Z (cr_w K) r J0) 0 0 I 14 [(0, .ref (cw_a (cr_w K) 0)), (1, .int x1), (2, .int x2)] []
set_option maxRecDepth 20000 in
set_option maxHeartbeats 4000000 in
theorem eX11_writeOwners_0 {K : cw_K} {r : Option Value} {J0 I : cw_M} (h : bX11_writeOwners_0_14 K r J0 0 1 (cw_st (cw_st I 0 9 0) 0 8 0)) : cw_C (cr_w K) mX11_writeOwners [.ref (cw_a (cr_w K) 0)] I r J0 := by
  refine cw_entry okX11_writeOwners (Nat.le_of_ble_eq_true rfl) (show cw_B (cr_w K) mX11_writeOwners (cw_Z (cr_w K) r J0) 0 0 I 0 [(0, .ref (cw_a (cr_w K) 0))] [] from ?_)
  refine cw_aload_n dX11_writeOwners_0 0 rfl rfl ?_
  refine cw_iconst (v := 0) dX11_writeOwners_1 (by decide) ?_
  refine cw_putf (C := RX11) (T := TX11) (N := 20) (ci := 9) inX11_writeOwners_RX11 tyX11 tyX11_ok nmX11 0 (show 0 < 11 by decide) rfl rfl 9 (by decide) (by decide +kernel) rfl rfl (show 9 < 20 by decide) rfl dX11_writeOwners_2 ?_
  refine cw_aload_n dX11_writeOwners_5 0 rfl rfl ?_
  refine cw_iconst (v := 0) dX11_writeOwners_6 (by decide) ?_
  refine cw_putf (C := RX11) (T := TX11) (N := 20) (ci := 9) inX11_writeOwners_RX11 tyX11 tyX11_ok nmX11 0 (show 0 < 11 by decide) rfl rfl 8 (by decide) (by decide +kernel) rfl rfl (show 8 < 20 by decide) rfl dX11_writeOwners_7 ?_
  refine cw_iconst (v := 0) dX11_writeOwners_10 (by decide) ?_
  refine cw_istore_n dX11_writeOwners_11 rfl (by decide) rfl ?_
  refine cw_iconst (v := 1) dX11_writeOwners_12 (by decide) ?_
  refine cw_istore_n dX11_writeOwners_13 rfl (by decide) rfl ?_
  refine cw_sub [2, 1, 0] rfl ?_
  exact h
set_option maxRecDepth 20000 in
set_option maxHeartbeats 4000000 in
theorem tbX11_writeOwners_0_14 {K : cw_K} {r : Option Value} {J0 I : cw_M} {x1 : Int32} {x2 : Int32} (h : (((I 1 0) < x2 → (r = some (.int (I 0 8)) ∧ J0 = I)) ∧ (¬ (I 1 0) < x2 → (((I 1 0) ≤ x2 → (∃ (v_56 : Int32) (J_56 : cw_M), cw_C (cr_w K) mX11_ownerOf [.ref (cw_a (cr_w K) 0), .int x1] I (some (.int v_56)) J_56 ∧ (∃ J_59 : cw_M, cw_C (cr_w K) mX11_putRun [.ref (cw_a (cr_w K) 0), .int (x2 - x1), .int v_56] J_56 none J_59 ∧ bX11_writeOwners_0_14 K r J0 x2 (x2 + 1) J_59))) ∧ (¬ (I 1 0) ≤ x2 → (∃ (v_36 : Int32) (J_36 : cw_M), cw_C (cr_w K) mX11_ownerOf [.ref (cw_a (cr_w K) 0), .int x2] I (some (.int v_36)) J_36 ∧ (∃ (v_41 : Int32) (J_41 : cw_M), cw_C (cr_w K) mX11_ownerOf [.ref (cw_a (cr_w K) 0), .int x1] J_36 (some (.int v_41)) J_41 ∧ ((¬ v_36 = v_41 → (∃ (v_56 : Int32) (J_56 : cw_M), cw_C (cr_w K) mX11_ownerOf [.ref (cw_a (cr_w K) 0), .int x1] J_41 (some (.int v_56)) J_56 ∧ (∃ J_59 : cw_M, cw_C (cr_w K) mX11_putRun [.ref (cw_a (cr_w K) 0), .int (x2 - x1), .int v_56] J_56 none J_59 ∧ bX11_writeOwners_0_14 K r J0 x2 (x2 + 1) J_59))) ∧ (v_36 = v_41 → bX11_writeOwners_0_14 K r J0 x1 (x2 + 1) J_41))))))))) : bX11_writeOwners_0_14 K r J0 x1 x2 I := by
  refine cw_iload_n dX11_writeOwners_14 2 rfl rfl ?_
  refine cw_aload_n dX11_writeOwners_15 0 rfl rfl ?_
  refine cw_getf (C := RX11) (T := TX11) (N := 20) (ci := 9) inX11_writeOwners_RX11 0 (show 0 < 11 by decide) rfl rfl 0 (by decide) (by decide +kernel) rfl dX11_writeOwners_16 ?_
  refine cw_iconst (v := 0) dX11_writeOwners_19 (by decide) ?_
  refine cw_ialdL (j := 0) 1 (show 1 < 11 by decide) rfl 0 rfl dX11_writeOwners_20 rfl (by decide) (by decide) ?_
  refine cw_icmp_gt (tgt := 70) dX11_writeOwners_21 (by decide) (fun q => ?_) (fun q => ?_)
  · have h := h.1 q
    refine cw_aload_n dX11_writeOwners_70 0 rfl rfl ?_
    refine cw_getf (C := RX11) (T := TX11) (N := 20) (ci := 9) inX11_writeOwners_RX11 0 (show 0 < 11 by decide) rfl rfl 8 (by decide) (by decide +kernel) rfl dX11_writeOwners_71 ?_
    exact cw_iret rfl dX11_writeOwners_74 h
  · have h := h.2 q
    refine cw_iload_n dX11_writeOwners_24 2 rfl rfl ?_
    refine cw_aload_n dX11_writeOwners_25 0 rfl rfl ?_
    refine cw_getf (C := RX11) (T := TX11) (N := 20) (ci := 9) inX11_writeOwners_RX11 0 (show 0 < 11 by decide) rfl rfl 0 (by decide) (by decide +kernel) rfl dX11_writeOwners_26 ?_
    refine cw_iconst (v := 0) dX11_writeOwners_29 (by decide) ?_
    refine cw_ialdL (j := 0) 1 (show 1 < 11 by decide) rfl 0 rfl dX11_writeOwners_30 rfl (by decide) (by decide) ?_
    refine cw_icmp_ge (tgt := 50) dX11_writeOwners_31 (by decide) (fun q => ?_) (fun q => ?_)
    · have h := h.1 q
      refine cw_aload_n dX11_writeOwners_50 0 rfl rfl ?_
      refine cw_iload_n dX11_writeOwners_51 2 rfl rfl ?_
      refine cw_iload_n dX11_writeOwners_52 1 rfl rfl ?_
      refine cw_isub dX11_writeOwners_53 ?_
      refine cw_aload_n dX11_writeOwners_54 0 rfl rfl ?_
      refine cw_iload_n dX11_writeOwners_55 1 rfl rfl ?_
      obtain ⟨v_56, J_56, hc_56, h⟩ := h
      refine cw_callV (o := 0) (As := [.int x1]) hc_56 okX11_ownerOf rfl gX11_writeOwners_X11_ownerOf (by decide) (show 0 < 11 by decide) rfl (ci := 9) rfl rfl (Nat.le_of_ble_eq_true rfl) dX11_writeOwners_56 ?_
      obtain ⟨J_59, hc_59, h⟩ := h
      refine cw_callV (o := 0) (As := [.int (x2 - x1), .int v_56]) hc_59 okX11_putRun rfl gX11_writeOwners_X11_putRun (by decide) (show 0 < 11 by decide) rfl (ci := 9) rfl rfl (Nat.le_of_ble_eq_true rfl) dX11_writeOwners_59 ?_
      refine cw_iload_n dX11_writeOwners_62 2 rfl rfl ?_
      refine cw_istore_n dX11_writeOwners_63 rfl (by decide) rfl ?_
      refine cw_iinc (v := x2 + 1) dX11_writeOwners_64 (j := 2) rfl rfl (by decide) rfl ?_
      refine cw_goto (tgt := 14) dX11_writeOwners_67 (by decide) ?_
      refine cw_sub [2, 1, 0] rfl ?_
      exact h
    · have h := h.2 q
      refine cw_aload_n dX11_writeOwners_34 0 rfl rfl ?_
      refine cw_iload_n dX11_writeOwners_35 2 rfl rfl ?_
      obtain ⟨v_36, J_36, hc_36, h⟩ := h
      refine cw_callV (o := 0) (As := [.int x2]) hc_36 okX11_ownerOf rfl gX11_writeOwners_X11_ownerOf (by decide) (show 0 < 11 by decide) rfl (ci := 9) rfl rfl (Nat.le_of_ble_eq_true rfl) dX11_writeOwners_36 ?_
      refine cw_aload_n dX11_writeOwners_39 0 rfl rfl ?_
      refine cw_iload_n dX11_writeOwners_40 1 rfl rfl ?_
      obtain ⟨v_41, J_41, hc_41, h⟩ := h
      refine cw_callV (o := 0) (As := [.int x1]) hc_41 okX11_ownerOf rfl gX11_writeOwners_X11_ownerOf (by decide) (show 0 < 11 by decide) rfl (ci := 9) rfl rfl (Nat.le_of_ble_eq_true rfl) dX11_writeOwners_41 ?_
      refine cw_icmp_ne (tgt := 50) dX11_writeOwners_44 (by decide) (fun q => ?_) (fun q => ?_)
      · have h := h.1 q
        refine cw_aload_n dX11_writeOwners_50 0 rfl rfl ?_
        refine cw_iload_n dX11_writeOwners_51 2 rfl rfl ?_
        refine cw_iload_n dX11_writeOwners_52 1 rfl rfl ?_
        refine cw_isub dX11_writeOwners_53 ?_
        refine cw_aload_n dX11_writeOwners_54 0 rfl rfl ?_
        refine cw_iload_n dX11_writeOwners_55 1 rfl rfl ?_
        obtain ⟨v_56, J_56, hc_56, h⟩ := h
        refine cw_callV (o := 0) (As := [.int x1]) hc_56 okX11_ownerOf rfl gX11_writeOwners_X11_ownerOf (by decide) (show 0 < 11 by decide) rfl (ci := 9) rfl rfl (Nat.le_of_ble_eq_true rfl) dX11_writeOwners_56 ?_
        obtain ⟨J_59, hc_59, h⟩ := h
        refine cw_callV (o := 0) (As := [.int (x2 - x1), .int v_56]) hc_59 okX11_putRun rfl gX11_writeOwners_X11_putRun (by decide) (show 0 < 11 by decide) rfl (ci := 9) rfl rfl (Nat.le_of_ble_eq_true rfl) dX11_writeOwners_59 ?_
        refine cw_iload_n dX11_writeOwners_62 2 rfl rfl ?_
        refine cw_istore_n dX11_writeOwners_63 rfl (by decide) rfl ?_
        refine cw_iinc (v := x2 + 1) dX11_writeOwners_64 (j := 2) rfl rfl (by decide) rfl ?_
        refine cw_goto (tgt := 14) dX11_writeOwners_67 (by decide) ?_
        refine cw_sub [2, 1, 0] rfl ?_
        exact h
      · have h := h.2 q
        refine cw_goto (tgt := 64) dX11_writeOwners_47 (by decide) ?_
        refine cw_iinc (v := x2 + 1) dX11_writeOwners_64 (j := 2) rfl rfl (by decide) rfl ?_
        refine cw_goto (tgt := 14) dX11_writeOwners_67 (by decide) ?_
        refine cw_sub [1, 2, 0] rfl ?_
        exact h
set_option maxRecDepth 20000 in
set_option maxHeartbeats 4000000 in
theorem eX11_wrong_0 {K : cw_K} {r : Option Value} {J0 I : cw_M} {x1 : Int32} (h : (r = some (.int 0) ∧ J0 = cw_st (cw_st I 0 5 x1) 0 6 ((cw_st I 0 5 x1) 0 17))) : cw_C (cr_w K) mX11_wrong [.ref (cw_a (cr_w K) 0), .int x1] I r J0 := by
  refine cw_entry okX11_wrong (Nat.le_of_ble_eq_true rfl) (show cw_B (cr_w K) mX11_wrong (cw_Z (cr_w K) r J0) 0 0 I 0 [(0, .ref (cw_a (cr_w K) 0)), (1, .int x1)] [] from ?_)
  refine cw_aload_n dX11_wrong_0 0 rfl rfl ?_
  refine cw_iload_n dX11_wrong_1 1 rfl rfl ?_
  refine cw_putf (C := RX11) (T := TX11) (N := 20) (ci := 9) inX11_wrong_RX11 tyX11 tyX11_ok nmX11 0 (show 0 < 11 by decide) rfl rfl 5 (by decide) (by decide +kernel) rfl rfl (show 5 < 20 by decide) rfl dX11_wrong_2 ?_
  refine cw_aload_n dX11_wrong_5 0 rfl rfl ?_
  refine cw_aload_n dX11_wrong_6 0 rfl rfl ?_
  refine cw_getf (C := RX11) (T := TX11) (N := 20) (ci := 9) inX11_wrong_RX11 0 (show 0 < 11 by decide) rfl rfl 17 (by decide) (by decide +kernel) rfl dX11_wrong_7 ?_
  refine cw_putf (C := RX11) (T := TX11) (N := 20) (ci := 9) inX11_wrong_RX11 tyX11 tyX11_ok nmX11 0 (show 0 < 11 by decide) rfl rfl 6 (by decide) (by decide +kernel) rfl rfl (show 6 < 20 by decide) rfl dX11_wrong_10 ?_
  refine cw_iconst (v := 0) dX11_wrong_13 (by decide) ?_
  exact cw_bret rfl dX11_wrong_14 (by decide) h
abbrev bX11_isWord_0_28 (K : cw_K) (r : Option Value) (J0 : cw_M) (x1 : Nat) (x2 : Int32) (I : cw_M) : Prop := cw_B (cr_w K) mX11_isWord (cw_Z (cr_w K) r J0) 0 0 I 28 [(0, .ref (cw_a (cr_w K) 0)), (1, .ref (cw_sd K x1)), (2, .int x2)] []
set_option maxRecDepth 20000 in
set_option maxHeartbeats 4000000 in
theorem eX11_isWord_0 {K : cw_K} {r : Option Value} {J0 I : cw_M} {x1 : Nat} (hFS : cw_FS (cw_Fc K) (cw_sd K) (cw_sv K)) (h : ((¬ (I 0 16) = 1 → (r = some (.int 0) ∧ J0 = I)) ∧ ((I 0 16) = 1 → (x1 < 16 ∧ ((((I 0 15) - (I 0 17)) = (cw_ln x1) → bX11_isWord_0_28 K r J0 x1 0 I) ∧ (¬ ((I 0 15) - (I 0 17)) = (cw_ln x1) → (r = some (.int 0) ∧ J0 = I))))))) : cw_C (cr_w K) mX11_isWord [.ref (cw_a (cr_w K) 0), .ref (cw_sd K x1)] I r J0 := by
  refine cw_entry okX11_isWord (Nat.le_of_ble_eq_true rfl) (show cw_B (cr_w K) mX11_isWord (cw_Z (cr_w K) r J0) 0 0 I 0 [(0, .ref (cw_a (cr_w K) 0)), (1, .ref (cw_sd K x1))] [] from ?_)
  refine cw_aload_n dX11_isWord_0 0 rfl rfl ?_
  refine cw_getf (C := RX11) (T := TX11) (N := 20) (ci := 9) inX11_isWord_RX11 0 (show 0 < 11 by decide) rfl rfl 16 (by decide) (by decide +kernel) rfl dX11_isWord_1 ?_
  refine cw_iconst (v := 1) dX11_isWord_4 (by decide) ?_
  refine cw_icmp_ne (tgt := 24) dX11_isWord_5 (by decide) (fun q => ?_) (fun q => ?_)
  · have h := h.1 q
    refine cw_iconst (v := 0) dX11_isWord_24 (by decide) ?_
    exact cw_bret rfl dX11_isWord_25 (by decide) h
  · have h := h.2 q
    refine cw_aload_n dX11_isWord_8 0 rfl rfl ?_
    refine cw_getf (C := RX11) (T := TX11) (N := 20) (ci := 9) inX11_isWord_RX11 0 (show 0 < 11 by decide) rfl rfl 15 (by decide) (by decide +kernel) rfl dX11_isWord_9 ?_
    refine cw_aload_n dX11_isWord_12 0 rfl rfl ?_
    refine cw_getf (C := RX11) (T := TX11) (N := 20) (ci := 9) inX11_isWord_RX11 0 (show 0 < 11 by decide) rfl rfl 17 (by decide) (by decide +kernel) rfl dX11_isWord_13 ?_
    refine cw_isub dX11_isWord_16 ?_
    refine cw_aload_n dX11_isWord_17 1 rfl rfl ?_
    obtain ⟨g_18, h⟩ := h
    refine cw_callK (As := []) (jd_length hFS g_18) okJ0_length_8abf5 rfl gX11_isWord_J0_length_8abf5 (by decide) (fun A U H q => (hFS.str A U H q g_18).1) rfl (Nat.le_of_ble_eq_true rfl) dX11_isWord_18 ?_
    refine cw_icmp_eq (tgt := 26) dX11_isWord_21 (by decide) (fun q => ?_) (fun q => ?_)
    · have h := h.1 q
      refine cw_iconst (v := 0) dX11_isWord_26 (by decide) ?_
      refine cw_istore_n dX11_isWord_27 rfl (by decide) rfl ?_
      refine cw_sub [1, 2, 0] rfl ?_
      exact h
    · have h := h.2 q
      refine cw_iconst (v := 0) dX11_isWord_24 (by decide) ?_
      exact cw_bret rfl dX11_isWord_25 (by decide) h
set_option maxRecDepth 20000 in
set_option maxHeartbeats 4000000 in
theorem tbX11_isWord_0_28 {K : cw_K} {r : Option Value} {J0 I : cw_M} {x1 : Nat} {x2 : Int32} (hFS : cw_FS (cw_Fc K) (cw_sd K) (cw_sv K)) (h : (x1 < 16 ∧ (((cw_ln x1) ≤ x2 → (r = some (.int 1) ∧ J0 = I)) ∧ (¬ (cw_ln x1) ≤ x2 → (vp_in ((I 0 17) + x2) 600 ∧ ((x1 < 16 ∧ vp_in x2 (cw_tx x1).length) ∧ (((I 3 ((I 0 17) + x2).toNatClampNeg) = (cw_ch x1 x2) → bX11_isWord_0_28 K r J0 x1 (x2 + 1) I) ∧ (¬ (I 3 ((I 0 17) + x2).toNatClampNeg) = (cw_ch x1 x2) → (r = some (.int 0) ∧ J0 = I))))))))) : bX11_isWord_0_28 K r J0 x1 x2 I := by
  refine cw_iload_n dX11_isWord_28 2 rfl rfl ?_
  refine cw_aload_n dX11_isWord_29 1 rfl rfl ?_
  obtain ⟨g_30, h⟩ := h
  refine cw_callK (As := []) (jd_length hFS g_30) okJ0_length_8abf5 rfl gX11_isWord_J0_length_8abf5 (by decide) (fun A U H q => (hFS.str A U H q g_30).1) rfl (Nat.le_of_ble_eq_true rfl) dX11_isWord_30 ?_
  refine cw_icmp_ge (tgt := 63) dX11_isWord_33 (by decide) (fun q => ?_) (fun q => ?_)
  · have h := h.1 q
    refine cw_iconst (v := 1) dX11_isWord_63 (by decide) ?_
    exact cw_bret rfl dX11_isWord_64 (by decide) h
  · have h := h.2 q
    refine cw_aload_n dX11_isWord_36 0 rfl rfl ?_
    refine cw_getf (C := RX11) (T := TX11) (N := 20) (ci := 9) inX11_isWord_RX11 0 (show 0 < 11 by decide) rfl rfl 3 (by decide) (by decide +kernel) rfl dX11_isWord_37 ?_
    refine cw_aload_n dX11_isWord_40 0 rfl rfl ?_
    refine cw_getf (C := RX11) (T := TX11) (N := 20) (ci := 9) inX11_isWord_RX11 0 (show 0 < 11 by decide) rfl rfl 17 (by decide) (by decide +kernel) rfl dX11_isWord_41 ?_
    refine cw_iload_n dX11_isWord_44 2 rfl rfl ?_
    refine cw_iadd dX11_isWord_45 ?_
    obtain ⟨g_46, h⟩ := h
    refine cw_iald 3 (show 3 < 11 by decide) rfl 0 rfl dX11_isWord_46 g_46 ?_
    refine cw_aload_n dX11_isWord_47 1 rfl rfl ?_
    refine cw_iload_n dX11_isWord_48 2 rfl rfl ?_
    obtain ⟨g_49, h⟩ := h
    refine cw_callK (As := [.int x2]) (jd_charAt hFS g_49.1 g_49.2) okJ0_charAt_5068e rfl gX11_isWord_J0_charAt_5068e (by decide) (fun A U H q => (hFS.str A U H q g_49.1).1) rfl (Nat.le_of_ble_eq_true rfl) dX11_isWord_49 ?_
    refine cw_icmp_eq (tgt := 57) dX11_isWord_52 (by decide) (fun q => ?_) (fun q => ?_)
    · have h := h.1 q
      refine cw_iinc (v := x2 + 1) dX11_isWord_57 (j := 2) rfl rfl (by decide) rfl ?_
      refine cw_goto (tgt := 28) dX11_isWord_60 (by decide) ?_
      refine cw_sub [1, 2, 0] rfl ?_
      exact h
    · have h := h.2 q
      refine cw_iconst (v := 0) dX11_isWord_55 (by decide) ?_
      exact cw_bret rfl dX11_isWord_56 (by decide) h
