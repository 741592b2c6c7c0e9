/-! Blocks of Cake, Text, Memory, laid by gen.py. -/
theorem inX1_hasSibling_RX1 : ∀ x ∈ u_ws RX1 TX1 6, x ∈ wsX1_hasSibling := by decide +kernel
theorem inX1_hasCell_RX1 : ∀ x ∈ u_ws RX1 TX1 6, x ∈ wsX1_hasCell := by decide +kernel
theorem inX1_valueOf_RX1 : ∀ x ∈ u_ws RX1 TX1 6, x ∈ wsX1_valueOf := by decide +kernel
theorem inX1_putValue_RX1 : ∀ x ∈ u_ws RX1 TX1 6, x ∈ wsX1_putValue := by decide +kernel
theorem inX1_worthOfRun_RX1 : ∀ x ∈ u_ws RX1 TX1 6, x ∈ wsX1_worthOfRun := by decide +kernel
theorem inX1_worthOfAll_RX1 : ∀ x ∈ u_ws RX1 TX1 6, x ∈ wsX1_worthOfAll := by decide +kernel
theorem inX1_welfareOf_RX1 : ∀ x ∈ u_ws RX1 TX1 6, x ∈ wsX1_welfareOf := by decide +kernel
theorem inX1_countOwned_RX1 : ∀ x ∈ u_ws RX1 TX1 6, x ∈ wsX1_countOwned := by decide +kernel
theorem inX1_exchangeShares_RX1 : ∀ x ∈ u_ws RX1 TX1 6, x ∈ wsX1_exchangeShares := by decide +kernel
theorem inX1_worthOfOwned_RX1 : ∀ x ∈ u_ws RX1 TX1 6, x ∈ wsX1_worthOfOwned := by decide +kernel
theorem inX1_leastWelfareAmong_RX1 : ∀ x ∈ u_ws RX1 TX1 6, x ∈ wsX1_leastWelfareAmong := by decide +kernel
theorem inX1_putName_RX1 : ∀ x ∈ u_ws RX1 TX1 6, x ∈ wsX1_putName := by decide +kernel
theorem inX1_putName_RX8 : ∀ x ∈ u_ws RX8 TX8 2, x ∈ wsX1_putName := by decide +kernel
theorem inX1_findName_RX1 : ∀ x ∈ u_ws RX1 TX1 6, x ∈ wsX1_findName := by decide +kernel
theorem inX1_become_RX1 : ∀ x ∈ u_ws RX1 TX1 6, x ∈ wsX1_become := by decide +kernel
theorem inX8_add_RX8 : ∀ x ∈ u_ws RX8 TX8 2, x ∈ wsX8_add := by decide +kernel
theorem inX4_rememberForUndo_RX4 : ∀ x ∈ u_ws RX4 TX4 5, x ∈ wsX4_rememberForUndo := by decide +kernel
theorem inX4_forgetAll_RX4 : ∀ x ∈ u_ws RX4 TX4 5, x ∈ wsX4_forgetAll := by decide +kernel
theorem inX1_isName_RX1 : ∀ x ∈ u_ws RX1 TX1 6, x ∈ wsX1_isName := by decide +kernel
theorem inX1_isName_RX8 : ∀ x ∈ u_ws RX8 TX8 2, x ∈ wsX1_isName := by decide +kernel
theorem inX4_keep_RX1 : ∀ x ∈ u_ws RX1 TX1 6, x ∈ wsX4_keep := by decide +kernel
theorem inX4_keep_RX4 : ∀ x ∈ u_ws RX4 TX4 5, x ∈ wsX4_keep := by decide +kernel
set_option maxRecDepth 20000 in
set_option maxHeartbeats 4000000 in
theorem eX1_hasSibling_5 {K : cw_K} {r : Option Value} {J0 I : cw_M} {x1 : Int32} (h : ((x1 < 0 → (r = some (.int 0) ∧ J0 = I)) ∧ (¬ x1 < 0 → (((I 5 1) ≤ x1 → (r = some (.int 0) ∧ J0 = I)) ∧ (¬ (I 5 1) ≤ x1 → (r = some (.int 1) ∧ J0 = I)))))) : cw_C (cc_w K) mX1_hasSibling [.ref (cw_a (cc_w K) 5), .int x1] I r J0 := by
  refine cw_entry okX1_hasSibling (Nat.le_of_ble_eq_true rfl) (show cw_B (cc_w K) (cc_w K) mX1_hasSibling (cw_Z (cc_w K) r J0) 0 0 0 0 I 0 [(0, .ref (cw_a (cc_w K) 5)), (1, .int x1)] [] from ?_)
  refine cw_iload_n dX1_hasSibling_0 1 rfl rfl ?_
  refine cw_if_lt (tgt := 16) dX1_hasSibling_1 (by decide) (fun q => ?_) (fun q => ?_)
  · have h := h.1 q
    refine cw_iconst (v := 0) dX1_hasSibling_16 (by decide) ?_
    exact cw_bret rfl dX1_hasSibling_17 (by decide) h
  · have h := h.2 q
    refine cw_iload_n dX1_hasSibling_4 1 rfl rfl ?_
    refine cw_aload_n dX1_hasSibling_5 0 rfl rfl ?_
    refine cw_getf (C := RX1) (T := TX1) (N := 6) (ci := 2) inX1_hasSibling_RX1 5 (show 5 < 32 by decide) rfl rfl 1 (by decide) (by decide +kernel) rfl dX1_hasSibling_6 ?_
    refine cw_icmp_ge (tgt := 16) dX1_hasSibling_9 (by decide) (fun q => ?_) (fun q => ?_)
    · have h := h.1 q
      refine cw_iconst (v := 0) dX1_hasSibling_16 (by decide) ?_
      exact cw_bret rfl dX1_hasSibling_17 (by decide) h
    · have h := h.2 q
      refine cw_iconst (v := 1) dX1_hasSibling_12 (by decide) ?_
      refine cw_goto (tgt := 17) dX1_hasSibling_13 (by decide) ?_
      exact cw_bret rfl dX1_hasSibling_17 (by decide) h
set_option maxRecDepth 20000 in
set_option maxHeartbeats 4000000 in
theorem eX1_hasCell_5 {K : cw_K} {r : Option Value} {J0 I : cw_M} {x1 : Int32} (h : ((x1 < 0 → (r = some (.int 0) ∧ J0 = I)) ∧ (¬ x1 < 0 → (((I 5 0) ≤ x1 → (r = some (.int 0) ∧ J0 = I)) ∧ (¬ (I 5 0) ≤ x1 → (r = some (.int 1) ∧ J0 = I)))))) : cw_C (cc_w K) mX1_hasCell [.ref (cw_a (cc_w K) 5), .int x1] I r J0 := by
  refine cw_entry okX1_hasCell (Nat.le_of_ble_eq_true rfl) (show cw_B (cc_w K) (cc_w K) mX1_hasCell (cw_Z (cc_w K) r J0) 0 0 0 0 I 0 [(0, .ref (cw_a (cc_w K) 5)), (1, .int x1)] [] from ?_)
  refine cw_iload_n dX1_hasCell_0 1 rfl rfl ?_
  refine cw_if_lt (tgt := 16) dX1_hasCell_1 (by decide) (fun q => ?_) (fun q => ?_)
  · have h := h.1 q
    refine cw_iconst (v := 0) dX1_hasCell_16 (by decide) ?_
    exact cw_bret rfl dX1_hasCell_17 (by decide) h
  · have h := h.2 q
    refine cw_iload_n dX1_hasCell_4 1 rfl rfl ?_
    refine cw_aload_n dX1_hasCell_5 0 rfl rfl ?_
    refine cw_getf (C := RX1) (T := TX1) (N := 6) (ci := 2) inX1_hasCell_RX1 5 (show 5 < 32 by decide) rfl rfl 0 (by decide) (by decide +kernel) rfl dX1_hasCell_6 ?_
    refine cw_icmp_ge (tgt := 16) dX1_hasCell_9 (by decide) (fun q => ?_) (fun q => ?_)
    · have h := h.1 q
      refine cw_iconst (v := 0) dX1_hasCell_16 (by decide) ?_
      exact cw_bret rfl dX1_hasCell_17 (by decide) h
    · have h := h.2 q
      refine cw_iconst (v := 1) dX1_hasCell_12 (by decide) ?_
      refine cw_goto (tgt := 17) dX1_hasCell_13 (by decide) ?_
      exact cw_bret rfl dX1_hasCell_17 (by decide) h
set_option maxRecDepth 20000 in
set_option maxHeartbeats 4000000 in
theorem eX1_hasRun_5 {K : cw_K} {r : Option Value} {J0 I : cw_M} {x1 : Int32} {x2 : Int32} (h : (∃ (v_2 : Int32) (J_2 : cw_M), cw_C (cc_w K) mX1_hasCell [.ref (cw_a (cc_w K) 5), .int x1] I (some (.int v_2)) J_2 ∧ ((v_2 = 0 → (r = some (.int 0) ∧ J0 = J_2)) ∧ (¬ v_2 = 0 → (∃ (v_10 : Int32) (J_10 : cw_M), cw_C (cc_w K) mX1_hasCell [.ref (cw_a (cc_w K) 5), .int x2] J_2 (some (.int v_10)) J_10 ∧ ((v_10 = 0 → (r = some (.int 0) ∧ J0 = J_10)) ∧ (¬ v_10 = 0 → ((x2 < x1 → (r = some (.int 0) ∧ J0 = J_10)) ∧ (¬ x2 < x1 → (r = some (.int 1) ∧ J0 = J_10)))))))))) : cw_C (cc_w K) mX1_hasRun [.ref (cw_a (cc_w K) 5), .int x1, .int x2] I r J0 := by
  refine cw_entry okX1_hasRun (Nat.le_of_ble_eq_true rfl) (show cw_B (cc_w K) (cc_w K) mX1_hasRun (cw_Z (cc_w K) r J0) 0 0 0 0 I 0 [(0, .ref (cw_a (cc_w K) 5)), (1, .int x1), (2, .int x2)] [] from ?_)
  refine cw_aload_n dX1_hasRun_0 0 rfl rfl ?_
  refine cw_iload_n dX1_hasRun_1 1 rfl rfl ?_
  obtain ⟨v_2, J_2, hc_2, h⟩ := h
  refine cw_callV (o := 5) (As := [.int x1]) hc_2 okX1_hasCell rfl gX1_hasRun_X1_hasCell (by decide) (show 5 < 32 by decide) rfl (ci := 2) rfl rfl (Nat.le_of_ble_eq_true rfl) dX1_hasRun_2 ?_
  refine cw_if_eq (tgt := 25) dX1_hasRun_5 (by decide) (fun q => ?_) (fun q => ?_)
  · have h := h.1 q
    refine cw_iconst (v := 0) dX1_hasRun_25 (by decide) ?_
    exact cw_bret rfl dX1_hasRun_26 (by decide) h
  · have h := h.2 q
    refine cw_aload_n dX1_hasRun_8 0 rfl rfl ?_
    refine cw_iload_n dX1_hasRun_9 2 rfl rfl ?_
    obtain ⟨v_10, J_10, hc_10, h⟩ := h
    refine cw_callV (o := 5) (As := [.int x2]) hc_10 okX1_hasCell rfl gX1_hasRun_X1_hasCell (by decide) (show 5 < 32 by decide) rfl (ci := 2) rfl rfl (Nat.le_of_ble_eq_true rfl) dX1_hasRun_10 ?_
    refine cw_if_eq (tgt := 25) dX1_hasRun_13 (by decide) (fun q => ?_) (fun q => ?_)
    · have h := h.1 q
      refine cw_iconst (v := 0) dX1_hasRun_25 (by decide) ?_
      exact cw_bret rfl dX1_hasRun_26 (by decide) h
    · have h := h.2 q
      refine cw_iload_n dX1_hasRun_16 1 rfl rfl ?_
      refine cw_iload_n dX1_hasRun_17 2 rfl rfl ?_
      refine cw_icmp_gt (tgt := 25) dX1_hasRun_18 (by decide) (fun q => ?_) (fun q => ?_)
      · have h := h.1 q
        refine cw_iconst (v := 0) dX1_hasRun_25 (by decide) ?_
        exact cw_bret rfl dX1_hasRun_26 (by decide) h
      · have h := h.2 q
        refine cw_iconst (v := 1) dX1_hasRun_21 (by decide) ?_
        refine cw_goto (tgt := 26) dX1_hasRun_22 (by decide) ?_
        exact cw_bret rfl dX1_hasRun_26 (by decide) h
set_option maxRecDepth 20000 in
set_option maxHeartbeats 4000000 in
theorem eX1_valueOf_5 {K : cw_K} {r : Option Value} {J0 I : cw_M} {x1 : Int32} {x2 : Int32} (h : (vp_in ((x1 * 24) + x2) 144 ∧ (r = some (.int (I 8 ((x1 * 24) + x2).toNatClampNeg)) ∧ J0 = I))) : cw_C (cc_w K) mX1_valueOf [.ref (cw_a (cc_w K) 5), .int x1, .int x2] I r J0 := by
  refine cw_entry okX1_valueOf (Nat.le_of_ble_eq_true rfl) (show cw_B (cc_w K) (cc_w K) mX1_valueOf (cw_Z (cc_w K) r J0) 0 0 0 0 I 0 [(0, .ref (cw_a (cc_w K) 5)), (1, .int x1), (2, .int x2)] [] from ?_)
  refine cw_aload_n dX1_valueOf_0 0 rfl rfl ?_
  refine cw_getf (C := RX1) (T := TX1) (N := 6) (ci := 2) inX1_valueOf_RX1 5 (show 5 < 32 by decide) rfl rfl 4 (by decide) (by decide +kernel) rfl dX1_valueOf_1 ?_
  refine cw_iload_n dX1_valueOf_4 1 rfl rfl ?_
  refine cw_bipush (v := 24) dX1_valueOf_5 (by decide) ?_
  refine cw_imul dX1_valueOf_7 ?_
  refine cw_iload_n dX1_valueOf_8 2 rfl rfl ?_
  refine cw_iadd dX1_valueOf_9 ?_
  obtain ⟨g_10, h⟩ := h
  refine cw_iald 8 (show 8 < 32 by decide) rfl 0 rfl dX1_valueOf_10 g_10 ?_
  exact cw_iret rfl dX1_valueOf_11 h
set_option maxRecDepth 20000 in
set_option maxHeartbeats 4000000 in
theorem eX1_putValue_5 {K : cw_K} {r : Option Value} {J0 I : cw_M} {x1 : Int32} {x2 : Int32} {x3 : Int32} (h : (vp_in ((x1 * 24) + x2) 144 ∧ (r = none ∧ J0 = cw_st I 8 ((x1 * 24) + x2).toNatClampNeg x3))) : cw_C (cc_w K) mX1_putValue [.ref (cw_a (cc_w K) 5), .int x1, .int x2, .int x3] I r J0 := by
  refine cw_entry okX1_putValue (Nat.le_of_ble_eq_true rfl) (show cw_B (cc_w K) (cc_w K) mX1_putValue (cw_Z (cc_w K) r J0) 0 0 0 0 I 0 [(0, .ref (cw_a (cc_w K) 5)), (1, .int x1), (2, .int x2), (3, .int x3)] [] from ?_)
  refine cw_aload_n dX1_putValue_0 0 rfl rfl ?_
  refine cw_getf (C := RX1) (T := TX1) (N := 6) (ci := 2) inX1_putValue_RX1 5 (show 5 < 32 by decide) rfl rfl 4 (by decide) (by decide +kernel) rfl dX1_putValue_1 ?_
  refine cw_iload_n dX1_putValue_4 1 rfl rfl ?_
  refine cw_bipush (v := 24) dX1_putValue_5 (by decide) ?_
  refine cw_imul dX1_putValue_7 ?_
  refine cw_iload_n dX1_putValue_8 2 rfl rfl ?_
  refine cw_iadd dX1_putValue_9 ?_
  refine cw_iload_n dX1_putValue_10 3 rfl rfl ?_
  obtain ⟨g_11, h⟩ := h
  refine cw_iast 8 (show 8 < 32 by decide) (fun _ => rfl) 0 rfl dX1_putValue_11 g_11 ?_
  exact cw_vret rfl dX1_putValue_12 h
abbrev bX1_worthOfRun_5_12 (K : cw_K) (r : Option Value) (J0 : cw_M) (x3 : Int32) (x4 : Int32) (x5 : Int32) (x6 : Int32) (I : cw_M) : Prop := cw_B (cc_w K) (cc_w K) mX1_worthOfRun (cw_Z (cc_w K) r J0) 0 0 0 0 I 12 [(0, .ref (cw_a (cc_w K) 5)), (3, .int x3), (4, .int x4), (5, .int x5), (6, .int x6)] []
set_option maxRecDepth 20000 in
set_option maxHeartbeats 4000000 in
theorem eX1_worthOfRun_5 {K : cw_K} {r : Option Value} {J0 I : cw_M} {x1 : Int32} {x2 : Int32} {x3 : Int32} (h : bX1_worthOfRun_5_12 K r J0 x3 (x1 * 24) 0 x2 I) : cw_C (cc_w K) mX1_worthOfRun [.ref (cw_a (cc_w K) 5), .int x1, .int x2, .int x3] I r J0 := by
  refine cw_entry okX1_worthOfRun (Nat.le_of_ble_eq_true rfl) (show cw_B (cc_w K) (cc_w K) mX1_worthOfRun (cw_Z (cc_w K) r J0) 0 0 0 0 I 0 [(0, .ref (cw_a (cc_w K) 5)), (1, .int x1), (2, .int x2), (3, .int x3)] [] from ?_)
  refine cw_iload_n dX1_worthOfRun_0 1 rfl rfl ?_
  refine cw_bipush (v := 24) dX1_worthOfRun_1 (by decide) ?_
  refine cw_imul dX1_worthOfRun_3 ?_
  refine cw_istore dX1_worthOfRun_4 (by decide) rfl ?_
  refine cw_iconst (v := 0) dX1_worthOfRun_6 (by decide) ?_
  refine cw_istore dX1_worthOfRun_7 (by decide) rfl ?_
  refine cw_iload_n dX1_worthOfRun_9 4 rfl rfl ?_
  refine cw_istore dX1_worthOfRun_10 (by decide) rfl ?_
  refine cw_sub [3, 6, 2, 1, 0] rfl ?_
  exact h
set_option maxRecDepth 20000 in
set_option maxHeartbeats 4000000 in
theorem tbX1_worthOfRun_5_12 {K : cw_K} {r : Option Value} {J0 I : cw_M} {x3 : Int32} {x4 : Int32} {x5 : Int32} {x6 : Int32} (h : ((x3 ≤ x6 → (r = some (.int x5) ∧ J0 = I)) ∧ (¬ x3 ≤ x6 → (vp_in (x4 + x6) 144 ∧ bX1_worthOfRun_5_12 K r J0 x3 x4 (x5 + (I 8 (x4 + x6).toNatClampNeg)) (x6 + 1) I)))) : bX1_worthOfRun_5_12 K r J0 x3 x4 x5 x6 I := by
  refine cw_iload dX1_worthOfRun_12 4 rfl ?_
  refine cw_iload_n dX1_worthOfRun_14 1 rfl rfl ?_
  refine cw_icmp_ge (tgt := 39) dX1_worthOfRun_15 (by decide) (fun q => ?_) (fun q => ?_)
  · have h := h.1 q
    refine cw_iload dX1_worthOfRun_39 3 rfl ?_
    exact cw_iret rfl dX1_worthOfRun_41 h
  · have h := h.2 q
    refine cw_iload dX1_worthOfRun_18 3 rfl ?_
    refine cw_aload_n dX1_worthOfRun_20 0 rfl rfl ?_
    refine cw_getf (C := RX1) (T := TX1) (N := 6) (ci := 2) inX1_worthOfRun_RX1 5 (show 5 < 32 by decide) rfl rfl 4 (by decide) (by decide +kernel) rfl dX1_worthOfRun_21 ?_
    refine cw_iload dX1_worthOfRun_24 2 rfl ?_
    refine cw_iload dX1_worthOfRun_26 4 rfl ?_
    refine cw_iadd dX1_worthOfRun_28 ?_
    obtain ⟨g_29, h⟩ := h
    refine cw_iald 8 (show 8 < 32 by decide) rfl 0 rfl dX1_worthOfRun_29 g_29 ?_
    refine cw_iadd dX1_worthOfRun_30 ?_
    refine cw_istore dX1_worthOfRun_31 (by decide) rfl ?_
    refine cw_iinc (v := x6 + 1) dX1_worthOfRun_33 (j := 4) rfl rfl (by decide) rfl ?_
    refine cw_goto (tgt := 12) dX1_worthOfRun_36 (by decide) ?_
    refine cw_sub [2, 3, 4, 1, 0] rfl ?_
    exact h
set_option maxRecDepth 20000 in
set_option maxHeartbeats 4000000 in
theorem eX1_worthOfAll_5 {K : cw_K} {r : Option Value} {J0 I : cw_M} {x1 : Int32} (h : (∃ (v_7 : Int32) (J_7 : cw_M), cw_C (cc_w K) mX1_worthOfRun [.ref (cw_a (cc_w K) 5), .int x1, .int 0, .int (I 5 0)] I (some (.int v_7)) J_7 ∧ (r = some (.int v_7) ∧ J0 = J_7))) : cw_C (cc_w K) mX1_worthOfAll [.ref (cw_a (cc_w K) 5), .int x1] I r J0 := by
  refine cw_entry okX1_worthOfAll (Nat.le_of_ble_eq_true rfl) (show cw_B (cc_w K) (cc_w K) mX1_worthOfAll (cw_Z (cc_w K) r J0) 0 0 0 0 I 0 [(0, .ref (cw_a (cc_w K) 5)), (1, .int x1)] [] from ?_)
  refine cw_aload_n dX1_worthOfAll_0 0 rfl rfl ?_
  refine cw_iload_n dX1_worthOfAll_1 1 rfl rfl ?_
  refine cw_iconst (v := 0) dX1_worthOfAll_2 (by decide) ?_
  refine cw_aload_n dX1_worthOfAll_3 0 rfl rfl ?_
  refine cw_getf (C := RX1) (T := TX1) (N := 6) (ci := 2) inX1_worthOfAll_RX1 5 (show 5 < 32 by decide) rfl rfl 0 (by decide) (by decide +kernel) rfl dX1_worthOfAll_4 ?_
  obtain ⟨v_7, J_7, hc_7, h⟩ := h
  refine cw_callV (o := 5) (As := [.int x1, .int 0, .int (I 5 0)]) hc_7 okX1_worthOfRun rfl gX1_worthOfAll_X1_worthOfRun (by decide) (show 5 < 32 by decide) rfl (ci := 2) rfl rfl (Nat.le_of_ble_eq_true rfl) dX1_worthOfAll_7 ?_
  exact cw_iret rfl dX1_worthOfAll_10 h
set_option maxRecDepth 20000 in
set_option maxHeartbeats 4000000 in
theorem eX1_welfareOf_5 {K : cw_K} {r : Option Value} {J0 I : cw_M} {x1 : Int32} (h : (∃ (v_7 : Int32) (J_7 : cw_M), cw_C (cc_w K) mX1_worthOfOwned [.ref (cw_a (cc_w K) 5), .ref (cw_a (cc_w K) 9), .int x1, .int x1] I (some (.int v_7)) J_7 ∧ (r = some (.int v_7) ∧ J0 = J_7))) : cw_C (cc_w K) mX1_welfareOf [.ref (cw_a (cc_w K) 5), .int x1] I r J0 := by
  refine cw_entry okX1_welfareOf (Nat.le_of_ble_eq_true rfl) (show cw_B (cc_w K) (cc_w K) mX1_welfareOf (cw_Z (cc_w K) r J0) 0 0 0 0 I 0 [(0, .ref (cw_a (cc_w K) 5)), (1, .int x1)] [] from ?_)
  refine cw_aload_n dX1_welfareOf_0 0 rfl rfl ?_
  refine cw_aload_n dX1_welfareOf_1 0 rfl rfl ?_
  refine cw_getf (C := RX1) (T := TX1) (N := 6) (ci := 2) inX1_welfareOf_RX1 5 (show 5 < 32 by decide) rfl rfl 5 (by decide) (by decide +kernel) rfl dX1_welfareOf_2 ?_
  refine cw_iload_n dX1_welfareOf_5 1 rfl rfl ?_
  refine cw_iload_n dX1_welfareOf_6 1 rfl rfl ?_
  obtain ⟨v_7, J_7, hc_7, h⟩ := h
  refine cw_callV (o := 5) (As := [.ref (cw_a (cc_w K) 9), .int x1, .int x1]) hc_7 okX1_worthOfOwned rfl gX1_welfareOf_X1_worthOfOwned (by decide) (show 5 < 32 by decide) rfl (ci := 2) rfl rfl (Nat.le_of_ble_eq_true rfl) dX1_welfareOf_7 ?_
  exact cw_iret rfl dX1_welfareOf_10 h
abbrev bX1_countOwned_5_4 (K : cw_K) (r : Option Value) (J0 : cw_M) (x1 : Int32) (x2 : Int32) (x3 : Int32) (I : cw_M) : Prop := cw_B (cc_w K) (cc_w K) mX1_countOwned (cw_Z (cc_w K) r J0) 0 0 0 0 I 4 [(0, .ref (cw_a (cc_w K) 5)), (1, .int x1), (2, .int x2), (3, .int x3)] []
set_option maxRecDepth 20000 in
set_option maxHeartbeats 4000000 in
theorem eX1_countOwned_5 {K : cw_K} {r : Option Value} {J0 I : cw_M} {x1 : Int32} (h : bX1_countOwned_5_4 K r J0 x1 0 0 I) : cw_C (cc_w K) mX1_countOwned [.ref (cw_a (cc_w K) 5), .int x1] I r J0 := by
  refine cw_entry okX1_countOwned (Nat.le_of_ble_eq_true rfl) (show cw_B (cc_w K) (cc_w K) mX1_countOwned (cw_Z (cc_w K) r J0) 0 0 0 0 I 0 [(0, .ref (cw_a (cc_w K) 5)), (1, .int x1)] [] from ?_)
  refine cw_iconst (v := 0) dX1_countOwned_0 (by decide) ?_
  refine cw_istore_n dX1_countOwned_1 rfl (by decide) rfl ?_
  refine cw_iconst (v := 0) dX1_countOwned_2 (by decide) ?_
  refine cw_istore_n dX1_countOwned_3 rfl (by decide) rfl ?_
  refine cw_sub [2, 3, 1, 0] rfl ?_
  exact h
set_option maxRecDepth 20000 in
set_option maxHeartbeats 4000000 in
theorem tbX1_countOwned_5_4 {K : cw_K} {r : Option Value} {J0 I : cw_M} {x1 : Int32} {x2 : Int32} {x3 : Int32} (h : (((I 5 0) ≤ x3 → (r = some (.int x2) ∧ J0 = I)) ∧ (¬ (I 5 0) ≤ x3 → (vp_in x3 24 ∧ ((¬ (I 9 x3.toNatClampNeg) = x1 → bX1_countOwned_5_4 K r J0 x1 x2 (x3 + 1) I) ∧ ((I 9 x3.toNatClampNeg) = x1 → bX1_countOwned_5_4 K r J0 x1 (x2 + 1) (x3 + 1) I)))))) : bX1_countOwned_5_4 K r J0 x1 x2 x3 I := by
  refine cw_iload_n dX1_countOwned_4 3 rfl rfl ?_
  refine cw_aload_n dX1_countOwned_5 0 rfl rfl ?_
  refine cw_getf (C := RX1) (T := TX1) (N := 6) (ci := 2) inX1_countOwned_RX1 5 (show 5 < 32 by decide) rfl rfl 0 (by decide) (by decide +kernel) rfl dX1_countOwned_6 ?_
  refine cw_icmp_ge (tgt := 31) dX1_countOwned_9 (by decide) (fun q => ?_) (fun q => ?_)
  · have h := h.1 q
    refine cw_iload_n dX1_countOwned_31 2 rfl rfl ?_
    exact cw_iret rfl dX1_countOwned_32 h
  · have h := h.2 q
    refine cw_aload_n dX1_countOwned_12 0 rfl rfl ?_
    refine cw_getf (C := RX1) (T := TX1) (N := 6) (ci := 2) inX1_countOwned_RX1 5 (show 5 < 32 by decide) rfl rfl 5 (by decide) (by decide +kernel) rfl dX1_countOwned_13 ?_
    refine cw_iload_n dX1_countOwned_16 3 rfl rfl ?_
    obtain ⟨g_17, h⟩ := h
    refine cw_iald 9 (show 9 < 32 by decide) rfl 0 rfl dX1_countOwned_17 g_17 ?_
    refine cw_iload_n dX1_countOwned_18 1 rfl rfl ?_
    refine cw_icmp_ne (tgt := 25) dX1_countOwned_19 (by decide) (fun q => ?_) (fun q => ?_)
    · have h := h.1 q
      refine cw_iinc (v := x3 + 1) dX1_countOwned_25 (j := 3) rfl rfl (by decide) rfl ?_
      refine cw_goto (tgt := 4) dX1_countOwned_28 (by decide) ?_
      refine cw_sub [1, 2, 3, 0] rfl ?_
      exact h
    · have h := h.2 q
      refine cw_iinc (v := x2 + 1) dX1_countOwned_22 (j := 2) rfl rfl (by decide) rfl ?_
      refine cw_iinc (v := x3 + 1) dX1_countOwned_25 (j := 3) rfl rfl (by decide) rfl ?_
      refine cw_goto (tgt := 4) dX1_countOwned_28 (by decide) ?_
      refine cw_sub [2, 3, 1, 0] rfl ?_
      exact h
abbrev bX1_exchangeShares_5_2 (K : cw_K) (r : Option Value) (J0 : cw_M) (x1 : Int32) (x2 : Int32) (x3 : Int32) (I : cw_M) : Prop := cw_B (cc_w K) (cc_w K) mX1_exchangeShares (cw_Z (cc_w K) r J0) 0 0 0 0 I 2 [(0, .ref (cw_a (cc_w K) 5)), (1, .int x1), (2, .int x2), (3, .int x3)] []
set_option maxRecDepth 20000 in
set_option maxHeartbeats 4000000 in
theorem eX1_exchangeShares_5 {K : cw_K} {r : Option Value} {J0 I : cw_M} {x1 : Int32} {x2 : Int32} (h : bX1_exchangeShares_5_2 K r J0 x1 x2 0 I) : cw_C (cc_w K) mX1_exchangeShares [.ref (cw_a (cc_w K) 5), .int x1, .int x2] I r J0 := by
  refine cw_entry okX1_exchangeShares (Nat.le_of_ble_eq_true rfl) (show cw_B (cc_w K) (cc_w K) mX1_exchangeShares (cw_Z (cc_w K) r J0) 0 0 0 0 I 0 [(0, .ref (cw_a (cc_w K) 5)), (1, .int x1), (2, .int x2)] [] from ?_)
  refine cw_iconst (v := 0) dX1_exchangeShares_0 (by decide) ?_
  refine cw_istore_n dX1_exchangeShares_1 rfl (by decide) rfl ?_
  refine cw_sub [1, 2, 3, 0] rfl ?_
  exact h
set_option maxRecDepth 20000 in
set_option maxHeartbeats 4000000 in
theorem tbX1_exchangeShares_5_2 {K : cw_K} {r : Option Value} {J0 I : cw_M} {x1 : Int32} {x2 : Int32} {x3 : Int32} (h : (((I 5 0) ≤ x3 → (r = none ∧ J0 = I)) ∧ (¬ (I 5 0) ≤ x3 → (vp_in x3 24 ∧ ((¬ (I 9 x3.toNatClampNeg) = x1 → (vp_in x3 24 ∧ ((¬ (I 9 x3.toNatClampNeg) = x2 → bX1_exchangeShares_5_2 K r J0 x1 x2 (x3 + 1) I) ∧ ((I 9 x3.toNatClampNeg) = x2 → (vp_in x3 24 ∧ bX1_exchangeShares_5_2 K r J0 x1 x2 (x3 + 1) (cw_st I 9 x3.toNatClampNeg x1)))))) ∧ ((I 9 x3.toNatClampNeg) = x1 → (vp_in x3 24 ∧ bX1_exchangeShares_5_2 K r J0 x1 x2 (x3 + 1) (cw_st I 9 x3.toNatClampNeg x2)))))))) : bX1_exchangeShares_5_2 K r J0 x1 x2 x3 I := by
  refine cw_iload_n dX1_exchangeShares_2 3 rfl rfl ?_
  refine cw_aload_n dX1_exchangeShares_3 0 rfl rfl ?_
  refine cw_getf (C := RX1) (T := TX1) (N := 6) (ci := 2) inX1_exchangeShares_RX1 5 (show 5 < 32 by decide) rfl rfl 0 (by decide) (by decide +kernel) rfl dX1_exchangeShares_4 ?_
  refine cw_icmp_ge (tgt := 53) dX1_exchangeShares_7 (by decide) (fun q => ?_) (fun q => ?_)
  · have h := h.1 q
    exact cw_vret rfl dX1_exchangeShares_53 h
  · have h := h.2 q
    refine cw_aload_n dX1_exchangeShares_10 0 rfl rfl ?_
    refine cw_getf (C := RX1) (T := TX1) (N := 6) (ci := 2) inX1_exchangeShares_RX1 5 (show 5 < 32 by decide) rfl rfl 5 (by decide) (by decide +kernel) rfl dX1_exchangeShares_11 ?_
    refine cw_iload_n dX1_exchangeShares_14 3 rfl rfl ?_
    obtain ⟨g_15, h⟩ := h
    refine cw_iald 9 (show 9 < 32 by decide) rfl 0 rfl dX1_exchangeShares_15 g_15 ?_
    refine cw_iload_n dX1_exchangeShares_16 1 rfl rfl ?_
    refine cw_icmp_ne (tgt := 30) dX1_exchangeShares_17 (by decide) (fun q => ?_) (fun q => ?_)
    · have h := h.1 q
      refine cw_aload_n dX1_exchangeShares_30 0 rfl rfl ?_
      refine cw_getf (C := RX1) (T := TX1) (N := 6) (ci := 2) inX1_exchangeShares_RX1 5 (show 5 < 32 by decide) rfl rfl 5 (by decide) (by decide +kernel) rfl dX1_exchangeShares_31 ?_
      refine cw_iload_n dX1_exchangeShares_34 3 rfl rfl ?_
      obtain ⟨g_35, h⟩ := h
      refine cw_iald 9 (show 9 < 32 by decide) rfl 0 rfl dX1_exchangeShares_35 g_35 ?_
      refine cw_iload_n dX1_exchangeShares_36 2 rfl rfl ?_
      refine cw_icmp_ne (tgt := 47) dX1_exchangeShares_37 (by decide) (fun q => ?_) (fun q => ?_)
      · have h := h.1 q
        refine cw_iinc (v := x3 + 1) dX1_exchangeShares_47 (j := 3) rfl rfl (by decide) rfl ?_
        refine cw_goto (tgt := 2) dX1_exchangeShares_50 (by decide) ?_
        refine cw_sub [1, 2, 3, 0] rfl ?_
        exact h
      · have h := h.2 q
        refine cw_aload_n dX1_exchangeShares_40 0 rfl rfl ?_
        refine cw_getf (C := RX1) (T := TX1) (N := 6) (ci := 2) inX1_exchangeShares_RX1 5 (show 5 < 32 by decide) rfl rfl 5 (by decide) (by decide +kernel) rfl dX1_exchangeShares_41 ?_
        refine cw_iload_n dX1_exchangeShares_44 3 rfl rfl ?_
        refine cw_iload_n dX1_exchangeShares_45 1 rfl rfl ?_
        obtain ⟨g_46, h⟩ := h
        refine cw_iast 9 (show 9 < 32 by decide) (fun _ => rfl) 0 rfl dX1_exchangeShares_46 g_46 ?_
        refine cw_iinc (v := x3 + 1) dX1_exchangeShares_47 (j := 3) rfl rfl (by decide) rfl ?_
        refine cw_goto (tgt := 2) dX1_exchangeShares_50 (by decide) ?_
        refine cw_sub [1, 2, 3, 0] rfl ?_
        exact h
    · have h := h.2 q
      refine cw_aload_n dX1_exchangeShares_20 0 rfl rfl ?_
      refine cw_getf (C := RX1) (T := TX1) (N := 6) (ci := 2) inX1_exchangeShares_RX1 5 (show 5 < 32 by decide) rfl rfl 5 (by decide) (by decide +kernel) rfl dX1_exchangeShares_21 ?_
      refine cw_iload_n dX1_exchangeShares_24 3 rfl rfl ?_
      refine cw_iload_n dX1_exchangeShares_25 2 rfl rfl ?_
      obtain ⟨g_26, h⟩ := h
      refine cw_iast 9 (show 9 < 32 by decide) (fun _ => rfl) 0 rfl dX1_exchangeShares_26 g_26 ?_
      refine cw_goto (tgt := 47) dX1_exchangeShares_27 (by decide) ?_
      refine cw_iinc (v := x3 + 1) dX1_exchangeShares_47 (j := 3) rfl rfl (by decide) rfl ?_
      refine cw_goto (tgt := 2) dX1_exchangeShares_50 (by decide) ?_
      refine cw_sub [1, 2, 3, 0] rfl ?_
      exact h
set_option maxRecDepth 20000 in
set_option maxHeartbeats 4000000 in
theorem eX1_putValue_10 {K : cw_K} {r : Option Value} {J0 I : cw_M} {x1 : Int32} {x2 : Int32} {x3 : Int32} (h : (vp_in ((x1 * 24) + x2) 144 ∧ (r = none ∧ J0 = cw_st I 13 ((x1 * 24) + x2).toNatClampNeg x3))) : cw_C (cc_w K) mX1_putValue [.ref (cw_a (cc_w K) 10), .int x1, .int x2, .int x3] I r J0 := by
  refine cw_entry okX1_putValue (Nat.le_of_ble_eq_true rfl) (show cw_B (cc_w K) (cc_w K) mX1_putValue (cw_Z (cc_w K) r J0) 0 0 0 0 I 0 [(0, .ref (cw_a (cc_w K) 10)), (1, .int x1), (2, .int x2), (3, .int x3)] [] from ?_)
  refine cw_aload_n dX1_putValue_0 0 rfl rfl ?_
  refine cw_getf (C := RX1) (T := TX1) (N := 6) (ci := 2) inX1_putValue_RX1 10 (show 10 < 32 by decide) rfl rfl 4 (by decide) (by decide +kernel) rfl dX1_putValue_1 ?_
  refine cw_iload_n dX1_putValue_4 1 rfl rfl ?_
  refine cw_bipush (v := 24) dX1_putValue_5 (by decide) ?_
  refine cw_imul dX1_putValue_7 ?_
  refine cw_iload_n dX1_putValue_8 2 rfl rfl ?_
  refine cw_iadd dX1_putValue_9 ?_
  refine cw_iload_n dX1_putValue_10 3 rfl rfl ?_
  obtain ⟨g_11, h⟩ := h
  refine cw_iast 13 (show 13 < 32 by decide) (fun _ => rfl) 0 rfl dX1_putValue_11 g_11 ?_
  exact cw_vret rfl dX1_putValue_12 h
abbrev bX1_worthOfOwned_5_9_12 (K : cw_K) (r : Option Value) (J0 : cw_M) (x3 : Int32) (x4 : Int32) (x5 : Int32) (x6 : Int32) (I : cw_M) : Prop := cw_B (cc_w K) (cc_w K) mX1_worthOfOwned (cw_Z (cc_w K) r J0) 0 0 0 0 I 12 [(0, .ref (cw_a (cc_w K) 5)), (1, .ref (cw_a (cc_w K) 9)), (3, .int x3), (4, .int x4), (5, .int x5), (6, .int x6)] []
set_option maxRecDepth 20000 in
set_option maxHeartbeats 4000000 in
theorem eX1_worthOfOwned_5_9 {K : cw_K} {r : Option Value} {J0 I : cw_M} {x2 : Int32} {x3 : Int32} (h : bX1_worthOfOwned_5_9_12 K r J0 x3 (x2 * 24) 0 0 I) : cw_C (cc_w K) mX1_worthOfOwned [.ref (cw_a (cc_w K) 5), .ref (cw_a (cc_w K) 9), .int x2, .int x3] I r J0 := by
  refine cw_entry okX1_worthOfOwned (Nat.le_of_ble_eq_true rfl) (show cw_B (cc_w K) (cc_w K) mX1_worthOfOwned (cw_Z (cc_w K) r J0) 0 0 0 0 I 0 [(0, .ref (cw_a (cc_w K) 5)), (1, .ref (cw_a (cc_w K) 9)), (2, .int x2), (3, .int x3)] [] from ?_)
  refine cw_iload_n dX1_worthOfOwned_0 2 rfl rfl ?_
  refine cw_bipush (v := 24) dX1_worthOfOwned_1 (by decide) ?_
  refine cw_imul dX1_worthOfOwned_3 ?_
  refine cw_istore dX1_worthOfOwned_4 (by decide) rfl ?_
  refine cw_iconst (v := 0) dX1_worthOfOwned_6 (by decide) ?_
  refine cw_istore dX1_worthOfOwned_7 (by decide) rfl ?_
  refine cw_iconst (v := 0) dX1_worthOfOwned_9 (by decide) ?_
  refine cw_istore dX1_worthOfOwned_10 (by decide) rfl ?_
  refine cw_sub [3, 4, 6, 2, 1, 0] rfl ?_
  exact h
set_option maxRecDepth 20000 in
set_option maxHeartbeats 4000000 in
theorem tbX1_worthOfOwned_5_9_12 {K : cw_K} {r : Option Value} {J0 I : cw_M} {x3 : Int32} {x4 : Int32} {x5 : Int32} {x6 : Int32} (h : (((I 5 0) ≤ x6 → (r = some (.int x5) ∧ J0 = I)) ∧ (¬ (I 5 0) ≤ x6 → (vp_in x6 24 ∧ ((¬ (I 9 x6.toNatClampNeg) = x3 → bX1_worthOfOwned_5_9_12 K r J0 x3 x4 x5 (x6 + 1) I) ∧ ((I 9 x6.toNatClampNeg) = x3 → (vp_in (x4 + x6) 144 ∧ bX1_worthOfOwned_5_9_12 K r J0 x3 x4 (x5 + (I 8 (x4 + x6).toNatClampNeg)) (x6 + 1) I))))))) : bX1_worthOfOwned_5_9_12 K r J0 x3 x4 x5 x6 I := by
  refine cw_iload dX1_worthOfOwned_12 5 rfl ?_
  refine cw_aload_n dX1_worthOfOwned_14 0 rfl rfl ?_
  refine cw_getf (C := RX1) (T := TX1) (N := 6) (ci := 2) inX1_worthOfOwned_RX1 5 (show 5 < 32 by decide) rfl rfl 0 (by decide) (by decide +kernel) rfl dX1_worthOfOwned_15 ?_
  refine cw_icmp_ge (tgt := 50) dX1_worthOfOwned_18 (by decide) (fun q => ?_) (fun q => ?_)
  · have h := h.1 q
    refine cw_iload dX1_worthOfOwned_50 4 rfl ?_
    exact cw_iret rfl dX1_worthOfOwned_52 h
  · have h := h.2 q
    refine cw_aload_n dX1_worthOfOwned_21 1 rfl rfl ?_
    refine cw_iload dX1_worthOfOwned_22 5 rfl ?_
    obtain ⟨g_24, h⟩ := h
    refine cw_iald 9 (show 9 < 32 by decide) rfl 0 rfl dX1_worthOfOwned_24 g_24 ?_
    refine cw_iload_n dX1_worthOfOwned_25 2 rfl rfl ?_
    refine cw_icmp_ne (tgt := 44) dX1_worthOfOwned_26 (by decide) (fun q => ?_) (fun q => ?_)
    · have h := h.1 q
      refine cw_iinc (v := x6 + 1) dX1_worthOfOwned_44 (j := 5) rfl rfl (by decide) rfl ?_
      refine cw_goto (tgt := 12) dX1_worthOfOwned_47 (by decide) ?_
      refine cw_sub [1, 2, 3, 4, 5, 0] rfl ?_
      exact h
    · have h := h.2 q
      refine cw_iload dX1_worthOfOwned_29 4 rfl ?_
      refine cw_aload_n dX1_worthOfOwned_31 0 rfl rfl ?_
      refine cw_getf (C := RX1) (T := TX1) (N := 6) (ci := 2) inX1_worthOfOwned_RX1 5 (show 5 < 32 by decide) rfl rfl 4 (by decide) (by decide +kernel) rfl dX1_worthOfOwned_32 ?_
      refine cw_iload dX1_worthOfOwned_35 3 rfl ?_
      refine cw_iload dX1_worthOfOwned_37 5 rfl ?_
      refine cw_iadd dX1_worthOfOwned_39 ?_
      obtain ⟨g_40, h⟩ := h
      refine cw_iald 8 (show 8 < 32 by decide) rfl 0 rfl dX1_worthOfOwned_40 g_40 ?_
      refine cw_iadd dX1_worthOfOwned_41 ?_
      refine cw_istore dX1_worthOfOwned_42 (by decide) rfl ?_
      refine cw_iinc (v := x6 + 1) dX1_worthOfOwned_44 (j := 5) rfl rfl (by decide) rfl ?_
      refine cw_goto (tgt := 12) dX1_worthOfOwned_47 (by decide) ?_
      refine cw_sub [2, 3, 4, 5, 1, 0] rfl ?_
      exact h
abbrev bX1_leastWelfareAmong_5_9_10 (K : cw_K) (r : Option Value) (J0 : cw_M) (x2 : Int32) (x3 : Int32) (I : cw_M) : Prop := cw_B (cc_w K) (cc_w K) mX1_leastWelfareAmong (cw_Z (cc_w K) r J0) 0 0 0 0 I 10 [(0, .ref (cw_a (cc_w K) 5)), (1, .ref (cw_a (cc_w K) 9)), (2, .int x2), (3, .int x3)] []
set_option maxRecDepth 20000 in
set_option maxHeartbeats 4000000 in
theorem eX1_leastWelfareAmong_5_9 {K : cw_K} {r : Option Value} {J0 I : cw_M} (h : (∃ (v_4 : Int32) (J_4 : cw_M), cw_C (cc_w K) mX1_worthOfOwned [.ref (cw_a (cc_w K) 5), .ref (cw_a (cc_w K) 9), .int 0, .int 0] I (some (.int v_4)) J_4 ∧ bX1_leastWelfareAmong_5_9_10 K r J0 v_4 1 J_4)) : cw_C (cc_w K) mX1_leastWelfareAmong [.ref (cw_a (cc_w K) 5), .ref (cw_a (cc_w K) 9)] I r J0 := by
  refine cw_entry okX1_leastWelfareAmong (Nat.le_of_ble_eq_true rfl) (show cw_B (cc_w K) (cc_w K) mX1_leastWelfareAmong (cw_Z (cc_w K) r J0) 0 0 0 0 I 0 [(0, .ref (cw_a (cc_w K) 5)), (1, .ref (cw_a (cc_w K) 9))] [] from ?_)
  refine cw_aload_n dX1_leastWelfareAmong_0 0 rfl rfl ?_
  refine cw_aload_n dX1_leastWelfareAmong_1 1 rfl rfl ?_
  refine cw_iconst (v := 0) dX1_leastWelfareAmong_2 (by decide) ?_
  refine cw_iconst (v := 0) dX1_leastWelfareAmong_3 (by decide) ?_
  obtain ⟨v_4, J_4, hc_4, h⟩ := h
  refine cw_callV (o := 5) (As := [.ref (cw_a (cc_w K) 9), .int 0, .int 0]) hc_4 okX1_worthOfOwned rfl gX1_leastWelfareAmong_X1_worthOfOwned (by decide) (show 5 < 32 by decide) rfl (ci := 2) rfl rfl (Nat.le_of_ble_eq_true rfl) dX1_leastWelfareAmong_4 ?_
  refine cw_istore_n dX1_leastWelfareAmong_7 rfl (by decide) rfl ?_
  refine cw_iconst (v := 1) dX1_leastWelfareAmong_8 (by decide) ?_
  refine cw_istore_n dX1_leastWelfareAmong_9 rfl (by decide) rfl ?_
  refine cw_sub [2, 3, 1, 0] rfl ?_
  exact h
set_option maxRecDepth 20000 in
set_option maxHeartbeats 4000000 in
theorem tbX1_leastWelfareAmong_5_9_10 {K : cw_K} {r : Option Value} {J0 I : cw_M} {x2 : Int32} {x3 : Int32} (h : (((I 5 1) ≤ x3 → (r = some (.int x2) ∧ J0 = I)) ∧ (¬ (I 5 1) ≤ x3 → (∃ (v_23 : Int32) (J_23 : cw_M), cw_C (cc_w K) mX1_worthOfOwned [.ref (cw_a (cc_w K) 5), .ref (cw_a (cc_w K) 9), .int x3, .int x3] I (some (.int v_23)) J_23 ∧ bX1_leastWelfareAmong_5_9_10 K r J0 (if v_23 < x2 then v_23 else x2) (x3 + 1) J_23)))) : bX1_leastWelfareAmong_5_9_10 K r J0 x2 x3 I := by
  refine cw_iload_n dX1_leastWelfareAmong_10 3 rfl rfl ?_
  refine cw_aload_n dX1_leastWelfareAmong_11 0 rfl rfl ?_
  refine cw_getf (C := RX1) (T := TX1) (N := 6) (ci := 2) inX1_leastWelfareAmong_RX1 5 (show 5 < 32 by decide) rfl rfl 1 (by decide) (by decide +kernel) rfl dX1_leastWelfareAmong_12 ?_
  refine cw_icmp_ge (tgt := 36) dX1_leastWelfareAmong_15 (by decide) (fun q => ?_) (fun q => ?_)
  · have h := h.1 q
    refine cw_iload_n dX1_leastWelfareAmong_36 2 rfl rfl ?_
    exact cw_iret rfl dX1_leastWelfareAmong_37 h
  · have h := h.2 q
    refine cw_iload_n dX1_leastWelfareAmong_18 2 rfl rfl ?_
    refine cw_aload_n dX1_leastWelfareAmong_19 0 rfl rfl ?_
    refine cw_aload_n dX1_leastWelfareAmong_20 1 rfl rfl ?_
    refine cw_iload_n dX1_leastWelfareAmong_21 3 rfl rfl ?_
    refine cw_iload_n dX1_leastWelfareAmong_22 3 rfl rfl ?_
    obtain ⟨v_23, J_23, hc_23, h⟩ := h
    refine cw_callV (o := 5) (As := [.ref (cw_a (cc_w K) 9), .int x3, .int x3]) hc_23 okX1_worthOfOwned rfl gX1_leastWelfareAmong_X1_worthOfOwned (by decide) (show 5 < 32 by decide) rfl (ci := 2) rfl rfl (Nat.le_of_ble_eq_true rfl) dX1_leastWelfareAmong_23 ?_
    refine cw_mmin (by decide +kernel) (by decide +kernel) (by decide +kernel) (by decide +kernel) ⟨by decide, Nat.le_of_ble_eq_true rfl⟩ dX1_leastWelfareAmong_26 ?_
    refine cw_istore_n dX1_leastWelfareAmong_29 rfl (by decide) rfl ?_
    refine cw_iinc (v := x3 + 1) dX1_leastWelfareAmong_30 (j := 3) rfl rfl (by decide) rfl ?_
    refine cw_goto (tgt := 10) dX1_leastWelfareAmong_33 (by decide) ?_
    refine cw_sub [2, 3, 1, 0] rfl ?_
    exact h
abbrev bX1_assign_5_9_3 (K : cw_K) (r : Option Value) (J0 : cw_M) (x2 : Int32) (x4 : Int32) (x5 : Int32) (I : cw_M) : Prop := cw_B (cc_w K) (cc_w K) mX1_assign (cw_Z (cc_w K) r J0) 0 0 0 0 I 3 [(1, .ref (cw_a (cc_w K) 9)), (2, .int x2), (4, .int x4), (5, .int x5)] []
set_option maxRecDepth 20000 in
set_option maxHeartbeats 4000000 in
theorem eX1_assign_5_9 {K : cw_K} {r : Option Value} {J0 I : cw_M} {x2 : Int32} {x3 : Int32} {x4 : Int32} (h : bX1_assign_5_9_3 K r J0 x2 x4 x3 I) : cw_C (cc_w K) mX1_assign [.ref (cw_a (cc_w K) 5), .ref (cw_a (cc_w K) 9), .int x2, .int x3, .int x4] I r J0 := by
  refine cw_entry okX1_assign (Nat.le_of_ble_eq_true rfl) (show cw_B (cc_w K) (cc_w K) mX1_assign (cw_Z (cc_w K) r J0) 0 0 0 0 I 0 [(0, .ref (cw_a (cc_w K) 5)), (1, .ref (cw_a (cc_w K) 9)), (2, .int x2), (3, .int x3), (4, .int x4)] [] from ?_)
  refine cw_iload_n dX1_assign_0 3 rfl rfl ?_
  refine cw_istore dX1_assign_1 (by decide) rfl ?_
  refine cw_sub [2, 3, 5, 0] rfl ?_
  exact h
set_option maxRecDepth 20000 in
set_option maxHeartbeats 4000000 in
theorem tbX1_assign_5_9_3 {K : cw_K} {r : Option Value} {J0 I : cw_M} {x2 : Int32} {x4 : Int32} {x5 : Int32} (h : ((x4 ≤ x5 → (r = none ∧ J0 = I)) ∧ (¬ x4 ≤ x5 → (vp_in x5 24 ∧ bX1_assign_5_9_3 K r J0 x2 x4 (x5 + 1) (cw_st I 9 x5.toNatClampNeg x2))))) : bX1_assign_5_9_3 K r J0 x2 x4 x5 I := by
  refine cw_iload dX1_assign_3 3 rfl ?_
  refine cw_iload dX1_assign_5 2 rfl ?_
  refine cw_icmp_ge (tgt := 21) dX1_assign_7 (by decide) (fun q => ?_) (fun q => ?_)
  · have h := h.1 q
    exact cw_vret rfl dX1_assign_21 h
  · have h := h.2 q
    refine cw_aload_n dX1_assign_10 0 rfl rfl ?_
    refine cw_iload dX1_assign_11 3 rfl ?_
    refine cw_iload_n dX1_assign_13 1 rfl rfl ?_
    obtain ⟨g_14, h⟩ := h
    refine cw_iast 9 (show 9 < 32 by decide) (fun _ => rfl) 0 rfl dX1_assign_14 g_14 ?_
    refine cw_iinc (v := x5 + 1) dX1_assign_15 (j := 3) rfl rfl (by decide) rfl ?_
    refine cw_goto (tgt := 3) dX1_assign_18 (by decide) ?_
    refine cw_sub [1, 2, 3, 0] rfl ?_
    exact h
abbrev bX1_putName_10_1_3 (K : cw_K) (r : Option Value) (J0 : cw_M) (x1 : Int32) (x3 : Int32) (x4 : Int32) (x5 : Int32) (I : cw_M) : Prop := cw_B (cc_w K) (cc_w K) mX1_putName (cw_Z (cc_w K) r J0) 0 0 0 0 I 3 [(0, .ref (cw_a (cc_w K) 10)), (1, .int x1), (2, .ref (cw_a (cc_w K) 1)), (3, .int x3), (4, .int x4), (5, .int x5)] []
set_option maxRecDepth 20000 in
set_option maxHeartbeats 4000000 in
theorem eX1_putName_10_1 {K : cw_K} {r : Option Value} {J0 I : cw_M} {x1 : Int32} {x3 : Int32} {x4 : Int32} (h : bX1_putName_10_1_3 K r J0 x1 x3 x4 0 I) : cw_C (cc_w K) mX1_putName [.ref (cw_a (cc_w K) 10), .int x1, .ref (cw_a (cc_w K) 1), .int x3, .int x4] I r J0 := by
  refine cw_entry okX1_putName (Nat.le_of_ble_eq_true rfl) (show cw_B (cc_w K) (cc_w K) mX1_putName (cw_Z (cc_w K) r J0) 0 0 0 0 I 0 [(0, .ref (cw_a (cc_w K) 10)), (1, .int x1), (2, .ref (cw_a (cc_w K) 1)), (3, .int x3), (4, .int x4)] [] from ?_)
  refine cw_iconst (v := 0) dX1_putName_0 (by decide) ?_
  refine cw_istore dX1_putName_1 (by decide) rfl ?_
  refine cw_sub [1, 2, 3, 4, 5, 0] rfl ?_
  exact h
set_option maxRecDepth 20000 in
set_option maxHeartbeats 4000000 in
theorem tbX1_putName_10_1_3 {K : cw_K} {r : Option Value} {J0 I : cw_M} {x1 : Int32} {x3 : Int32} {x4 : Int32} {x5 : Int32} (h : ((x4 ≤ x5 → (vp_in x1 6 ∧ (r = none ∧ J0 = cw_st I 12 x1.toNatClampNeg x4))) ∧ (¬ x4 ≤ x5 → (vp_in (x3 + x5) 600 ∧ (vp_in ((x1 * 6) + x5) 36 ∧ bX1_putName_10_1_3 K r J0 x1 x3 x4 (x5 + 1) (cw_st I 11 ((x1 * 6) + x5).toNatClampNeg (I 2 (x3 + x5).toNatClampNeg))))))) : bX1_putName_10_1_3 K r J0 x1 x3 x4 x5 I := by
  refine cw_iload dX1_putName_3 5 rfl ?_
  refine cw_iload dX1_putName_5 4 rfl ?_
  refine cw_icmp_ge (tgt := 37) dX1_putName_7 (by decide) (fun q => ?_) (fun q => ?_)
  · have h := h.1 q
    refine cw_aload_n dX1_putName_37 0 rfl rfl ?_
    refine cw_getf (C := RX1) (T := TX1) (N := 6) (ci := 2) inX1_putName_RX1 10 (show 10 < 32 by decide) rfl rfl 3 (by decide) (by decide +kernel) rfl dX1_putName_38 ?_
    refine cw_iload_n dX1_putName_41 1 rfl rfl ?_
    refine cw_iload dX1_putName_42 4 rfl ?_
    obtain ⟨g_44, h⟩ := h
    refine cw_iast 12 (show 12 < 32 by decide) (fun _ => rfl) 0 rfl dX1_putName_44 g_44 ?_
    exact cw_vret rfl dX1_putName_45 h
  · have h := h.2 q
    refine cw_aload_n dX1_putName_10 0 rfl rfl ?_
    refine cw_getf (C := RX1) (T := TX1) (N := 6) (ci := 2) inX1_putName_RX1 10 (show 10 < 32 by decide) rfl rfl 2 (by decide) (by decide +kernel) rfl dX1_putName_11 ?_
    refine cw_iload_n dX1_putName_14 1 rfl rfl ?_
    refine cw_bipush (v := 6) dX1_putName_15 (by decide) ?_
    refine cw_imul dX1_putName_17 ?_
    refine cw_iload dX1_putName_18 5 rfl ?_
    refine cw_iadd dX1_putName_20 ?_
    refine cw_aload_n dX1_putName_21 2 rfl rfl ?_
    refine cw_getf (C := RX8) (T := TX8) (N := 2) (ci := 9) inX1_putName_RX8 1 (show 1 < 32 by decide) rfl rfl 0 (by decide) (by decide +kernel) rfl dX1_putName_22 ?_
    refine cw_iload_n dX1_putName_25 3 rfl rfl ?_
    refine cw_iload dX1_putName_26 5 rfl ?_
    refine cw_iadd dX1_putName_28 ?_
    obtain ⟨g_29, h⟩ := h
    refine cw_iald 2 (show 2 < 32 by decide) rfl 0 rfl dX1_putName_29 g_29 ?_
    obtain ⟨g_30, h⟩ := h
    refine cw_iast 11 (show 11 < 32 by decide) (fun _ => rfl) 0 rfl dX1_putName_30 g_30 ?_
    refine cw_iinc (v := x5 + 1) dX1_putName_31 (j := 5) rfl rfl (by decide) rfl ?_
    refine cw_goto (tgt := 3) dX1_putName_34 (by decide) ?_
    refine cw_sub [1, 2, 3, 4, 5, 0] rfl ?_
    exact h
abbrev bX1_findName_10_1_3 (K : cw_K) (r : Option Value) (J0 : cw_M) (x2 : Int32) (x3 : Int32) (x4 : Int32) (I : cw_M) : Prop := cw_B (cc_w K) (cc_w K) mX1_findName (cw_Z (cc_w K) r J0) 0 0 0 0 I 3 [(0, .ref (cw_a (cc_w K) 10)), (1, .ref (cw_a (cc_w K) 1)), (2, .int x2), (3, .int x3), (4, .int x4)] []
set_option maxRecDepth 20000 in
set_option maxHeartbeats 4000000 in
theorem eX1_findName_10_1 {K : cw_K} {r : Option Value} {J0 I : cw_M} {x2 : Int32} {x3 : Int32} (h : bX1_findName_10_1_3 K r J0 x2 x3 0 I) : cw_C (cc_w K) mX1_findName [.ref (cw_a (cc_w K) 10), .ref (cw_a (cc_w K) 1), .int x2, .int x3] I r J0 := by
  refine cw_entry okX1_findName (Nat.le_of_ble_eq_true rfl) (show cw_B (cc_w K) (cc_w K) mX1_findName (cw_Z (cc_w K) r J0) 0 0 0 0 I 0 [(0, .ref (cw_a (cc_w K) 10)), (1, .ref (cw_a (cc_w K) 1)), (2, .int x2), (3, .int x3)] [] from ?_)
  refine cw_iconst (v := 0) dX1_findName_0 (by decide) ?_
  refine cw_istore dX1_findName_1 (by decide) rfl ?_
  refine cw_sub [1, 2, 3, 4, 0] rfl ?_
  exact h
set_option maxRecDepth 20000 in
set_option maxHeartbeats 4000000 in
theorem tbX1_findName_10_1_3 {K : cw_K} {r : Option Value} {J0 I : cw_M} {x2 : Int32} {x3 : Int32} {x4 : Int32} (h : (((I 10 1) ≤ x4 → (r = some (.int (-1)) ∧ J0 = I)) ∧ (¬ (I 10 1) ≤ x4 → (∃ (v_18 : Int32) (J_18 : cw_M), cw_C (cc_w K) mX1_isName [.ref (cw_a (cc_w K) 10), .int x4, .ref (cw_a (cc_w K) 1), .int x2, .int x3] I (some (.int v_18)) J_18 ∧ ((v_18 = 0 → bX1_findName_10_1_3 K r J0 x2 x3 (x4 + 1) J_18) ∧ (¬ v_18 = 0 → (r = some (.int x4) ∧ J0 = J_18))))))) : bX1_findName_10_1_3 K r J0 x2 x3 x4 I := by
  refine cw_iload dX1_findName_3 4 rfl ?_
  refine cw_aload_n dX1_findName_5 0 rfl rfl ?_
  refine cw_getf (C := RX1) (T := TX1) (N := 6) (ci := 2) inX1_findName_RX1 10 (show 10 < 32 by decide) rfl rfl 1 (by decide) (by decide +kernel) rfl dX1_findName_6 ?_
  refine cw_icmp_ge (tgt := 33) dX1_findName_9 (by decide) (fun q => ?_) (fun q => ?_)
  · have h := h.1 q
    refine cw_iconst (v := (-1)) dX1_findName_33 (by decide) ?_
    exact cw_iret rfl dX1_findName_34 h
  · have h := h.2 q
    refine cw_aload_n dX1_findName_12 0 rfl rfl ?_
    refine cw_iload dX1_findName_13 4 rfl ?_
    refine cw_aload_n dX1_findName_15 1 rfl rfl ?_
    refine cw_iload_n dX1_findName_16 2 rfl rfl ?_
    refine cw_iload_n dX1_findName_17 3 rfl rfl ?_
    obtain ⟨v_18, J_18, hc_18, h⟩ := h
    refine cw_callV (o := 10) (As := [.int x4, .ref (cw_a (cc_w K) 1), .int x2, .int x3]) hc_18 okX1_isName rfl gX1_findName_X1_isName (by decide) (show 10 < 32 by decide) rfl (ci := 2) rfl rfl (Nat.le_of_ble_eq_true rfl) dX1_findName_18 ?_
    refine cw_if_eq (tgt := 27) dX1_findName_21 (by decide) (fun q => ?_) (fun q => ?_)
    · have h := h.1 q
      refine cw_iinc (v := x4 + 1) dX1_findName_27 (j := 4) rfl rfl (by decide) rfl ?_
      refine cw_goto (tgt := 3) dX1_findName_30 (by decide) ?_
      refine cw_sub [1, 2, 3, 4, 0] rfl ?_
      exact h
    · have h := h.2 q
      refine cw_iload dX1_findName_24 4 rfl ?_
      exact cw_iret rfl dX1_findName_26 h
set_option maxRecDepth 20000 in
set_option maxHeartbeats 4000000 in
theorem eX1_become_5_10 {K : cw_K} {r : Option Value} {J0 I : cw_M} (h : ((¬ (0 : Int32) < 0 ∧ ¬ (0 : Int32) < 0 ∧ ¬ (36 : Int32) < 0 ∧ (0 : Int32).toNatClampNeg + (36 : Int32).toNatClampNeg ≤ 36 ∧ (0 : Int32).toNatClampNeg + (36 : Int32).toNatClampNeg ≤ 36) ∧ ((¬ (0 : Int32) < 0 ∧ ¬ (0 : Int32) < 0 ∧ ¬ (6 : Int32) < 0 ∧ (0 : Int32).toNatClampNeg + (6 : Int32).toNatClampNeg ≤ 6 ∧ (0 : Int32).toNatClampNeg + (6 : Int32).toNatClampNeg ≤ 6) ∧ ((¬ (0 : Int32) < 0 ∧ ¬ (0 : Int32) < 0 ∧ ¬ (144 : Int32) < 0 ∧ (0 : Int32).toNatClampNeg + (144 : Int32).toNatClampNeg ≤ 144 ∧ (0 : Int32).toNatClampNeg + (144 : Int32).toNatClampNeg ≤ 144) ∧ (∃ J_81 : cw_M, cw_C (cc_w K) mX1_assign [.ref (cw_a (cc_w K) 5), .ref (cw_a (cc_w K) 9), .int (-1), .int 0, .int ((cw_up (cw_up (cw_up (cw_st (cw_st I 5 0 (I 10 0)) 5 1 ((cw_st I 5 0 (I 10 0)) 10 1)) 6 (va_cpy ((cw_st (cw_st I 5 0 (I 10 0)) 5 1 ((cw_st I 5 0 (I 10 0)) 10 1)) 11) ((cw_st (cw_st I 5 0 (I 10 0)) 5 1 ((cw_st I 5 0 (I 10 0)) 10 1)) 6) (0 : Int32).toNatClampNeg (0 : Int32).toNatClampNeg (36 : Int32).toNatClampNeg)) 7 (va_cpy ((cw_up (cw_st (cw_st I 5 0 (I 10 0)) 5 1 ((cw_st I 5 0 (I 10 0)) 10 1)) 6 (va_cpy ((cw_st (cw_st I 5 0 (I 10 0)) 5 1 ((cw_st I 5 0 (I 10 0)) 10 1)) 11) ((cw_st (cw_st I 5 0 (I 10 0)) 5 1 ((cw_st I 5 0 (I 10 0)) 10 1)) 6) (0 : Int32).toNatClampNeg (0 : Int32).toNatClampNeg (36 : Int32).toNatClampNeg)) 12) ((cw_up (cw_st (cw_st I 5 0 (I 10 0)) 5 1 ((cw_st I 5 0 (I 10 0)) 10 1)) 6 (va_cpy ((cw_st (cw_st I 5 0 (I 10 0)) 5 1 ((cw_st I 5 0 (I 10 0)) 10 1)) 11) ((cw_st (cw_st I 5 0 (I 10 0)) 5 1 ((cw_st I 5 0 (I 10 0)) 10 1)) 6) (0 : Int32).toNatClampNeg (0 : Int32).toNatClampNeg (36 : Int32).toNatClampNeg)) 7) (0 : Int32).toNatClampNeg (0 : Int32).toNatClampNeg (6 : Int32).toNatClampNeg)) 8 (va_cpy ((cw_up (cw_up (cw_st (cw_st I 5 0 (I 10 0)) 5 1 ((cw_st I 5 0 (I 10 0)) 10 1)) 6 (va_cpy ((cw_st (cw_st I 5 0 (I 10 0)) 5 1 ((cw_st I 5 0 (I 10 0)) 10 1)) 11) ((cw_st (cw_st I 5 0 (I 10 0)) 5 1 ((cw_st I 5 0 (I 10 0)) 10 1)) 6) (0 : Int32).toNatClampNeg (0 : Int32).toNatClampNeg (36 : Int32).toNatClampNeg)) 7 (va_cpy ((cw_up (cw_st (cw_st I 5 0 (I 10 0)) 5 1 ((cw_st I 5 0 (I 10 0)) 10 1)) 6 (va_cpy ((cw_st (cw_st I 5 0 (I 10 0)) 5 1 ((cw_st I 5 0 (I 10 0)) 10 1)) 11) ((cw_st (cw_st I 5 0 (I 10 0)) 5 1 ((cw_st I 5 0 (I 10 0)) 10 1)) 6) (0 : Int32).toNatClampNeg (0 : Int32).toNatClampNeg (36 : Int32).toNatClampNeg)) 12) ((cw_up (cw_st (cw_st I 5 0 (I 10 0)) 5 1 ((cw_st I 5 0 (I 10 0)) 10 1)) 6 (va_cpy ((cw_st (cw_st I 5 0 (I 10 0)) 5 1 ((cw_st I 5 0 (I 10 0)) 10 1)) 11) ((cw_st (cw_st I 5 0 (I 10 0)) 5 1 ((cw_st I 5 0 (I 10 0)) 10 1)) 6) (0 : Int32).toNatClampNeg (0 : Int32).toNatClampNeg (36 : Int32).toNatClampNeg)) 7) (0 : Int32).toNatClampNeg (0 : Int32).toNatClampNeg (6 : Int32).toNatClampNeg)) 13) ((cw_up (cw_up (cw_st (cw_st I 5 0 (I 10 0)) 5 1 ((cw_st I 5 0 (I 10 0)) 10 1)) 6 (va_cpy ((cw_st (cw_st I 5 0 (I 10 0)) 5 1 ((cw_st I 5 0 (I 10 0)) 10 1)) 11) ((cw_st (cw_st I 5 0 (I 10 0)) 5 1 ((cw_st I 5 0 (I 10 0)) 10 1)) 6) (0 : Int32).toNatClampNeg (0 : Int32).toNatClampNeg (36 : Int32).toNatClampNeg)) 7 (va_cpy ((cw_up (cw_st (cw_st I 5 0 (I 10 0)) 5 1 ((cw_st I 5 0 (I 10 0)) 10 1)) 6 (va_cpy ((cw_st (cw_st I 5 0 (I 10 0)) 5 1 ((cw_st I 5 0 (I 10 0)) 10 1)) 11) ((cw_st (cw_st I 5 0 (I 10 0)) 5 1 ((cw_st I 5 0 (I 10 0)) 10 1)) 6) (0 : Int32).toNatClampNeg (0 : Int32).toNatClampNeg (36 : Int32).toNatClampNeg)) 12) ((cw_up (cw_st (cw_st I 5 0 (I 10 0)) 5 1 ((cw_st I 5 0 (I 10 0)) 10 1)) 6 (va_cpy ((cw_st (cw_st I 5 0 (I 10 0)) 5 1 ((cw_st I 5 0 (I 10 0)) 10 1)) 11) ((cw_st (cw_st I 5 0 (I 10 0)) 5 1 ((cw_st I 5 0 (I 10 0)) 10 1)) 6) (0 : Int32).toNatClampNeg (0 : Int32).toNatClampNeg (36 : Int32).toNatClampNeg)) 7) (0 : Int32).toNatClampNeg (0 : Int32).toNatClampNeg (6 : Int32).toNatClampNeg)) 8) (0 : Int32).toNatClampNeg (0 : Int32).toNatClampNeg (144 : Int32).toNatClampNeg)) 5 0)] (cw_up (cw_up (cw_up (cw_st (cw_st I 5 0 (I 10 0)) 5 1 ((cw_st I 5 0 (I 10 0)) 10 1)) 6 (va_cpy ((cw_st (cw_st I 5 0 (I 10 0)) 5 1 ((cw_st I 5 0 (I 10 0)) 10 1)) 11) ((cw_st (cw_st I 5 0 (I 10 0)) 5 1 ((cw_st I 5 0 (I 10 0)) 10 1)) 6) (0 : Int32).toNatClampNeg (0 : Int32).toNatClampNeg (36 : Int32).toNatClampNeg)) 7 (va_cpy ((cw_up (cw_st (cw_st I 5 0 (I 10 0)) 5 1 ((cw_st I 5 0 (I 10 0)) 10 1)) 6 (va_cpy ((cw_st (cw_st I 5 0 (I 10 0)) 5 1 ((cw_st I 5 0 (I 10 0)) 10 1)) 11) ((cw_st (cw_st I 5 0 (I 10 0)) 5 1 ((cw_st I 5 0 (I 10 0)) 10 1)) 6) (0 : Int32).toNatClampNeg (0 : Int32).toNatClampNeg (36 : Int32).toNatClampNeg)) 12) ((cw_up (cw_st (cw_st I 5 0 (I 10 0)) 5 1 ((cw_st I 5 0 (I 10 0)) 10 1)) 6 (va_cpy ((cw_st (cw_st I 5 0 (I 10 0)) 5 1 ((cw_st I 5 0 (I 10 0)) 10 1)) 11) ((cw_st (cw_st I 5 0 (I 10 0)) 5 1 ((cw_st I 5 0 (I 10 0)) 10 1)) 6) (0 : Int32).toNatClampNeg (0 : Int32).toNatClampNeg (36 : Int32).toNatClampNeg)) 7) (0 : Int32).toNatClampNeg (0 : Int32).toNatClampNeg (6 : Int32).toNatClampNeg)) 8 (va_cpy ((cw_up (cw_up (cw_st (cw_st I 5 0 (I 10 0)) 5 1 ((cw_st I 5 0 (I 10 0)) 10 1)) 6 (va_cpy ((cw_st (cw_st I 5 0 (I 10 0)) 5 1 ((cw_st I 5 0 (I 10 0)) 10 1)) 11) ((cw_st (cw_st I 5 0 (I 10 0)) 5 1 ((cw_st I 5 0 (I 10 0)) 10 1)) 6) (0 : Int32).toNatClampNeg (0 : Int32).toNatClampNeg (36 : Int32).toNatClampNeg)) 7 (va_cpy ((cw_up (cw_st (cw_st I 5 0 (I 10 0)) 5 1 ((cw_st I 5 0 (I 10 0)) 10 1)) 6 (va_cpy ((cw_st (cw_st I 5 0 (I 10 0)) 5 1 ((cw_st I 5 0 (I 10 0)) 10 1)) 11) ((cw_st (cw_st I 5 0 (I 10 0)) 5 1 ((cw_st I 5 0 (I 10 0)) 10 1)) 6) (0 : Int32).toNatClampNeg (0 : Int32).toNatClampNeg (36 : Int32).toNatClampNeg)) 12) ((cw_up (cw_st (cw_st I 5 0 (I 10 0)) 5 1 ((cw_st I 5 0 (I 10 0)) 10 1)) 6 (va_cpy ((cw_st (cw_st I 5 0 (I 10 0)) 5 1 ((cw_st I 5 0 (I 10 0)) 10 1)) 11) ((cw_st (cw_st I 5 0 (I 10 0)) 5 1 ((cw_st I 5 0 (I 10 0)) 10 1)) 6) (0 : Int32).toNatClampNeg (0 : Int32).toNatClampNeg (36 : Int32).toNatClampNeg)) 7) (0 : Int32).toNatClampNeg (0 : Int32).toNatClampNeg (6 : Int32).toNatClampNeg)) 13) ((cw_up (cw_up (cw_st (cw_st I 5 0 (I 10 0)) 5 1 ((cw_st I 5 0 (I 10 0)) 10 1)) 6 (va_cpy ((cw_st (cw_st I 5 0 (I 10 0)) 5 1 ((cw_st I 5 0 (I 10 0)) 10 1)) 11) ((cw_st (cw_st I 5 0 (I 10 0)) 5 1 ((cw_st I 5 0 (I 10 0)) 10 1)) 6) (0 : Int32).toNatClampNeg (0 : Int32).toNatClampNeg (36 : Int32).toNatClampNeg)) 7 (va_cpy ((cw_up (cw_st (cw_st I 5 0 (I 10 0)) 5 1 ((cw_st I 5 0 (I 10 0)) 10 1)) 6 (va_cpy ((cw_st (cw_st I 5 0 (I 10 0)) 5 1 ((cw_st I 5 0 (I 10 0)) 10 1)) 11) ((cw_st (cw_st I 5 0 (I 10 0)) 5 1 ((cw_st I 5 0 (I 10 0)) 10 1)) 6) (0 : Int32).toNatClampNeg (0 : Int32).toNatClampNeg (36 : Int32).toNatClampNeg)) 12) ((cw_up (cw_st (cw_st I 5 0 (I 10 0)) 5 1 ((cw_st I 5 0 (I 10 0)) 10 1)) 6 (va_cpy ((cw_st (cw_st I 5 0 (I 10 0)) 5 1 ((cw_st I 5 0 (I 10 0)) 10 1)) 11) ((cw_st (cw_st I 5 0 (I 10 0)) 5 1 ((cw_st I 5 0 (I 10 0)) 10 1)) 6) (0 : Int32).toNatClampNeg (0 : Int32).toNatClampNeg (36 : Int32).toNatClampNeg)) 7) (0 : Int32).toNatClampNeg (0 : Int32).toNatClampNeg (6 : Int32).toNatClampNeg)) 8) (0 : Int32).toNatClampNeg (0 : Int32).toNatClampNeg (144 : Int32).toNatClampNeg)) none J_81 ∧ (r = none ∧ J0 = J_81)))))) : cw_C (cc_w K) mX1_become [.ref (cw_a (cc_w K) 5), .ref (cw_a (cc_w K) 10)] I r J0 := by
  refine cw_entry okX1_become (Nat.le_of_ble_eq_true rfl) (show cw_B (cc_w K) (cc_w K) mX1_become (cw_Z (cc_w K) r J0) 0 0 0 0 I 0 [(0, .ref (cw_a (cc_w K) 5)), (1, .ref (cw_a (cc_w K) 10))] [] from ?_)
  refine cw_aload_n dX1_become_0 0 rfl rfl ?_
  refine cw_aload_n dX1_become_1 1 rfl rfl ?_
  refine cw_getf (C := RX1) (T := TX1) (N := 6) (ci := 2) inX1_become_RX1 10 (show 10 < 32 by decide) rfl rfl 0 (by decide) (by decide +kernel) rfl dX1_become_2 ?_
  refine cw_putf (C := RX1) (T := TX1) (N := 6) (ci := 2) inX1_become_RX1 tyX1 tyX1_ok nmX1 5 (show 5 < 32 by decide) rfl rfl 0 (by decide) (by decide +kernel) rfl rfl (show 0 < 6 by decide) rfl dX1_become_5 ?_
  refine cw_aload_n dX1_become_8 0 rfl rfl ?_
  refine cw_aload_n dX1_become_9 1 rfl rfl ?_
  refine cw_getf (C := RX1) (T := TX1) (N := 6) (ci := 2) inX1_become_RX1 10 (show 10 < 32 by decide) rfl rfl 1 (by decide) (by decide +kernel) rfl dX1_become_10 ?_
  refine cw_putf (C := RX1) (T := TX1) (N := 6) (ci := 2) inX1_become_RX1 tyX1 tyX1_ok nmX1 5 (show 5 < 32 by decide) rfl rfl 1 (by decide) (by decide +kernel) rfl rfl (show 1 < 6 by decide) rfl dX1_become_13 ?_
  refine cw_aload_n dX1_become_16 1 rfl rfl ?_
  refine cw_getf (C := RX1) (T := TX1) (N := 6) (ci := 2) inX1_become_RX1 10 (show 10 < 32 by decide) rfl rfl 2 (by decide) (by decide +kernel) rfl dX1_become_17 ?_
  refine cw_iconst (v := 0) dX1_become_20 (by decide) ?_
  refine cw_aload_n dX1_become_21 0 rfl rfl ?_
  refine cw_getf (C := RX1) (T := TX1) (N := 6) (ci := 2) inX1_become_RX1 5 (show 5 < 32 by decide) rfl rfl 2 (by decide) (by decide +kernel) rfl dX1_become_22 ?_
  refine cw_iconst (v := 0) dX1_become_25 (by decide) ?_
  refine cw_aload_n dX1_become_26 0 rfl rfl ?_
  refine cw_getf (C := RX1) (T := TX1) (N := 6) (ci := 2) inX1_become_RX1 5 (show 5 < 32 by decide) rfl rfl 2 (by decide) (by decide +kernel) rfl dX1_become_27 ?_
  refine cw_alen (v := 36) 6 (show 6 < 32 by decide) rfl 0 rfl rfl dX1_become_30 ?_
  obtain ⟨g_31, h⟩ := h
  refine cw_copyi (by decide +kernel) (by decide +kernel) (by decide +kernel) (by decide +kernel) 11 6 (show 11 < 32 by decide) (show 6 < 32 by decide) rfl (fun _ => rfl) 0 rfl g_31 ⟨by decide, Nat.le_of_ble_eq_true rfl⟩ dX1_become_31 ?_
  refine cw_aload_n dX1_become_34 1 rfl rfl ?_
  refine cw_getf (C := RX1) (T := TX1) (N := 6) (ci := 2) inX1_become_RX1 10 (show 10 < 32 by decide) rfl rfl 3 (by decide) (by decide +kernel) rfl dX1_become_35 ?_
  refine cw_iconst (v := 0) dX1_become_38 (by decide) ?_
  refine cw_aload_n dX1_become_39 0 rfl rfl ?_
  refine cw_getf (C := RX1) (T := TX1) (N := 6) (ci := 2) inX1_become_RX1 5 (show 5 < 32 by decide) rfl rfl 3 (by decide) (by decide +kernel) rfl dX1_become_40 ?_
  refine cw_iconst (v := 0) dX1_become_43 (by decide) ?_
  refine cw_aload_n dX1_become_44 0 rfl rfl ?_
  refine cw_getf (C := RX1) (T := TX1) (N := 6) (ci := 2) inX1_become_RX1 5 (show 5 < 32 by decide) rfl rfl 3 (by decide) (by decide +kernel) rfl dX1_become_45 ?_
  refine cw_alen (v := 6) 7 (show 7 < 32 by decide) rfl 0 rfl rfl dX1_become_48 ?_
  obtain ⟨g_49, h⟩ := h
  refine cw_copyi (by decide +kernel) (by decide +kernel) (by decide +kernel) (by decide +kernel) 12 7 (show 12 < 32 by decide) (show 7 < 32 by decide) rfl (fun _ => rfl) 0 rfl g_49 ⟨by decide, Nat.le_of_ble_eq_true rfl⟩ dX1_become_49 ?_
  refine cw_aload_n dX1_become_52 1 rfl rfl ?_
  refine cw_getf (C := RX1) (T := TX1) (N := 6) (ci := 2) inX1_become_RX1 10 (show 10 < 32 by decide) rfl rfl 4 (by decide) (by decide +kernel) rfl dX1_become_53 ?_
  refine cw_iconst (v := 0) dX1_become_56 (by decide) ?_
  refine cw_aload_n dX1_become_57 0 rfl rfl ?_
  refine cw_getf (C := RX1) (T := TX1) (N := 6) (ci := 2) inX1_become_RX1 5 (show 5 < 32 by decide) rfl rfl 4 (by decide) (by decide +kernel) rfl dX1_become_58 ?_
  refine cw_iconst (v := 0) dX1_become_61 (by decide) ?_
  refine cw_aload_n dX1_become_62 0 rfl rfl ?_
  refine cw_getf (C := RX1) (T := TX1) (N := 6) (ci := 2) inX1_become_RX1 5 (show 5 < 32 by decide) rfl rfl 4 (by decide) (by decide +kernel) rfl dX1_become_63 ?_
  refine cw_alen (v := 144) 8 (show 8 < 32 by decide) rfl 0 rfl rfl dX1_become_66 ?_
  obtain ⟨g_67, h⟩ := h
  refine cw_copyi (by decide +kernel) (by decide +kernel) (by decide +kernel) (by decide +kernel) 13 8 (show 13 < 32 by decide) (show 8 < 32 by decide) rfl (fun _ => rfl) 0 rfl g_67 ⟨by decide, Nat.le_of_ble_eq_true rfl⟩ dX1_become_67 ?_
  refine cw_aload_n dX1_become_70 0 rfl rfl ?_
  refine cw_aload_n dX1_become_71 0 rfl rfl ?_
  refine cw_getf (C := RX1) (T := TX1) (N := 6) (ci := 2) inX1_become_RX1 5 (show 5 < 32 by decide) rfl rfl 5 (by decide) (by decide +kernel) rfl dX1_become_72 ?_
  refine cw_iconst (v := (-1)) dX1_become_75 (by decide) ?_
  refine cw_iconst (v := 0) dX1_become_76 (by decide) ?_
  refine cw_aload_n dX1_become_77 0 rfl rfl ?_
  refine cw_getf (C := RX1) (T := TX1) (N := 6) (ci := 2) inX1_become_RX1 5 (show 5 < 32 by decide) rfl rfl 0 (by decide) (by decide +kernel) rfl dX1_become_78 ?_
  obtain ⟨J_81, hc_81, h⟩ := h
  refine cw_callV (o := 5) (As := [.ref (cw_a (cc_w K) 9), .int (-1), .int 0, .int ((cw_up (cw_up (cw_up (cw_st (cw_st I 5 0 (I 10 0)) 5 1 ((cw_st I 5 0 (I 10 0)) 10 1)) 6 (va_cpy ((cw_st (cw_st I 5 0 (I 10 0)) 5 1 ((cw_st I 5 0 (I 10 0)) 10 1)) 11) ((cw_st (cw_st I 5 0 (I 10 0)) 5 1 ((cw_st I 5 0 (I 10 0)) 10 1)) 6) (0 : Int32).toNatClampNeg (0 : Int32).toNatClampNeg (36 : Int32).toNatClampNeg)) 7 (va_cpy ((cw_up (cw_st (cw_st I 5 0 (I 10 0)) 5 1 ((cw_st I 5 0 (I 10 0)) 10 1)) 6 (va_cpy ((cw_st (cw_st I 5 0 (I 10 0)) 5 1 ((cw_st I 5 0 (I 10 0)) 10 1)) 11) ((cw_st (cw_st I 5 0 (I 10 0)) 5 1 ((cw_st I 5 0 (I 10 0)) 10 1)) 6) (0 : Int32).toNatClampNeg (0 : Int32).toNatClampNeg (36 : Int32).toNatClampNeg)) 12) ((cw_up (cw_st (cw_st I 5 0 (I 10 0)) 5 1 ((cw_st I 5 0 (I 10 0)) 10 1)) 6 (va_cpy ((cw_st (cw_st I 5 0 (I 10 0)) 5 1 ((cw_st I 5 0 (I 10 0)) 10 1)) 11) ((cw_st (cw_st I 5 0 (I 10 0)) 5 1 ((cw_st I 5 0 (I 10 0)) 10 1)) 6) (0 : Int32).toNatClampNeg (0 : Int32).toNatClampNeg (36 : Int32).toNatClampNeg)) 7) (0 : Int32).toNatClampNeg (0 : Int32).toNatClampNeg (6 : Int32).toNatClampNeg)) 8 (va_cpy ((cw_up (cw_up (cw_st (cw_st I 5 0 (I 10 0)) 5 1 ((cw_st I 5 0 (I 10 0)) 10 1)) 6 (va_cpy ((cw_st (cw_st I 5 0 (I 10 0)) 5 1 ((cw_st I 5 0 (I 10 0)) 10 1)) 11) ((cw_st (cw_st I 5 0 (I 10 0)) 5 1 ((cw_st I 5 0 (I 10 0)) 10 1)) 6) (0 : Int32).toNatClampNeg (0 : Int32).toNatClampNeg (36 : Int32).toNatClampNeg)) 7 (va_cpy ((cw_up (cw_st (cw_st I 5 0 (I 10 0)) 5 1 ((cw_st I 5 0 (I 10 0)) 10 1)) 6 (va_cpy ((cw_st (cw_st I 5 0 (I 10 0)) 5 1 ((cw_st I 5 0 (I 10 0)) 10 1)) 11) ((cw_st (cw_st I 5 0 (I 10 0)) 5 1 ((cw_st I 5 0 (I 10 0)) 10 1)) 6) (0 : Int32).toNatClampNeg (0 : Int32).toNatClampNeg (36 : Int32).toNatClampNeg)) 12) ((cw_up (cw_st (cw_st I 5 0 (I 10 0)) 5 1 ((cw_st I 5 0 (I 10 0)) 10 1)) 6 (va_cpy ((cw_st (cw_st I 5 0 (I 10 0)) 5 1 ((cw_st I 5 0 (I 10 0)) 10 1)) 11) ((cw_st (cw_st I 5 0 (I 10 0)) 5 1 ((cw_st I 5 0 (I 10 0)) 10 1)) 6) (0 : Int32).toNatClampNeg (0 : Int32).toNatClampNeg (36 : Int32).toNatClampNeg)) 7) (0 : Int32).toNatClampNeg (0 : Int32).toNatClampNeg (6 : Int32).toNatClampNeg)) 13) ((cw_up (cw_up (cw_st (cw_st I 5 0 (I 10 0)) 5 1 ((cw_st I 5 0 (I 10 0)) 10 1)) 6 (va_cpy ((cw_st (cw_st I 5 0 (I 10 0)) 5 1 ((cw_st I 5 0 (I 10 0)) 10 1)) 11) ((cw_st (cw_st I 5 0 (I 10 0)) 5 1 ((cw_st I 5 0 (I 10 0)) 10 1)) 6) (0 : Int32).toNatClampNeg (0 : Int32).toNatClampNeg (36 : Int32).toNatClampNeg)) 7 (va_cpy ((cw_up (cw_st (cw_st I 5 0 (I 10 0)) 5 1 ((cw_st I 5 0 (I 10 0)) 10 1)) 6 (va_cpy ((cw_st (cw_st I 5 0 (I 10 0)) 5 1 ((cw_st I 5 0 (I 10 0)) 10 1)) 11) ((cw_st (cw_st I 5 0 (I 10 0)) 5 1 ((cw_st I 5 0 (I 10 0)) 10 1)) 6) (0 : Int32).toNatClampNeg (0 : Int32).toNatClampNeg (36 : Int32).toNatClampNeg)) 12) ((cw_up (cw_st (cw_st I 5 0 (I 10 0)) 5 1 ((cw_st I 5 0 (I 10 0)) 10 1)) 6 (va_cpy ((cw_st (cw_st I 5 0 (I 10 0)) 5 1 ((cw_st I 5 0 (I 10 0)) 10 1)) 11) ((cw_st (cw_st I 5 0 (I 10 0)) 5 1 ((cw_st I 5 0 (I 10 0)) 10 1)) 6) (0 : Int32).toNatClampNeg (0 : Int32).toNatClampNeg (36 : Int32).toNatClampNeg)) 7) (0 : Int32).toNatClampNeg (0 : Int32).toNatClampNeg (6 : Int32).toNatClampNeg)) 8) (0 : Int32).toNatClampNeg (0 : Int32).toNatClampNeg (144 : Int32).toNatClampNeg)) 5 0)]) hc_81 okX1_assign rfl gX1_become_X1_assign (by decide) (show 5 < 32 by decide) rfl (ci := 2) rfl rfl (Nat.le_of_ble_eq_true rfl) dX1_become_81 ?_
  exact cw_vret rfl dX1_become_84 h
set_option maxRecDepth 20000 in
set_option maxHeartbeats 4000000 in
theorem eX8_add_1 {K : cw_K} {r : Option Value} {J0 I : cw_M} {x1 : Int32} (h : ((600 ≤ (I 1 1) → (r = none ∧ J0 = I)) ∧ (¬ 600 ≤ (I 1 1) → (vp_in (I 1 1) 600 ∧ (r = none ∧ J0 = cw_st (cw_st I 2 (I 1 1).toNatClampNeg x1) 1 1 (((cw_st I 2 (I 1 1).toNatClampNeg x1) 1 1) + 1)))))) : cw_C (cc_w K) mX8_add [.ref (cw_a (cc_w K) 1), .int x1] I r J0 := by
  refine cw_entry okX8_add (Nat.le_of_ble_eq_true rfl) (show cw_B (cc_w K) (cc_w K) mX8_add (cw_Z (cc_w K) r J0) 0 0 0 0 I 0 [(0, .ref (cw_a (cc_w K) 1)), (1, .int x1)] [] from ?_)
  refine cw_aload_n dX8_add_0 0 rfl rfl ?_
  refine cw_getf (C := RX8) (T := TX8) (N := 2) (ci := 9) inX8_add_RX8 1 (show 1 < 32 by decide) rfl rfl 1 (by decide) (by decide +kernel) rfl dX8_add_1 ?_
  refine cw_sipush (v := 600) dX8_add_4 (by decide) ?_
  refine cw_icmp_ge (tgt := 30) dX8_add_7 (by decide) (fun q => ?_) (fun q => ?_)
  · have h := h.1 q
    exact cw_vret rfl dX8_add_30 h
  · have h := h.2 q
    refine cw_aload_n dX8_add_10 0 rfl rfl ?_
    refine cw_getf (C := RX8) (T := TX8) (N := 2) (ci := 9) inX8_add_RX8 1 (show 1 < 32 by decide) rfl rfl 0 (by decide) (by decide +kernel) rfl dX8_add_11 ?_
    refine cw_aload_n dX8_add_14 0 rfl rfl ?_
    refine cw_getf (C := RX8) (T := TX8) (N := 2) (ci := 9) inX8_add_RX8 1 (show 1 < 32 by decide) rfl rfl 1 (by decide) (by decide +kernel) rfl dX8_add_15 ?_
    refine cw_iload_n dX8_add_18 1 rfl rfl ?_
    obtain ⟨g_19, h⟩ := h
    refine cw_iast 2 (show 2 < 32 by decide) (fun _ => rfl) 0 rfl dX8_add_19 g_19 ?_
    refine cw_aload_n dX8_add_20 0 rfl rfl ?_
    refine cw_dup dX8_add_21 rfl ?_
    refine cw_getf (C := RX8) (T := TX8) (N := 2) (ci := 9) inX8_add_RX8 1 (show 1 < 32 by decide) rfl rfl 1 (by decide) (by decide +kernel) rfl dX8_add_22 ?_
    refine cw_iconst (v := 1) dX8_add_25 (by decide) ?_
    refine cw_iadd dX8_add_26 ?_
    refine cw_putf (C := RX8) (T := TX8) (N := 2) (ci := 9) inX8_add_RX8 tyX8 tyX8_ok nmX8 1 (show 1 < 32 by decide) rfl rfl 1 (by decide) (by decide +kernel) rfl rfl (show 1 < 2 by decide) rfl dX8_add_27 ?_
    exact cw_vret rfl dX8_add_30 h
abbrev bX8_addFourBytes_1_3 (K : cw_K) (r : Option Value) (J0 : cw_M) (x1 : Int32) (x2 : Int32) (I : cw_M) : Prop := cw_B (cc_w K) (cc_w K) mX8_addFourBytes (cw_Z (cc_w K) r J0) 0 0 0 0 I 3 [(0, .ref (cw_a (cc_w K) 1)), (1, .int x1), (2, .int x2)] []
set_option maxRecDepth 20000 in
set_option maxHeartbeats 4000000 in
theorem eX8_addFourBytes_1 {K : cw_K} {r : Option Value} {J0 I : cw_M} {x1 : Int32} (h : bX8_addFourBytes_1_3 K r J0 x1 24 I) : cw_C (cc_w K) mX8_addFourBytes [.ref (cw_a (cc_w K) 1), .int x1] I r J0 := by
  refine cw_entry okX8_addFourBytes (Nat.le_of_ble_eq_true rfl) (show cw_B (cc_w K) (cc_w K) mX8_addFourBytes (cw_Z (cc_w K) r J0) 0 0 0 0 I 0 [(0, .ref (cw_a (cc_w K) 1)), (1, .int x1)] [] from ?_)
  refine cw_bipush (v := 24) dX8_addFourBytes_0 (by decide) ?_
  refine cw_istore_n dX8_addFourBytes_2 rfl (by decide) rfl ?_
  refine cw_sub [1, 2, 0] rfl ?_
  exact h
set_option maxRecDepth 20000 in
set_option maxHeartbeats 4000000 in
theorem tbX8_addFourBytes_1_3 {K : cw_K} {r : Option Value} {J0 I : cw_M} {x1 : Int32} {x2 : Int32} (h : ((x2 < 0 → (r = none ∧ J0 = I)) ∧ (¬ x2 < 0 → (∃ J_15 : cw_M, cw_C (cc_w K) mX8_add [.ref (cw_a (cc_w K) 1), .int ((x1 >>> (x2 &&& 31)) &&& 255)] I none J_15 ∧ bX8_addFourBytes_1_3 K r J0 x1 (x2 + (-8)) J_15)))) : bX8_addFourBytes_1_3 K r J0 x1 x2 I := by
  refine cw_iload_n dX8_addFourBytes_3 2 rfl rfl ?_
  refine cw_if_lt (tgt := 24) dX8_addFourBytes_4 (by decide) (fun q => ?_) (fun q => ?_)
  · have h := h.1 q
    exact cw_vret rfl dX8_addFourBytes_24 h
  · have h := h.2 q
    refine cw_aload_n dX8_addFourBytes_7 0 rfl rfl ?_
    refine cw_iload_n dX8_addFourBytes_8 1 rfl rfl ?_
    refine cw_iload_n dX8_addFourBytes_9 2 rfl rfl ?_
    refine cw_ishr dX8_addFourBytes_10 ?_
    refine cw_sipush (v := 255) dX8_addFourBytes_11 (by decide) ?_
    refine cw_iand dX8_addFourBytes_14 ?_
    obtain ⟨J_15, hc_15, h⟩ := h
    refine cw_callV (o := 1) (As := [.int ((x1 >>> (x2 &&& 31)) &&& 255)]) hc_15 okX8_add rfl gX8_addFourBytes_X8_add (by decide) (show 1 < 32 by decide) rfl (ci := 9) rfl rfl (Nat.le_of_ble_eq_true rfl) dX8_addFourBytes_15 ?_
    refine cw_iinc (v := x2 + (-8)) dX8_addFourBytes_18 (j := 2) rfl rfl (by decide) rfl ?_
    refine cw_goto (tgt := 3) dX8_addFourBytes_21 (by decide) ?_
    refine cw_sub [1, 2, 0] rfl ?_
    exact h
set_option maxRecDepth 20000 in
set_option maxHeartbeats 4000000 in
theorem eX4_rememberForUndo_28_5 {K : cw_K} {r : Option Value} {J0 I : cw_M} (h : (∃ J_6 : cw_M, cw_C (cc_w K) mX4_keep [.ref (cw_a (cc_w K) 28), .int (I 28 2), .ref (cw_a (cc_w K) 5)] I none J_6 ∧ ((6 ≤ ((J_6 28 2) + 1) → (r = none ∧ J0 = cw_st (cw_st J_6 28 2 0) 28 0 (if (6 : Int32) < (((cw_st J_6 28 2 0) 28 0) + 1) then (6 : Int32) else (((cw_st J_6 28 2 0) 28 0) + 1)))) ∧ (¬ 6 ≤ ((J_6 28 2) + 1) → (r = none ∧ J0 = cw_st (cw_st J_6 28 2 ((J_6 28 2) + 1)) 28 0 (if (6 : Int32) < (((cw_st J_6 28 2 ((J_6 28 2) + 1)) 28 0) + 1) then (6 : Int32) else (((cw_st J_6 28 2 ((J_6 28 2) + 1)) 28 0) + 1))))))) : cw_C (cc_w K) mX4_rememberForUndo [.ref (cw_a (cc_w K) 28), .ref (cw_a (cc_w K) 5)] I r J0 := by
  refine cw_entry okX4_rememberForUndo (Nat.le_of_ble_eq_true rfl) (show cw_B (cc_w K) (cc_w K) mX4_rememberForUndo (cw_Z (cc_w K) r J0) 0 0 0 0 I 0 [(0, .ref (cw_a (cc_w K) 28)), (1, .ref (cw_a (cc_w K) 5))] [] from ?_)
  refine cw_aload_n dX4_rememberForUndo_0 0 rfl rfl ?_
  refine cw_aload_n dX4_rememberForUndo_1 0 rfl rfl ?_
  refine cw_getf (C := RX4) (T := TX4) (N := 5) (ci := 5) inX4_rememberForUndo_RX4 28 (show 28 < 32 by decide) rfl rfl 2 (by decide) (by decide +kernel) rfl dX4_rememberForUndo_2 ?_
  refine cw_aload_n dX4_rememberForUndo_5 1 rfl rfl ?_
  obtain ⟨J_6, hc_6, h⟩ := h
  refine cw_callV (o := 28) (As := [.int (I 28 2), .ref (cw_a (cc_w K) 5)]) hc_6 okX4_keep rfl gX4_rememberForUndo_X4_keep (by decide) (show 28 < 32 by decide) rfl (ci := 5) rfl rfl (Nat.le_of_ble_eq_true rfl) dX4_rememberForUndo_6 ?_
  refine cw_aload_n dX4_rememberForUndo_9 0 rfl rfl ?_
  refine cw_aload_n dX4_rememberForUndo_10 0 rfl rfl ?_
  refine cw_getf (C := RX4) (T := TX4) (N := 5) (ci := 5) inX4_rememberForUndo_RX4 28 (show 28 < 32 by decide) rfl rfl 2 (by decide) (by decide +kernel) rfl dX4_rememberForUndo_11 ?_
  refine cw_iconst (v := 1) dX4_rememberForUndo_14 (by decide) ?_
  refine cw_iadd dX4_rememberForUndo_15 ?_
  refine cw_bipush (v := 6) dX4_rememberForUndo_16 (by decide) ?_
  refine cw_icmp_ge (tgt := 30) dX4_rememberForUndo_18 (by decide) (fun q => ?_) (fun q => ?_)
  · have h := h.1 q
    refine cw_iconst (v := 0) dX4_rememberForUndo_30 (by decide) ?_
    refine cw_putf (C := RX4) (T := TX4) (N := 5) (ci := 5) inX4_rememberForUndo_RX4 tyX4 tyX4_ok nmX4 28 (show 28 < 32 by decide) rfl rfl 2 (by decide) (by decide +kernel) rfl rfl (show 2 < 5 by decide) rfl dX4_rememberForUndo_31 ?_
    refine cw_aload_n dX4_rememberForUndo_34 0 rfl rfl ?_
    refine cw_aload_n dX4_rememberForUndo_35 0 rfl rfl ?_
    refine cw_getf (C := RX4) (T := TX4) (N := 5) (ci := 5) inX4_rememberForUndo_RX4 28 (show 28 < 32 by decide) rfl rfl 0 (by decide) (by decide +kernel) rfl dX4_rememberForUndo_36 ?_
    refine cw_iconst (v := 1) dX4_rememberForUndo_39 (by decide) ?_
    refine cw_iadd dX4_rememberForUndo_40 ?_
    refine cw_bipush (v := 6) dX4_rememberForUndo_41 (by decide) ?_
    refine cw_mmin (by decide +kernel) (by decide +kernel) (by decide +kernel) (by decide +kernel) ⟨by decide, Nat.le_of_ble_eq_true rfl⟩ dX4_rememberForUndo_43 ?_
    refine cw_putf (C := RX4) (T := TX4) (N := 5) (ci := 5) inX4_rememberForUndo_RX4 tyX4 tyX4_ok nmX4 28 (show 28 < 32 by decide) rfl rfl 0 (by decide) (by decide +kernel) rfl rfl (show 0 < 5 by decide) rfl dX4_rememberForUndo_46 ?_
    exact cw_vret rfl dX4_rememberForUndo_49 h
  · have h := h.2 q
    refine cw_aload_n dX4_rememberForUndo_21 0 rfl rfl ?_
    refine cw_getf (C := RX4) (T := TX4) (N := 5) (ci := 5) inX4_rememberForUndo_RX4 28 (show 28 < 32 by decide) rfl rfl 2 (by decide) (by decide +kernel) rfl dX4_rememberForUndo_22 ?_
    refine cw_iconst (v := 1) dX4_rememberForUndo_25 (by decide) ?_
    refine cw_iadd dX4_rememberForUndo_26 ?_
    refine cw_goto (tgt := 31) dX4_rememberForUndo_27 (by decide) ?_
    refine cw_putf (C := RX4) (T := TX4) (N := 5) (ci := 5) inX4_rememberForUndo_RX4 tyX4 tyX4_ok nmX4 28 (show 28 < 32 by decide) rfl rfl 2 (by decide) (by decide +kernel) rfl rfl (show 2 < 5 by decide) rfl dX4_rememberForUndo_31 ?_
    refine cw_aload_n dX4_rememberForUndo_34 0 rfl rfl ?_
    refine cw_aload_n dX4_rememberForUndo_35 0 rfl rfl ?_
    refine cw_getf (C := RX4) (T := TX4) (N := 5) (ci := 5) inX4_rememberForUndo_RX4 28 (show 28 < 32 by decide) rfl rfl 0 (by decide) (by decide +kernel) rfl dX4_rememberForUndo_36 ?_
    refine cw_iconst (v := 1) dX4_rememberForUndo_39 (by decide) ?_
    refine cw_iadd dX4_rememberForUndo_40 ?_
    refine cw_bipush (v := 6) dX4_rememberForUndo_41 (by decide) ?_
    refine cw_mmin (by decide +kernel) (by decide +kernel) (by decide +kernel) (by decide +kernel) ⟨by decide, Nat.le_of_ble_eq_true rfl⟩ dX4_rememberForUndo_43 ?_
    refine cw_putf (C := RX4) (T := TX4) (N := 5) (ci := 5) inX4_rememberForUndo_RX4 tyX4 tyX4_ok nmX4 28 (show 28 < 32 by decide) rfl rfl 0 (by decide) (by decide +kernel) rfl rfl (show 0 < 5 by decide) rfl dX4_rememberForUndo_46 ?_
    exact cw_vret rfl dX4_rememberForUndo_49 h
abbrev bX4_forgetAll_28_7 (K : cw_K) (r : Option Value) (J0 : cw_M) (x1 : Int32) (I : cw_M) : Prop := cw_B (cc_w K) (cc_w K) mX4_forgetAll (cw_Z (cc_w K) r J0) 0 0 0 0 I 7 [(0, .ref (cw_a (cc_w K) 28)), (1, .int x1)] []
set_option maxRecDepth 20000 in
set_option maxHeartbeats 4000000 in
theorem eX4_forgetAll_28 {K : cw_K} {r : Option Value} {J0 I : cw_M} (h : bX4_forgetAll_28_7 K r J0 0 (cw_st I 28 0 0)) : cw_C (cc_w K) mX4_forgetAll [.ref (cw_a (cc_w K) 28)] I r J0 := by
  refine cw_entry okX4_forgetAll (Nat.le_of_ble_eq_true rfl) (show cw_B (cc_w K) (cc_w K) mX4_forgetAll (cw_Z (cc_w K) r J0) 0 0 0 0 I 0 [(0, .ref (cw_a (cc_w K) 28))] [] from ?_)
  refine cw_aload_n dX4_forgetAll_0 0 rfl rfl ?_
  refine cw_iconst (v := 0) dX4_forgetAll_1 (by decide) ?_
  refine cw_putf (C := RX4) (T := TX4) (N := 5) (ci := 5) inX4_forgetAll_RX4 tyX4 tyX4_ok nmX4 28 (show 28 < 32 by decide) rfl rfl 0 (by decide) (by decide +kernel) rfl rfl (show 0 < 5 by decide) rfl dX4_forgetAll_2 ?_
  refine cw_iconst (v := 0) dX4_forgetAll_5 (by decide) ?_
  refine cw_istore_n dX4_forgetAll_6 rfl (by decide) rfl ?_
  refine cw_sub [1, 0] rfl ?_
  exact h
set_option maxRecDepth 20000 in
set_option maxHeartbeats 4000000 in
theorem tbX4_forgetAll_28_7 {K : cw_K} {r : Option Value} {J0 I : cw_M} {x1 : Int32} (h : ((2 ≤ x1 → (r = none ∧ J0 = I)) ∧ (¬ 2 ≤ x1 → (vp_in x1 2 ∧ bX4_forgetAll_28_7 K r J0 (x1 + 1) (cw_st I 29 x1.toNatClampNeg (vp_nar .boolean 0)))))) : bX4_forgetAll_28_7 K r J0 x1 I := by
  refine cw_iload_n dX4_forgetAll_7 1 rfl rfl ?_
  refine cw_iconst (v := 2) dX4_forgetAll_8 (by decide) ?_
  refine cw_icmp_ge (tgt := 25) dX4_forgetAll_9 (by decide) (fun q => ?_) (fun q => ?_)
  · have h := h.1 q
    exact cw_vret rfl dX4_forgetAll_25 h
  · have h := h.2 q
    refine cw_aload_n dX4_forgetAll_12 0 rfl rfl ?_
    refine cw_getf (C := RX4) (T := TX4) (N := 5) (ci := 5) inX4_forgetAll_RX4 28 (show 28 < 32 by decide) rfl rfl 1 (by decide) (by decide +kernel) rfl dX4_forgetAll_13 ?_
    refine cw_iload_n dX4_forgetAll_16 1 rfl rfl ?_
    refine cw_iconst (v := 0) dX4_forgetAll_17 (by decide) ?_
    obtain ⟨g_18, h⟩ := h
    refine cw_zast 29 (show 29 < 32 by decide) (fun _ => rfl) 1 rfl dX4_forgetAll_18 g_18 ?_
    refine cw_iinc (v := x1 + 1) dX4_forgetAll_19 (j := 1) rfl rfl (by decide) rfl ?_
    refine cw_goto (tgt := 7) dX4_forgetAll_22 (by decide) ?_
    refine cw_sub [1, 0] rfl ?_
    exact h
abbrev bX1_isName_10_1_16 (K : cw_K) (r : Option Value) (J0 : cw_M) (x1 : Int32) (x3 : Int32) (x4 : Int32) (x5 : Int32) (I : cw_M) : Prop := cw_B (cc_w K) (cc_w K) mX1_isName (cw_Z (cc_w K) r J0) 0 0 0 0 I 16 [(0, .ref (cw_a (cc_w K) 10)), (1, .int x1), (2, .ref (cw_a (cc_w K) 1)), (3, .int x3), (4, .int x4), (5, .int x5)] []
set_option maxRecDepth 20000 in
set_option maxHeartbeats 4000000 in
theorem eX1_isName_10_1 {K : cw_K} {r : Option Value} {J0 I : cw_M} {x1 : Int32} {x3 : Int32} {x4 : Int32} (h : (vp_in x1 6 ∧ (((I 12 x1.toNatClampNeg) = x4 → bX1_isName_10_1_16 K r J0 x1 x3 x4 0 I) ∧ (¬ (I 12 x1.toNatClampNeg) = x4 → (r = some (.int 0) ∧ J0 = I))))) : cw_C (cc_w K) mX1_isName [.ref (cw_a (cc_w K) 10), .int x1, .ref (cw_a (cc_w K) 1), .int x3, .int x4] I r J0 := by
  refine cw_entry okX1_isName (Nat.le_of_ble_eq_true rfl) (show cw_B (cc_w K) (cc_w K) mX1_isName (cw_Z (cc_w K) r J0) 0 0 0 0 I 0 [(0, .ref (cw_a (cc_w K) 10)), (1, .int x1), (2, .ref (cw_a (cc_w K) 1)), (3, .int x3), (4, .int x4)] [] from ?_)
  refine cw_aload_n dX1_isName_0 0 rfl rfl ?_
  refine cw_getf (C := RX1) (T := TX1) (N := 6) (ci := 2) inX1_isName_RX1 10 (show 10 < 32 by decide) rfl rfl 3 (by decide) (by decide +kernel) rfl dX1_isName_1 ?_
  refine cw_iload_n dX1_isName_4 1 rfl rfl ?_
  obtain ⟨g_5, h⟩ := h
  refine cw_iald 12 (show 12 < 32 by decide) rfl 0 rfl dX1_isName_5 g_5 ?_
  refine cw_iload dX1_isName_6 4 rfl ?_
  refine cw_icmp_eq (tgt := 13) dX1_isName_8 (by decide) (fun q => ?_) (fun q => ?_)
  · have h := h.1 q
    refine cw_iconst (v := 0) dX1_isName_13 (by decide) ?_
    refine cw_istore dX1_isName_14 (by decide) rfl ?_
    refine cw_sub [1, 2, 3, 4, 5, 0] rfl ?_
    exact h
  · have h := h.2 q
    refine cw_iconst (v := 0) dX1_isName_11 (by decide) ?_
    exact cw_bret rfl dX1_isName_12 (by decide) h
set_option maxRecDepth 20000 in
set_option maxHeartbeats 4000000 in
theorem tbX1_isName_10_1_16 {K : cw_K} {r : Option Value} {J0 I : cw_M} {x1 : Int32} {x3 : Int32} {x4 : Int32} {x5 : Int32} (h : ((x4 ≤ x5 → (r = some (.int 1) ∧ J0 = I)) ∧ (¬ x4 ≤ x5 → (vp_in ((x1 * 6) + x5) 36 ∧ (vp_in (x3 + x5) 600 ∧ (((I 11 ((x1 * 6) + x5).toNatClampNeg) = (I 2 (x3 + x5).toNatClampNeg) → bX1_isName_10_1_16 K r J0 x1 x3 x4 (x5 + 1) I) ∧ (¬ (I 11 ((x1 * 6) + x5).toNatClampNeg) = (I 2 (x3 + x5).toNatClampNeg) → (r = some (.int 0) ∧ J0 = I)))))))) : bX1_isName_10_1_16 K r J0 x1 x3 x4 x5 I := by
  refine cw_iload dX1_isName_16 5 rfl ?_
  refine cw_iload dX1_isName_18 4 rfl ?_
  refine cw_icmp_ge (tgt := 55) dX1_isName_20 (by decide) (fun q => ?_) (fun q => ?_)
  · have h := h.1 q
    refine cw_iconst (v := 1) dX1_isName_55 (by decide) ?_
    exact cw_bret rfl dX1_isName_56 (by decide) h
  · have h := h.2 q
    refine cw_aload_n dX1_isName_23 0 rfl rfl ?_
    refine cw_getf (C := RX1) (T := TX1) (N := 6) (ci := 2) inX1_isName_RX1 10 (show 10 < 32 by decide) rfl rfl 2 (by decide) (by decide +kernel) rfl dX1_isName_24 ?_
    refine cw_iload_n dX1_isName_27 1 rfl rfl ?_
    refine cw_bipush (v := 6) dX1_isName_28 (by decide) ?_
    refine cw_imul dX1_isName_30 ?_
    refine cw_iload dX1_isName_31 5 rfl ?_
    refine cw_iadd dX1_isName_33 ?_
    obtain ⟨g_34, h⟩ := h
    refine cw_iald 11 (show 11 < 32 by decide) rfl 0 rfl dX1_isName_34 g_34 ?_
    refine cw_aload_n dX1_isName_35 2 rfl rfl ?_
    refine cw_getf (C := RX8) (T := TX8) (N := 2) (ci := 9) inX1_isName_RX8 1 (show 1 < 32 by decide) rfl rfl 0 (by decide) (by decide +kernel) rfl dX1_isName_36 ?_
    refine cw_iload_n dX1_isName_39 3 rfl rfl ?_
    refine cw_iload dX1_isName_40 5 rfl ?_
    refine cw_iadd dX1_isName_42 ?_
    obtain ⟨g_43, h⟩ := h
    refine cw_iald 2 (show 2 < 32 by decide) rfl 0 rfl dX1_isName_43 g_43 ?_
    refine cw_icmp_eq (tgt := 49) dX1_isName_44 (by decide) (fun q => ?_) (fun q => ?_)
    · have h := h.1 q
      refine cw_iinc (v := x5 + 1) dX1_isName_49 (j := 5) rfl rfl (by decide) rfl ?_
      refine cw_goto (tgt := 16) dX1_isName_52 (by decide) ?_
      refine cw_sub [1, 2, 3, 4, 5, 0] rfl ?_
      exact h
    · have h := h.2 q
      refine cw_iconst (v := 0) dX1_isName_47 (by decide) ?_
      exact cw_bret rfl dX1_isName_48 (by decide) h
set_option maxRecDepth 20000 in
set_option maxHeartbeats 4000000 in
theorem eX4_keep_28_5 {K : cw_K} {r : Option Value} {J0 I : cw_M} {x1 : Int32} (h : ((¬ (0 : Int32) < 0 ∧ ¬ (x1 * 24) < 0 ∧ ¬ (24 : Int32) < 0 ∧ (0 : Int32).toNatClampNeg + (24 : Int32).toNatClampNeg ≤ 24 ∧ (x1 * 24).toNatClampNeg + (24 : Int32).toNatClampNeg ≤ 192) ∧ ((¬ (0 : Int32) < 0 ∧ ¬ (x1 * 144) < 0 ∧ ¬ (144 : Int32) < 0 ∧ (0 : Int32).toNatClampNeg + (144 : Int32).toNatClampNeg ≤ 144 ∧ (x1 * 144).toNatClampNeg + (144 : Int32).toNatClampNeg ≤ 1152) ∧ (r = none ∧ J0 = cw_up (cw_up I 30 (va_cpy (I 9) (I 30) (0 : Int32).toNatClampNeg (x1 * 24).toNatClampNeg (24 : Int32).toNatClampNeg)) 31 (va_cpy ((cw_up I 30 (va_cpy (I 9) (I 30) (0 : Int32).toNatClampNeg (x1 * 24).toNatClampNeg (24 : Int32).toNatClampNeg)) 8) ((cw_up I 30 (va_cpy (I 9) (I 30) (0 : Int32).toNatClampNeg (x1 * 24).toNatClampNeg (24 : Int32).toNatClampNeg)) 31) (0 : Int32).toNatClampNeg (x1 * 144).toNatClampNeg (144 : Int32).toNatClampNeg))))) : cw_C (cc_w K) mX4_keep [.ref (cw_a (cc_w K) 28), .int x1, .ref (cw_a (cc_w K) 5)] I r J0 := by
  refine cw_entry okX4_keep (Nat.le_of_ble_eq_true rfl) (show cw_B (cc_w K) (cc_w K) mX4_keep (cw_Z (cc_w K) r J0) 0 0 0 0 I 0 [(0, .ref (cw_a (cc_w K) 28)), (1, .int x1), (2, .ref (cw_a (cc_w K) 5))] [] from ?_)
  refine cw_aload_n dX4_keep_0 2 rfl rfl ?_
  refine cw_getf (C := RX1) (T := TX1) (N := 6) (ci := 2) inX4_keep_RX1 5 (show 5 < 32 by decide) rfl rfl 5 (by decide) (by decide +kernel) rfl dX4_keep_1 ?_
  refine cw_iconst (v := 0) dX4_keep_4 (by decide) ?_
  refine cw_aload_n dX4_keep_5 0 rfl rfl ?_
  refine cw_getf (C := RX4) (T := TX4) (N := 5) (ci := 5) inX4_keep_RX4 28 (show 28 < 32 by decide) rfl rfl 3 (by decide) (by decide +kernel) rfl dX4_keep_6 ?_
  refine cw_iload_n dX4_keep_9 1 rfl rfl ?_
  refine cw_bipush (v := 24) dX4_keep_10 (by decide) ?_
  refine cw_imul dX4_keep_12 ?_
  refine cw_bipush (v := 24) dX4_keep_13 (by decide) ?_
  obtain ⟨g_15, h⟩ := h
  refine cw_copyi (by decide +kernel) (by decide +kernel) (by decide +kernel) (by decide +kernel) 9 30 (show 9 < 32 by decide) (show 30 < 32 by decide) rfl (fun _ => rfl) 0 rfl g_15 ⟨by decide, Nat.le_of_ble_eq_true rfl⟩ dX4_keep_15 ?_
  refine cw_aload_n dX4_keep_18 2 rfl rfl ?_
  refine cw_getf (C := RX1) (T := TX1) (N := 6) (ci := 2) inX4_keep_RX1 5 (show 5 < 32 by decide) rfl rfl 4 (by decide) (by decide +kernel) rfl dX4_keep_19 ?_
  refine cw_iconst (v := 0) dX4_keep_22 (by decide) ?_
  refine cw_aload_n dX4_keep_23 0 rfl rfl ?_
  refine cw_getf (C := RX4) (T := TX4) (N := 5) (ci := 5) inX4_keep_RX4 28 (show 28 < 32 by decide) rfl rfl 4 (by decide) (by decide +kernel) rfl dX4_keep_24 ?_
  refine cw_iload_n dX4_keep_27 1 rfl rfl ?_
  refine cw_sipush (v := 144) dX4_keep_28 (by decide) ?_
  refine cw_imul dX4_keep_31 ?_
  refine cw_sipush (v := 144) dX4_keep_32 (by decide) ?_
  obtain ⟨g_35, h⟩ := h
  refine cw_copyi (by decide +kernel) (by decide +kernel) (by decide +kernel) (by decide +kernel) 8 31 (show 8 < 32 by decide) (show 31 < 32 by decide) rfl (fun _ => rfl) 0 rfl g_35 ⟨by decide, Nat.le_of_ble_eq_true rfl⟩ dX4_keep_35 ?_
  exact cw_vret rfl dX4_keep_38 h
