/-! Blocks of Fairness, Procedures, laid by gen.py. -/
theorem inX3_hasEnvy_RX1 : ∀ x ∈ u_ws RX1 TX1 6, x ∈ wsX3_hasEnvy := by decide +kernel
theorem inX3_hasEnvy_RX3 : ∀ x ∈ u_ws RX3 TX3 4, x ∈ wsX3_hasEnvy := by decide +kernel
theorem inX3_hasStrongEnvy_RX1 : ∀ x ∈ u_ws RX1 TX1 6, x ∈ wsX3_hasStrongEnvy := by decide +kernel
theorem inX3_hasStrongEnvy_RX3 : ∀ x ∈ u_ws RX3 TX3 4, x ∈ wsX3_hasStrongEnvy := by decide +kernel
theorem inX3_countEnvies_RX1 : ∀ x ∈ u_ws RX1 TX1 6, x ∈ wsX3_countEnvies := by decide +kernel
theorem inX3_countEnvies_RX3 : ∀ x ∈ u_ws RX3 TX3 4, x ∈ wsX3_countEnvies := by decide +kernel
theorem inX3_countStrongEnvies_RX1 : ∀ x ∈ u_ws RX1 TX1 6, x ∈ wsX3_countStrongEnvies := by decide +kernel
theorem inX3_countStrongEnvies_RX3 : ∀ x ∈ u_ws RX3 TX3 4, x ∈ wsX3_countStrongEnvies := by decide +kernel
theorem inX3_hasFairShare_RX1 : ∀ x ∈ u_ws RX1 TX1 6, x ∈ wsX3_hasFairShare := by decide +kernel
theorem inX3_hasFairShare_RX3 : ∀ x ∈ u_ws RX3 TX3 4, x ∈ wsX3_hasFairShare := by decide +kernel
theorem inX3_countFairShares_RX1 : ∀ x ∈ u_ws RX1 TX1 6, x ∈ wsX3_countFairShares := by decide +kernel
theorem inX3_countFairShares_RX3 : ∀ x ∈ u_ws RX3 TX3 4, x ∈ wsX3_countFairShares := by decide +kernel
theorem inX3_findCycle_RX3 : ∀ x ∈ u_ws RX3 TX3 4, x ∈ wsX3_findCycle := by decide +kernel
theorem inX3_rotateThrough_RX1 : ∀ x ∈ u_ws RX1 TX1 6, x ∈ wsX3_rotateThrough := by decide +kernel
theorem inX3_rotateThrough_RX3 : ∀ x ∈ u_ws RX3 TX3 4, x ∈ wsX3_rotateThrough := by decide +kernel
theorem inX6_markOf_RX1 : ∀ x ∈ u_ws RX1 TX1 6, x ∈ wsX6_markOf := by decide +kernel
theorem inX6_markOf_RX6 : ∀ x ∈ u_ws RX6 TX6 2, x ∈ wsX6_markOf := by decide +kernel
theorem inX6_cutOf_RX1 : ∀ x ∈ u_ws RX1 TX1 6, x ∈ wsX6_cutOf := by decide +kernel
theorem inX6_cutOf_RX6 : ∀ x ∈ u_ws RX6 TX6 2, x ∈ wsX6_cutOf := by decide +kernel
theorem inX6_cutAndChoose_RX1 : ∀ x ∈ u_ws RX1 TX1 6, x ∈ wsX6_cutAndChoose := by decide +kernel
theorem inX6_cutAndChoose_RX6 : ∀ x ∈ u_ws RX6 TX6 2, x ∈ wsX6_cutAndChoose := by decide +kernel
theorem inX6_favouriteOf_RX1 : ∀ x ∈ u_ws RX1 TX1 6, x ∈ wsX6_favouriteOf := by decide +kernel
theorem inX6_favouriteOf_RX6 : ∀ x ∈ u_ws RX6 TX6 2, x ∈ wsX6_favouriteOf := by decide +kernel
theorem inX6_divideByKnife_RX1 : ∀ x ∈ u_ws RX1 TX1 6, x ∈ wsX6_divideByKnife := by decide +kernel
theorem inX6_divideByKnife_RX6 : ∀ x ∈ u_ws RX6 TX6 2, x ∈ wsX6_divideByKnife := by decide +kernel
theorem inX6_divideByRobin_RX1 : ∀ x ∈ u_ws RX1 TX1 6, x ∈ wsX6_divideByRobin := by decide +kernel
theorem inX6_divideByRobin_RX6 : ∀ x ∈ u_ws RX6 TX6 2, x ∈ wsX6_divideByRobin := by decide +kernel
theorem inX3_dearestOwned_RX1 : ∀ x ∈ u_ws RX1 TX1 6, x ∈ wsX3_dearestOwned := by decide +kernel
theorem inX3_dearestOwned_RX3 : ∀ x ∈ u_ws RX3 TX3 4, x ∈ wsX3_dearestOwned := by decide +kernel
theorem inX3_countEnviers_RX1 : ∀ x ∈ u_ws RX1 TX1 6, x ∈ wsX3_countEnviers := by decide +kernel
theorem inX3_countEnviers_RX3 : ∀ x ∈ u_ws RX3 TX3 4, x ∈ wsX3_countEnviers := by decide +kernel
theorem inX3_firstEnviedAt_RX1 : ∀ x ∈ u_ws RX1 TX1 6, x ∈ wsX3_firstEnviedAt := by decide +kernel
theorem inX3_firstEnviedAt_RX3 : ∀ x ∈ u_ws RX3 TX3 4, x ∈ wsX3_firstEnviedAt := by decide +kernel
theorem inX3_measureDistances_RX1 : ∀ x ∈ u_ws RX1 TX1 6, x ∈ wsX3_measureDistances := by decide +kernel
theorem inX3_measureDistances_RX3 : ∀ x ∈ u_ws RX3 TX3 4, x ∈ wsX3_measureDistances := by decide +kernel
theorem inX3_measureWorths_RX1 : ∀ x ∈ u_ws RX1 TX1 6, x ∈ wsX3_measureWorths := by decide +kernel
theorem inX3_measureWorths_RX3 : ∀ x ∈ u_ws RX3 TX3 4, x ∈ wsX3_measureWorths := by decide +kernel
theorem inX3_shortestWayRound_RX1 : ∀ x ∈ u_ws RX1 TX1 6, x ∈ wsX3_shortestWayRound := by decide +kernel
theorem inX3_shortestWayRound_RX3 : ∀ x ∈ u_ws RX3 TX3 4, x ∈ wsX3_shortestWayRound := by decide +kernel
theorem inX3_ownerAfterRotation_RX3 : ∀ x ∈ u_ws RX3 TX3 4, x ∈ wsX3_ownerAfterRotation := by decide +kernel
theorem inX6_firstToCall_RX1 : ∀ x ∈ u_ws RX1 TX1 6, x ∈ wsX6_firstToCall := by decide +kernel
theorem inX6_firstToCall_RX6 : ∀ x ∈ u_ws RX6 TX6 2, x ∈ wsX6_firstToCall := by decide +kernel
theorem inX6_firstWaiting_RX1 : ∀ x ∈ u_ws RX1 TX1 6, x ∈ wsX6_firstWaiting := by decide +kernel
theorem inX6_firstWaiting_RX6 : ∀ x ∈ u_ws RX6 TX6 2, x ∈ wsX6_firstWaiting := by decide +kernel
set_option maxRecDepth 20000 in
set_option maxHeartbeats 4000000 in
theorem eX3_hasEnvy_16 {K : cw_K} {r : Option Value} {J0 I : cw_M} {x1 : Int32} {x2 : Int32} (h : (∃ (v_13 : Int32) (J_13 : cw_M), cw_C (cc_w K) mX1_worthOfOwned [.ref (cw_a (cc_w K) 5), .ref (cw_a (cc_w K) 9), .int x1, .int x1] I (some (.int v_13)) J_13 ∧ (∃ (v_30 : Int32) (J_30 : cw_M), cw_C (cc_w K) mX1_worthOfOwned [.ref (cw_a (cc_w K) 5), .ref (cw_a (cc_w K) 9), .int x1, .int x2] J_13 (some (.int v_30)) J_30 ∧ ((v_30 ≤ v_13 → (r = some (.int 0) ∧ J0 = J_30)) ∧ (¬ v_30 ≤ v_13 → (r = some (.int 1) ∧ J0 = J_30)))))) : cw_C (cc_w K) mX3_hasEnvy [.ref (cw_a (cc_w K) 16), .int x1, .int x2] I r J0 := by
  refine cw_entry okX3_hasEnvy (Nat.le_of_ble_eq_true rfl) (show cw_B (cc_w K) (cc_w K) mX3_hasEnvy (cw_Z (cc_w K) r J0) 0 0 0 0 I 0 [(0, .ref (cw_a (cc_w K) 16)), (1, .int x1), (2, .int x2)] [] from ?_)
  refine cw_aload_n dX3_hasEnvy_0 0 rfl rfl ?_
  refine cw_getf (C := RX3) (T := TX3) (N := 4) (ci := 4) inX3_hasEnvy_RX3 16 (show 16 < 32 by decide) rfl rfl 3 (by decide) (by decide +kernel) rfl dX3_hasEnvy_1 ?_
  refine cw_aload_n dX3_hasEnvy_4 0 rfl rfl ?_
  refine cw_getf (C := RX3) (T := TX3) (N := 4) (ci := 4) inX3_hasEnvy_RX3 16 (show 16 < 32 by decide) rfl rfl 3 (by decide) (by decide +kernel) rfl dX3_hasEnvy_5 ?_
  refine cw_getf (C := RX1) (T := TX1) (N := 6) (ci := 2) inX3_hasEnvy_RX1 5 (show 5 < 32 by decide) rfl rfl 5 (by decide) (by decide +kernel) rfl dX3_hasEnvy_8 ?_
  refine cw_iload_n dX3_hasEnvy_11 1 rfl rfl ?_
  refine cw_iload_n dX3_hasEnvy_12 1 rfl rfl ?_
  obtain ⟨v_13, J_13, hc_13, h⟩ := h
  refine cw_callV (o := 5) (As := [.ref (cw_a (cc_w K) 9), .int x1, .int x1]) hc_13 okX1_worthOfOwned rfl gX3_hasEnvy_X1_worthOfOwned (by decide) (show 5 < 32 by decide) rfl (ci := 2) rfl rfl (Nat.le_of_ble_eq_true rfl) dX3_hasEnvy_13 ?_
  refine cw_istore_n dX3_hasEnvy_16 rfl (by decide) rfl ?_
  refine cw_aload_n dX3_hasEnvy_17 1 rfl rfl ?_
  refine cw_getf (C := RX3) (T := TX3) (N := 4) (ci := 4) inX3_hasEnvy_RX3 16 (show 16 < 32 by decide) rfl rfl 3 (by decide) (by decide +kernel) rfl dX3_hasEnvy_18 ?_
  refine cw_aload_n dX3_hasEnvy_21 1 rfl rfl ?_
  refine cw_getf (C := RX3) (T := TX3) (N := 4) (ci := 4) inX3_hasEnvy_RX3 16 (show 16 < 32 by decide) rfl rfl 3 (by decide) (by decide +kernel) rfl dX3_hasEnvy_22 ?_
  refine cw_getf (C := RX1) (T := TX1) (N := 6) (ci := 2) inX3_hasEnvy_RX1 5 (show 5 < 32 by decide) rfl rfl 5 (by decide) (by decide +kernel) rfl dX3_hasEnvy_25 ?_
  refine cw_iload_n dX3_hasEnvy_28 2 rfl rfl ?_
  refine cw_iload_n dX3_hasEnvy_29 3 rfl rfl ?_
  obtain ⟨v_30, J_30, hc_30, h⟩ := h
  refine cw_callV (o := 5) (As := [.ref (cw_a (cc_w K) 9), .int x1, .int x2]) hc_30 okX1_worthOfOwned rfl gX3_hasEnvy_X1_worthOfOwned (by decide) (show 5 < 32 by decide) rfl (ci := 2) rfl rfl (Nat.le_of_ble_eq_true rfl) dX3_hasEnvy_30 ?_
  refine cw_iload_n dX3_hasEnvy_33 0 rfl rfl ?_
  refine cw_icmp_le (tgt := 41) dX3_hasEnvy_34 (by decide) (fun q => ?_) (fun q => ?_)
  · have h := h.1 q
    refine cw_iconst (v := 0) dX3_hasEnvy_41 (by decide) ?_
    exact cw_bret rfl dX3_hasEnvy_42 (by decide) h
  · have h := h.2 q
    refine cw_iconst (v := 1) dX3_hasEnvy_37 (by decide) ?_
    refine cw_goto (tgt := 42) dX3_hasEnvy_38 (by decide) ?_
    exact cw_bret rfl dX3_hasEnvy_42 (by decide) h
set_option maxRecDepth 20000 in
set_option maxHeartbeats 4000000 in
theorem eX3_hasStrongEnvy_16 {K : cw_K} {r : Option Value} {J0 I : cw_M} {x1 : Int32} {x2 : Int32} (h : (∃ (v_13 : Int32) (J_13 : cw_M), cw_C (cc_w K) mX1_worthOfOwned [.ref (cw_a (cc_w K) 5), .ref (cw_a (cc_w K) 9), .int x1, .int x2] I (some (.int v_13)) J_13 ∧ (∃ (v_21 : Int32) (J_21 : cw_M), cw_C (cc_w K) mX3_dearestOwned [.ref (cw_a (cc_w K) 16), .int x1, .int x2] J_13 (some (.int v_21)) J_21 ∧ (∃ (v_30 : Int32) (J_30 : cw_M), cw_C (cc_w K) mX1_welfareOf [.ref (cw_a (cc_w K) 5), .int x1] J_21 (some (.int v_30)) J_30 ∧ (((v_13 - v_21) ≤ v_30 → (r = some (.int 0) ∧ J0 = J_30)) ∧ (¬ (v_13 - v_21) ≤ v_30 → (r = some (.int 1) ∧ J0 = J_30))))))) : cw_C (cc_w K) mX3_hasStrongEnvy [.ref (cw_a (cc_w K) 16), .int x1, .int x2] I r J0 := by
  refine cw_entry okX3_hasStrongEnvy (Nat.le_of_ble_eq_true rfl) (show cw_B (cc_w K) (cc_w K) mX3_hasStrongEnvy (cw_Z (cc_w K) r J0) 0 0 0 0 I 0 [(0, .ref (cw_a (cc_w K) 16)), (1, .int x1), (2, .int x2)] [] from ?_)
  refine cw_aload_n dX3_hasStrongEnvy_0 0 rfl rfl ?_
  refine cw_getf (C := RX3) (T := TX3) (N := 4) (ci := 4) inX3_hasStrongEnvy_RX3 16 (show 16 < 32 by decide) rfl rfl 3 (by decide) (by decide +kernel) rfl dX3_hasStrongEnvy_1 ?_
  refine cw_aload_n dX3_hasStrongEnvy_4 0 rfl rfl ?_
  refine cw_getf (C := RX3) (T := TX3) (N := 4) (ci := 4) inX3_hasStrongEnvy_RX3 16 (show 16 < 32 by decide) rfl rfl 3 (by decide) (by decide +kernel) rfl dX3_hasStrongEnvy_5 ?_
  refine cw_getf (C := RX1) (T := TX1) (N := 6) (ci := 2) inX3_hasStrongEnvy_RX1 5 (show 5 < 32 by decide) rfl rfl 5 (by decide) (by decide +kernel) rfl dX3_hasStrongEnvy_8 ?_
  refine cw_iload_n dX3_hasStrongEnvy_11 1 rfl rfl ?_
  refine cw_iload_n dX3_hasStrongEnvy_12 2 rfl rfl ?_
  obtain ⟨v_13, J_13, hc_13, h⟩ := h
  refine cw_callV (o := 5) (As := [.ref (cw_a (cc_w K) 9), .int x1, .int x2]) hc_13 okX1_worthOfOwned rfl gX3_hasStrongEnvy_X1_worthOfOwned (by decide) (show 5 < 32 by decide) rfl (ci := 2) rfl rfl (Nat.le_of_ble_eq_true rfl) dX3_hasStrongEnvy_13 ?_
  refine cw_istore_n dX3_hasStrongEnvy_16 rfl (by decide) rfl ?_
  refine cw_iload_n dX3_hasStrongEnvy_17 0 rfl rfl ?_
  refine cw_aload_n dX3_hasStrongEnvy_18 1 rfl rfl ?_
  refine cw_iload_n dX3_hasStrongEnvy_19 2 rfl rfl ?_
  refine cw_iload_n dX3_hasStrongEnvy_20 3 rfl rfl ?_
  obtain ⟨v_21, J_21, hc_21, h⟩ := h
  refine cw_callV (o := 16) (As := [.int x1, .int x2]) hc_21 okX3_dearestOwned rfl gX3_hasStrongEnvy_X3_dearestOwned (by decide) (show 16 < 32 by decide) rfl (ci := 4) rfl rfl (Nat.le_of_ble_eq_true rfl) dX3_hasStrongEnvy_21 ?_
  refine cw_isub dX3_hasStrongEnvy_24 ?_
  refine cw_aload_n dX3_hasStrongEnvy_25 1 rfl rfl ?_
  refine cw_getf (C := RX3) (T := TX3) (N := 4) (ci := 4) inX3_hasStrongEnvy_RX3 16 (show 16 < 32 by decide) rfl rfl 3 (by decide) (by decide +kernel) rfl dX3_hasStrongEnvy_26 ?_
  refine cw_iload_n dX3_hasStrongEnvy_29 2 rfl rfl ?_
  obtain ⟨v_30, J_30, hc_30, h⟩ := h
  refine cw_callV (o := 5) (As := [.int x1]) hc_30 okX1_welfareOf rfl gX3_hasStrongEnvy_X1_welfareOf (by decide) (show 5 < 32 by decide) rfl (ci := 2) rfl rfl (Nat.le_of_ble_eq_true rfl) dX3_hasStrongEnvy_30 ?_
  refine cw_icmp_le (tgt := 40) dX3_hasStrongEnvy_33 (by decide) (fun q => ?_) (fun q => ?_)
  · have h := h.1 q
    refine cw_iconst (v := 0) dX3_hasStrongEnvy_40 (by decide) ?_
    exact cw_bret rfl dX3_hasStrongEnvy_41 (by decide) h
  · have h := h.2 q
    refine cw_iconst (v := 1) dX3_hasStrongEnvy_36 (by decide) ?_
    refine cw_goto (tgt := 41) dX3_hasStrongEnvy_37 (by decide) ?_
    exact cw_bret rfl dX3_hasStrongEnvy_41 (by decide) h
abbrev bX3_countEnvies_16_4 (K : cw_K) (r : Option Value) (J0 : cw_M) (x1 : Int32) (x2 : Int32) (I : cw_M) : Prop := cw_B (cc_w K) (cc_w K) mX3_countEnvies (cw_Z (cc_w K) r J0) 0 0 0 0 I 4 [(0, .ref (cw_a (cc_w K) 16)), (1, .int x1), (2, .int x2)] []
set_option maxRecDepth 20000 in
set_option maxHeartbeats 4000000 in
theorem eX3_countEnvies_16 {K : cw_K} {r : Option Value} {J0 I : cw_M} (h : bX3_countEnvies_16_4 K r J0 0 0 I) : cw_C (cc_w K) mX3_countEnvies [.ref (cw_a (cc_w K) 16)] I r J0 := by
  refine cw_entry okX3_countEnvies (Nat.le_of_ble_eq_true rfl) (show cw_B (cc_w K) (cc_w K) mX3_countEnvies (cw_Z (cc_w K) r J0) 0 0 0 0 I 0 [(0, .ref (cw_a (cc_w K) 16))] [] from ?_)
  refine cw_iconst (v := 0) dX3_countEnvies_0 (by decide) ?_
  refine cw_istore_n dX3_countEnvies_1 rfl (by decide) rfl ?_
  refine cw_iconst (v := 0) dX3_countEnvies_2 (by decide) ?_
  refine cw_istore_n dX3_countEnvies_3 rfl (by decide) rfl ?_
  refine cw_sub [2, 1, 0] rfl ?_
  exact h
set_option maxRecDepth 20000 in
set_option maxHeartbeats 4000000 in
theorem tbX3_countEnvies_16_4 {K : cw_K} {r : Option Value} {J0 I : cw_M} {x1 : Int32} {x2 : Int32} (h : (((I 5 1) ≤ x2 → (r = some (.int x1) ∧ J0 = I)) ∧ (¬ (I 5 1) ≤ x2 → (∃ (v_18 : Int32) (J_18 : cw_M), cw_C (cc_w K) mX3_countEnviers [.ref (cw_a (cc_w K) 16), .int x2] I (some (.int v_18)) J_18 ∧ bX3_countEnvies_16_4 K r J0 (x1 + v_18) (x2 + 1) J_18)))) : bX3_countEnvies_16_4 K r J0 x1 x2 I := by
  refine cw_iload_n dX3_countEnvies_4 2 rfl rfl ?_
  refine cw_aload_n dX3_countEnvies_5 0 rfl rfl ?_
  refine cw_getf (C := RX3) (T := TX3) (N := 4) (ci := 4) inX3_countEnvies_RX3 16 (show 16 < 32 by decide) rfl rfl 3 (by decide) (by decide +kernel) rfl dX3_countEnvies_6 ?_
  refine cw_getf (C := RX1) (T := TX1) (N := 6) (ci := 2) inX3_countEnvies_RX1 5 (show 5 < 32 by decide) rfl rfl 1 (by decide) (by decide +kernel) rfl dX3_countEnvies_9 ?_
  refine cw_icmp_ge (tgt := 29) dX3_countEnvies_12 (by decide) (fun q => ?_) (fun q => ?_)
  · have h := h.1 q
    refine cw_iload_n dX3_countEnvies_29 1 rfl rfl ?_
    exact cw_iret rfl dX3_countEnvies_30 h
  · have h := h.2 q
    refine cw_iload_n dX3_countEnvies_15 1 rfl rfl ?_
    refine cw_aload_n dX3_countEnvies_16 0 rfl rfl ?_
    refine cw_iload_n dX3_countEnvies_17 2 rfl rfl ?_
    obtain ⟨v_18, J_18, hc_18, h⟩ := h
    refine cw_callV (o := 16) (As := [.int x2]) hc_18 okX3_countEnviers rfl gX3_countEnvies_X3_countEnviers (by decide) (show 16 < 32 by decide) rfl (ci := 4) rfl rfl (Nat.le_of_ble_eq_true rfl) dX3_countEnvies_18 ?_
    refine cw_iadd dX3_countEnvies_21 ?_
    refine cw_istore_n dX3_countEnvies_22 rfl (by decide) rfl ?_
    refine cw_iinc (v := x2 + 1) dX3_countEnvies_23 (j := 2) rfl rfl (by decide) rfl ?_
    refine cw_goto (tgt := 4) dX3_countEnvies_26 (by decide) ?_
    refine cw_sub [2, 1, 0] rfl ?_
    exact h
abbrev bX3_countStrongEnvies_16_4 (K : cw_K) (r : Option Value) (J0 : cw_M) (x1 : Int32) (x2 : Int32) (I : cw_M) : Prop := cw_B (cc_w K) (cc_w K) mX3_countStrongEnvies (cw_Z (cc_w K) r J0) 0 0 0 0 I 4 [(0, .ref (cw_a (cc_w K) 16)), (1, .int x1), (2, .int x2)] []
abbrev bX3_countStrongEnvies_16_17 (K : cw_K) (r : Option Value) (J0 : cw_M) (x1 : Int32) (x2 : Int32) (x3 : Int32) (I : cw_M) : Prop := cw_B (cc_w K) (cc_w K) mX3_countStrongEnvies (cw_Z (cc_w K) r J0) 0 0 0 0 I 17 [(0, .ref (cw_a (cc_w K) 16)), (1, .int x1), (2, .int x2), (3, .int x3)] []
set_option maxRecDepth 20000 in
set_option maxHeartbeats 4000000 in
theorem eX3_countStrongEnvies_16 {K : cw_K} {r : Option Value} {J0 I : cw_M} (h : bX3_countStrongEnvies_16_4 K r J0 0 0 I) : cw_C (cc_w K) mX3_countStrongEnvies [.ref (cw_a (cc_w K) 16)] I r J0 := by
  refine cw_entry okX3_countStrongEnvies (Nat.le_of_ble_eq_true rfl) (show cw_B (cc_w K) (cc_w K) mX3_countStrongEnvies (cw_Z (cc_w K) r J0) 0 0 0 0 I 0 [(0, .ref (cw_a (cc_w K) 16))] [] from ?_)
  refine cw_iconst (v := 0) dX3_countStrongEnvies_0 (by decide) ?_
  refine cw_istore_n dX3_countStrongEnvies_1 rfl (by decide) rfl ?_
  refine cw_iconst (v := 0) dX3_countStrongEnvies_2 (by decide) ?_
  refine cw_istore_n dX3_countStrongEnvies_3 rfl (by decide) rfl ?_
  refine cw_sub [2, 1, 0] rfl ?_
  exact h
set_option maxRecDepth 20000 in
set_option maxHeartbeats 4000000 in
theorem tbX3_countStrongEnvies_16_4 {K : cw_K} {r : Option Value} {J0 I : cw_M} {x1 : Int32} {x2 : Int32} (h : (((I 5 1) ≤ x2 → (r = some (.int x1) ∧ J0 = I)) ∧ (¬ (I 5 1) ≤ x2 → bX3_countStrongEnvies_16_17 K r J0 x1 x2 0 I))) : bX3_countStrongEnvies_16_4 K r J0 x1 x2 I := by
  refine cw_iload_n dX3_countStrongEnvies_4 2 rfl rfl ?_
  refine cw_aload_n dX3_countStrongEnvies_5 0 rfl rfl ?_
  refine cw_getf (C := RX3) (T := TX3) (N := 4) (ci := 4) inX3_countStrongEnvies_RX3 16 (show 16 < 32 by decide) rfl rfl 3 (by decide) (by decide +kernel) rfl dX3_countStrongEnvies_6 ?_
  refine cw_getf (C := RX1) (T := TX1) (N := 6) (ci := 2) inX3_countStrongEnvies_RX1 5 (show 5 < 32 by decide) rfl rfl 1 (by decide) (by decide +kernel) rfl dX3_countStrongEnvies_9 ?_
  refine cw_icmp_ge (tgt := 52) dX3_countStrongEnvies_12 (by decide) (fun q => ?_) (fun q => ?_)
  · have h := h.1 q
    refine cw_iload_n dX3_countStrongEnvies_52 1 rfl rfl ?_
    exact cw_iret rfl dX3_countStrongEnvies_53 h
  · have h := h.2 q
    refine cw_iconst (v := 0) dX3_countStrongEnvies_15 (by decide) ?_
    refine cw_istore_n dX3_countStrongEnvies_16 rfl (by decide) rfl ?_
    refine cw_sub [1, 2, 3, 0] rfl ?_
    exact h
set_option maxRecDepth 20000 in
set_option maxHeartbeats 4000000 in
theorem tbX3_countStrongEnvies_16_17 {K : cw_K} {r : Option Value} {J0 I : cw_M} {x1 : Int32} {x2 : Int32} {x3 : Int32} (h : (((I 5 1) ≤ x3 → bX3_countStrongEnvies_16_4 K r J0 x1 (x2 + 1) I) ∧ (¬ (I 5 1) ≤ x3 → (∃ (v_31 : Int32) (J_31 : cw_M), cw_C (cc_w K) mX3_hasStrongEnvy [.ref (cw_a (cc_w K) 16), .int x2, .int x3] I (some (.int v_31)) J_31 ∧ ((v_31 = 0 → bX3_countStrongEnvies_16_17 K r J0 x1 x2 (x3 + 1) J_31) ∧ (¬ v_31 = 0 → bX3_countStrongEnvies_16_17 K r J0 (x1 + 1) x2 (x3 + 1) J_31)))))) : bX3_countStrongEnvies_16_17 K r J0 x1 x2 x3 I := by
  refine cw_iload_n dX3_countStrongEnvies_17 3 rfl rfl ?_
  refine cw_aload_n dX3_countStrongEnvies_18 0 rfl rfl ?_
  refine cw_getf (C := RX3) (T := TX3) (N := 4) (ci := 4) inX3_countStrongEnvies_RX3 16 (show 16 < 32 by decide) rfl rfl 3 (by decide) (by decide +kernel) rfl dX3_countStrongEnvies_19 ?_
  refine cw_getf (C := RX1) (T := TX1) (N := 6) (ci := 2) inX3_countStrongEnvies_RX1 5 (show 5 < 32 by decide) rfl rfl 1 (by decide) (by decide +kernel) rfl dX3_countStrongEnvies_22 ?_
  refine cw_icmp_ge (tgt := 46) dX3_countStrongEnvies_25 (by decide) (fun q => ?_) (fun q => ?_)
  · have h := h.1 q
    refine cw_iinc (v := x2 + 1) dX3_countStrongEnvies_46 (j := 2) rfl rfl (by decide) rfl ?_
    refine cw_goto (tgt := 4) dX3_countStrongEnvies_49 (by decide) ?_
    refine cw_sub [1, 2, 0] rfl ?_
    exact h
  · have h := h.2 q
    refine cw_aload_n dX3_countStrongEnvies_28 0 rfl rfl ?_
    refine cw_iload_n dX3_countStrongEnvies_29 2 rfl rfl ?_
    refine cw_iload_n dX3_countStrongEnvies_30 3 rfl rfl ?_
    obtain ⟨v_31, J_31, hc_31, h⟩ := h
    refine cw_callV (o := 16) (As := [.int x2, .int x3]) hc_31 okX3_hasStrongEnvy rfl gX3_countStrongEnvies_X3_hasStrongEnvy (by decide) (show 16 < 32 by decide) rfl (ci := 4) rfl rfl (Nat.le_of_ble_eq_true rfl) dX3_countStrongEnvies_31 ?_
    refine cw_if_eq (tgt := 40) dX3_countStrongEnvies_34 (by decide) (fun q => ?_) (fun q => ?_)
    · have h := h.1 q
      refine cw_iinc (v := x3 + 1) dX3_countStrongEnvies_40 (j := 3) rfl rfl (by decide) rfl ?_
      refine cw_goto (tgt := 17) dX3_countStrongEnvies_43 (by decide) ?_
      refine cw_sub [1, 2, 3, 0] rfl ?_
      exact h
    · have h := h.2 q
      refine cw_iinc (v := x1 + 1) dX3_countStrongEnvies_37 (j := 1) rfl rfl (by decide) rfl ?_
      refine cw_iinc (v := x3 + 1) dX3_countStrongEnvies_40 (j := 3) rfl rfl (by decide) rfl ?_
      refine cw_goto (tgt := 17) dX3_countStrongEnvies_43 (by decide) ?_
      refine cw_sub [2, 1, 3, 0] rfl ?_
      exact h
set_option maxRecDepth 20000 in
set_option maxHeartbeats 4000000 in
theorem eX3_hasFairShare_16 {K : cw_K} {r : Option Value} {J0 I : cw_M} {x1 : Int32} (h : (∃ (v_5 : Int32) (J_5 : cw_M), cw_C (cc_w K) mX1_welfareOf [.ref (cw_a (cc_w K) 5), .int x1] I (some (.int v_5)) J_5 ∧ (∃ (v_21 : Int32) (J_21 : cw_M), cw_C (cc_w K) mX1_worthOfAll [.ref (cw_a (cc_w K) 5), .int x1] J_5 (some (.int v_21)) J_21 ∧ (((v_5 * (J_5 5 1)) < v_21 → (r = some (.int 0) ∧ J0 = J_21)) ∧ (¬ (v_5 * (J_5 5 1)) < v_21 → (r = some (.int 1) ∧ J0 = J_21)))))) : cw_C (cc_w K) mX3_hasFairShare [.ref (cw_a (cc_w K) 16), .int x1] I r J0 := by
  refine cw_entry okX3_hasFairShare (Nat.le_of_ble_eq_true rfl) (show cw_B (cc_w K) (cc_w K) mX3_hasFairShare (cw_Z (cc_w K) r J0) 0 0 0 0 I 0 [(0, .ref (cw_a (cc_w K) 16)), (1, .int x1)] [] from ?_)
  refine cw_aload_n dX3_hasFairShare_0 0 rfl rfl ?_
  refine cw_getf (C := RX3) (T := TX3) (N := 4) (ci := 4) inX3_hasFairShare_RX3 16 (show 16 < 32 by decide) rfl rfl 3 (by decide) (by decide +kernel) rfl dX3_hasFairShare_1 ?_
  refine cw_iload_n dX3_hasFairShare_4 1 rfl rfl ?_
  obtain ⟨v_5, J_5, hc_5, h⟩ := h
  refine cw_callV (o := 5) (As := [.int x1]) hc_5 okX1_welfareOf rfl gX3_hasFairShare_X1_welfareOf (by decide) (show 5 < 32 by decide) rfl (ci := 2) rfl rfl (Nat.le_of_ble_eq_true rfl) dX3_hasFairShare_5 ?_
  refine cw_aload_n dX3_hasFairShare_8 0 rfl rfl ?_
  refine cw_getf (C := RX3) (T := TX3) (N := 4) (ci := 4) inX3_hasFairShare_RX3 16 (show 16 < 32 by decide) rfl rfl 3 (by decide) (by decide +kernel) rfl dX3_hasFairShare_9 ?_
  refine cw_getf (C := RX1) (T := TX1) (N := 6) (ci := 2) inX3_hasFairShare_RX1 5 (show 5 < 32 by decide) rfl rfl 1 (by decide) (by decide +kernel) rfl dX3_hasFairShare_12 ?_
  refine cw_imul dX3_hasFairShare_15 ?_
  refine cw_aload_n dX3_hasFairShare_16 0 rfl rfl ?_
  refine cw_getf (C := RX3) (T := TX3) (N := 4) (ci := 4) inX3_hasFairShare_RX3 16 (show 16 < 32 by decide) rfl rfl 3 (by decide) (by decide +kernel) rfl dX3_hasFairShare_17 ?_
  refine cw_iload_n dX3_hasFairShare_20 1 rfl rfl ?_
  obtain ⟨v_21, J_21, hc_21, h⟩ := h
  refine cw_callV (o := 5) (As := [.int x1]) hc_21 okX1_worthOfAll rfl gX3_hasFairShare_X1_worthOfAll (by decide) (show 5 < 32 by decide) rfl (ci := 2) rfl rfl (Nat.le_of_ble_eq_true rfl) dX3_hasFairShare_21 ?_
  refine cw_icmp_lt (tgt := 31) dX3_hasFairShare_24 (by decide) (fun q => ?_) (fun q => ?_)
  · have h := h.1 q
    refine cw_iconst (v := 0) dX3_hasFairShare_31 (by decide) ?_
    exact cw_bret rfl dX3_hasFairShare_32 (by decide) h
  · have h := h.2 q
    refine cw_iconst (v := 1) dX3_hasFairShare_27 (by decide) ?_
    refine cw_goto (tgt := 32) dX3_hasFairShare_28 (by decide) ?_
    exact cw_bret rfl dX3_hasFairShare_32 (by decide) h
abbrev bX3_countFairShares_16_4 (K : cw_K) (r : Option Value) (J0 : cw_M) (x1 : Int32) (x2 : Int32) (I : cw_M) : Prop := cw_B (cc_w K) (cc_w K) mX3_countFairShares (cw_Z (cc_w K) r J0) 0 0 0 0 I 4 [(0, .ref (cw_a (cc_w K) 16)), (1, .int x1), (2, .int x2)] []
set_option maxRecDepth 20000 in
set_option maxHeartbeats 4000000 in
theorem eX3_countFairShares_16 {K : cw_K} {r : Option Value} {J0 I : cw_M} (h : bX3_countFairShares_16_4 K r J0 0 0 I) : cw_C (cc_w K) mX3_countFairShares [.ref (cw_a (cc_w K) 16)] I r J0 := by
  refine cw_entry okX3_countFairShares (Nat.le_of_ble_eq_true rfl) (show cw_B (cc_w K) (cc_w K) mX3_countFairShares (cw_Z (cc_w K) r J0) 0 0 0 0 I 0 [(0, .ref (cw_a (cc_w K) 16))] [] from ?_)
  refine cw_iconst (v := 0) dX3_countFairShares_0 (by decide) ?_
  refine cw_istore_n dX3_countFairShares_1 rfl (by decide) rfl ?_
  refine cw_iconst (v := 0) dX3_countFairShares_2 (by decide) ?_
  refine cw_istore_n dX3_countFairShares_3 rfl (by decide) rfl ?_
  refine cw_sub [2, 1, 0] rfl ?_
  exact h
set_option maxRecDepth 20000 in
set_option maxHeartbeats 4000000 in
theorem tbX3_countFairShares_16_4 {K : cw_K} {r : Option Value} {J0 I : cw_M} {x1 : Int32} {x2 : Int32} (h : (((I 5 1) ≤ x2 → (r = some (.int x1) ∧ J0 = I)) ∧ (¬ (I 5 1) ≤ x2 → (∃ (v_17 : Int32) (J_17 : cw_M), cw_C (cc_w K) mX3_hasFairShare [.ref (cw_a (cc_w K) 16), .int x2] I (some (.int v_17)) J_17 ∧ ((v_17 = 0 → bX3_countFairShares_16_4 K r J0 x1 (x2 + 1) J_17) ∧ (¬ v_17 = 0 → bX3_countFairShares_16_4 K r J0 (x1 + 1) (x2 + 1) J_17)))))) : bX3_countFairShares_16_4 K r J0 x1 x2 I := by
  refine cw_iload_n dX3_countFairShares_4 2 rfl rfl ?_
  refine cw_aload_n dX3_countFairShares_5 0 rfl rfl ?_
  refine cw_getf (C := RX3) (T := TX3) (N := 4) (ci := 4) inX3_countFairShares_RX3 16 (show 16 < 32 by decide) rfl rfl 3 (by decide) (by decide +kernel) rfl dX3_countFairShares_6 ?_
  refine cw_getf (C := RX1) (T := TX1) (N := 6) (ci := 2) inX3_countFairShares_RX1 5 (show 5 < 32 by decide) rfl rfl 1 (by decide) (by decide +kernel) rfl dX3_countFairShares_9 ?_
  refine cw_icmp_ge (tgt := 32) dX3_countFairShares_12 (by decide) (fun q => ?_) (fun q => ?_)
  · have h := h.1 q
    refine cw_iload_n dX3_countFairShares_32 1 rfl rfl ?_
    exact cw_iret rfl dX3_countFairShares_33 h
  · have h := h.2 q
    refine cw_aload_n dX3_countFairShares_15 0 rfl rfl ?_
    refine cw_iload_n dX3_countFairShares_16 2 rfl rfl ?_
    obtain ⟨v_17, J_17, hc_17, h⟩ := h
    refine cw_callV (o := 16) (As := [.int x2]) hc_17 okX3_hasFairShare rfl gX3_countFairShares_X3_hasFairShare (by decide) (show 16 < 32 by decide) rfl (ci := 4) rfl rfl (Nat.le_of_ble_eq_true rfl) dX3_countFairShares_17 ?_
    refine cw_if_eq (tgt := 26) dX3_countFairShares_20 (by decide) (fun q => ?_) (fun q => ?_)
    · have h := h.1 q
      refine cw_iinc (v := x2 + 1) dX3_countFairShares_26 (j := 2) rfl rfl (by decide) rfl ?_
      refine cw_goto (tgt := 4) dX3_countFairShares_29 (by decide) ?_
      refine cw_sub [1, 2, 0] rfl ?_
      exact h
    · have h := h.2 q
      refine cw_iinc (v := x1 + 1) dX3_countFairShares_23 (j := 1) rfl rfl (by decide) rfl ?_
      refine cw_iinc (v := x2 + 1) dX3_countFairShares_26 (j := 2) rfl rfl (by decide) rfl ?_
      refine cw_goto (tgt := 4) dX3_countFairShares_29 (by decide) ?_
      refine cw_sub [2, 1, 0] rfl ?_
      exact h
abbrev bX3_findCycle_16_31 (K : cw_K) (r : Option Value) (J0 : cw_M) (x2 : Int32) (x3 : Int32) (I : cw_M) : Prop := cw_B (cc_w K) (cc_w K) mX3_findCycle (cw_Z (cc_w K) r J0) 0 0 0 0 I 31 [(0, .ref (cw_a (cc_w K) 16)), (2, .int x2), (3, .int x3)] []
set_option maxRecDepth 20000 in
set_option maxHeartbeats 4000000 in
theorem eX3_findCycle_16 {K : cw_K} {r : Option Value} {J0 I : cw_M} {x1 : Int32} (h : (∃ J_1 : cw_M, cw_C (cc_w K) mX3_measureWorths [.ref (cw_a (cc_w K) 16)] I none J_1 ∧ (∃ J_6 : cw_M, cw_C (cc_w K) mX3_measureDistances [.ref (cw_a (cc_w K) 16), .int x1] J_1 none J_6 ∧ (∃ (v_11 : Int32) (J_11 : cw_M), cw_C (cc_w K) mX3_shortestWayRound [.ref (cw_a (cc_w K) 16), .int x1] J_6 (some (.int v_11)) J_11 ∧ ((¬ v_11 = (-1) → bX3_findCycle_16_31 K r J0 v_11 1 (cw_st J_11 17 0 x1)) ∧ (v_11 = (-1) → (r = some (.int (-1)) ∧ J0 = J_11))))))) : cw_C (cc_w K) mX3_findCycle [.ref (cw_a (cc_w K) 16), .int x1] I r J0 := by
  refine cw_entry okX3_findCycle (Nat.le_of_ble_eq_true rfl) (show cw_B (cc_w K) (cc_w K) mX3_findCycle (cw_Z (cc_w K) r J0) 0 0 0 0 I 0 [(0, .ref (cw_a (cc_w K) 16)), (1, .int x1)] [] from ?_)
  refine cw_aload_n dX3_findCycle_0 0 rfl rfl ?_
  obtain ⟨J_1, hc_1, h⟩ := h
  refine cw_callV (o := 16) (As := []) hc_1 okX3_measureWorths rfl gX3_findCycle_X3_measureWorths (by decide) (show 16 < 32 by decide) rfl (ci := 4) rfl rfl (Nat.le_of_ble_eq_true rfl) dX3_findCycle_1 ?_
  refine cw_aload_n dX3_findCycle_4 0 rfl rfl ?_
  refine cw_iload_n dX3_findCycle_5 1 rfl rfl ?_
  obtain ⟨J_6, hc_6, h⟩ := h
  refine cw_callV (o := 16) (As := [.int x1]) hc_6 okX3_measureDistances rfl gX3_findCycle_X3_measureDistances (by decide) (show 16 < 32 by decide) rfl (ci := 4) rfl rfl (Nat.le_of_ble_eq_true rfl) dX3_findCycle_6 ?_
  refine cw_aload_n dX3_findCycle_9 0 rfl rfl ?_
  refine cw_iload_n dX3_findCycle_10 1 rfl rfl ?_
  obtain ⟨v_11, J_11, hc_11, h⟩ := h
  refine cw_callV (o := 16) (As := [.int x1]) hc_11 okX3_shortestWayRound rfl gX3_findCycle_X3_shortestWayRound (by decide) (show 16 < 32 by decide) rfl (ci := 4) rfl rfl (Nat.le_of_ble_eq_true rfl) dX3_findCycle_11 ?_
  refine cw_istore_n dX3_findCycle_14 rfl (by decide) rfl ?_
  refine cw_iload_n dX3_findCycle_15 0 rfl rfl ?_
  refine cw_iconst (v := (-1)) dX3_findCycle_16 (by decide) ?_
  refine cw_icmp_ne (tgt := 22) dX3_findCycle_17 (by decide) (fun q => ?_) (fun q => ?_)
  · have h := h.1 q
    refine cw_aload_n dX3_findCycle_22 1 rfl rfl ?_
    refine cw_getf (C := RX3) (T := TX3) (N := 4) (ci := 4) inX3_findCycle_RX3 16 (show 16 < 32 by decide) rfl rfl 0 (by decide) (by decide +kernel) rfl dX3_findCycle_23 ?_
    refine cw_iconst (v := 0) dX3_findCycle_26 (by decide) ?_
    refine cw_iload_n dX3_findCycle_27 2 rfl rfl ?_
    refine cw_iastL (j := 0) 17 (show 17 < 32 by decide) (fun _ => rfl) 0 rfl dX3_findCycle_28 rfl (by decide) (by decide) ?_
    refine cw_iconst (v := 1) dX3_findCycle_29 (by decide) ?_
    refine cw_istore_n dX3_findCycle_30 rfl (by decide) rfl ?_
    refine cw_sub [2, 1, 0] rfl ?_
    exact h
  · have h := h.2 q
    refine cw_iconst (v := (-1)) dX3_findCycle_20 (by decide) ?_
    exact cw_iret rfl dX3_findCycle_21 h
set_option maxRecDepth 20000 in
set_option maxHeartbeats 4000000 in
theorem tbX3_findCycle_16_31 {K : cw_K} {r : Option Value} {J0 I : cw_M} {x2 : Int32} {x3 : Int32} (h : ((x2 ≤ x3 → (r = some (.int x2) ∧ J0 = I)) ∧ (¬ x2 ≤ x3 → (vp_in (x3 - 1) 6 ∧ (∃ (v_53 : Int32) (J_53 : cw_M), cw_C (cc_w K) mX3_firstEnviedAt [.ref (cw_a (cc_w K) 16), .int (x2 - x3), .int (I 17 (x3 - 1).toNatClampNeg)] I (some (.int v_53)) J_53 ∧ (vp_in x3 6 ∧ bX3_findCycle_16_31 K r J0 x2 (x3 + 1) (cw_st J_53 17 x3.toNatClampNeg v_53))))))) : bX3_findCycle_16_31 K r J0 x2 x3 I := by
  refine cw_iload_n dX3_findCycle_31 2 rfl rfl ?_
  refine cw_iload_n dX3_findCycle_32 1 rfl rfl ?_
  refine cw_icmp_ge (tgt := 63) dX3_findCycle_33 (by decide) (fun q => ?_) (fun q => ?_)
  · have h := h.1 q
    refine cw_iload_n dX3_findCycle_63 1 rfl rfl ?_
    exact cw_iret rfl dX3_findCycle_64 h
  · have h := h.2 q
    refine cw_aload_n dX3_findCycle_36 0 rfl rfl ?_
    refine cw_getf (C := RX3) (T := TX3) (N := 4) (ci := 4) inX3_findCycle_RX3 16 (show 16 < 32 by decide) rfl rfl 0 (by decide) (by decide +kernel) rfl dX3_findCycle_37 ?_
    refine cw_iload_n dX3_findCycle_40 2 rfl rfl ?_
    refine cw_aload_n dX3_findCycle_41 0 rfl rfl ?_
    refine cw_iload_n dX3_findCycle_42 1 rfl rfl ?_
    refine cw_iload_n dX3_findCycle_43 2 rfl rfl ?_
    refine cw_isub dX3_findCycle_44 ?_
    refine cw_aload_n dX3_findCycle_45 0 rfl rfl ?_
    refine cw_getf (C := RX3) (T := TX3) (N := 4) (ci := 4) inX3_findCycle_RX3 16 (show 16 < 32 by decide) rfl rfl 0 (by decide) (by decide +kernel) rfl dX3_findCycle_46 ?_
    refine cw_iload_n dX3_findCycle_49 2 rfl rfl ?_
    refine cw_iconst (v := 1) dX3_findCycle_50 (by decide) ?_
    refine cw_isub dX3_findCycle_51 ?_
    obtain ⟨g_52, h⟩ := h
    refine cw_iald 17 (show 17 < 32 by decide) rfl 0 rfl dX3_findCycle_52 g_52 ?_
    obtain ⟨v_53, J_53, hc_53, h⟩ := h
    refine cw_callV (o := 16) (As := [.int (x2 - x3), .int (I 17 (x3 - 1).toNatClampNeg)]) hc_53 okX3_firstEnviedAt rfl gX3_findCycle_X3_firstEnviedAt (by decide) (show 16 < 32 by decide) rfl (ci := 4) rfl rfl (Nat.le_of_ble_eq_true rfl) dX3_findCycle_53 ?_
    obtain ⟨g_56, h⟩ := h
    refine cw_iast 17 (show 17 < 32 by decide) (fun _ => rfl) 0 rfl dX3_findCycle_56 g_56 ?_
    refine cw_iinc (v := x3 + 1) dX3_findCycle_57 (j := 2) rfl rfl (by decide) rfl ?_
    refine cw_goto (tgt := 31) dX3_findCycle_60 (by decide) ?_
    refine cw_sub [1, 2, 0] rfl ?_
    exact h
abbrev bX3_rotateThrough_16_8 (K : cw_K) (r : Option Value) (J0 : cw_M) (x2 : Int32) (x3 : Int32) (I : cw_M) : Prop := cw_B (cc_w K) (cc_w K) mX3_rotateThrough (cw_Z (cc_w K) r J0) 0 0 0 0 I 8 [(0, .ref (cw_a (cc_w K) 16)), (2, .int x2), (3, .int x3)] []
set_option maxRecDepth 20000 in
set_option maxHeartbeats 4000000 in
theorem eX3_rotateThrough_16 {K : cw_K} {r : Option Value} {J0 I : cw_M} {x1 : Int32} (h : (∃ (v_2 : Int32) (J_2 : cw_M), cw_C (cc_w K) mX3_findCycle [.ref (cw_a (cc_w K) 16), .int x1] I (some (.int v_2)) J_2 ∧ bX3_rotateThrough_16_8 K r J0 v_2 0 J_2)) : cw_C (cc_w K) mX3_rotateThrough [.ref (cw_a (cc_w K) 16), .int x1] I r J0 := by
  refine cw_entry okX3_rotateThrough (Nat.le_of_ble_eq_true rfl) (show cw_B (cc_w K) (cc_w K) mX3_rotateThrough (cw_Z (cc_w K) r J0) 0 0 0 0 I 0 [(0, .ref (cw_a (cc_w K) 16)), (1, .int x1)] [] from ?_)
  refine cw_aload_n dX3_rotateThrough_0 0 rfl rfl ?_
  refine cw_iload_n dX3_rotateThrough_1 1 rfl rfl ?_
  obtain ⟨v_2, J_2, hc_2, h⟩ := h
  refine cw_callV (o := 16) (As := [.int x1]) hc_2 okX3_findCycle rfl gX3_rotateThrough_X3_findCycle (by decide) (show 16 < 32 by decide) rfl (ci := 4) rfl rfl (Nat.le_of_ble_eq_true rfl) dX3_rotateThrough_2 ?_
  refine cw_istore_n dX3_rotateThrough_5 rfl (by decide) rfl ?_
  refine cw_iconst (v := 0) dX3_rotateThrough_6 (by decide) ?_
  refine cw_istore_n dX3_rotateThrough_7 rfl (by decide) rfl ?_
  refine cw_sub [2, 1, 0] rfl ?_
  exact h
set_option maxRecDepth 20000 in
set_option maxHeartbeats 4000000 in
theorem tbX3_rotateThrough_16_8 {K : cw_K} {r : Option Value} {J0 I : cw_M} {x2 : Int32} {x3 : Int32} (h : (((I 5 0) ≤ x3 → (r = some (.int x2) ∧ J0 = I)) ∧ (¬ (I 5 0) ≤ x3 → (vp_in x3 24 ∧ (∃ (v_38 : Int32) (J_38 : cw_M), cw_C (cc_w K) mX3_ownerAfterRotation [.ref (cw_a (cc_w K) 16), .int (I 9 x3.toNatClampNeg), .int x2] I (some (.int v_38)) J_38 ∧ (vp_in x3 24 ∧ bX3_rotateThrough_16_8 K r J0 x2 (x3 + 1) (cw_st J_38 9 x3.toNatClampNeg v_38))))))) : bX3_rotateThrough_16_8 K r J0 x2 x3 I := by
  refine cw_iload_n dX3_rotateThrough_8 2 rfl rfl ?_
  refine cw_aload_n dX3_rotateThrough_9 0 rfl rfl ?_
  refine cw_getf (C := RX3) (T := TX3) (N := 4) (ci := 4) inX3_rotateThrough_RX3 16 (show 16 < 32 by decide) rfl rfl 3 (by decide) (by decide +kernel) rfl dX3_rotateThrough_10 ?_
  refine cw_getf (C := RX1) (T := TX1) (N := 6) (ci := 2) inX3_rotateThrough_RX1 5 (show 5 < 32 by decide) rfl rfl 0 (by decide) (by decide +kernel) rfl dX3_rotateThrough_13 ?_
  refine cw_icmp_ge (tgt := 48) dX3_rotateThrough_16 (by decide) (fun q => ?_) (fun q => ?_)
  · have h := h.1 q
    refine cw_iload_n dX3_rotateThrough_48 1 rfl rfl ?_
    exact cw_iret rfl dX3_rotateThrough_49 h
  · have h := h.2 q
    refine cw_aload_n dX3_rotateThrough_19 0 rfl rfl ?_
    refine cw_getf (C := RX3) (T := TX3) (N := 4) (ci := 4) inX3_rotateThrough_RX3 16 (show 16 < 32 by decide) rfl rfl 3 (by decide) (by decide +kernel) rfl dX3_rotateThrough_20 ?_
    refine cw_getf (C := RX1) (T := TX1) (N := 6) (ci := 2) inX3_rotateThrough_RX1 5 (show 5 < 32 by decide) rfl rfl 5 (by decide) (by decide +kernel) rfl dX3_rotateThrough_23 ?_
    refine cw_iload_n dX3_rotateThrough_26 2 rfl rfl ?_
    refine cw_aload_n dX3_rotateThrough_27 0 rfl rfl ?_
    refine cw_aload_n dX3_rotateThrough_28 0 rfl rfl ?_
    refine cw_getf (C := RX3) (T := TX3) (N := 4) (ci := 4) inX3_rotateThrough_RX3 16 (show 16 < 32 by decide) rfl rfl 3 (by decide) (by decide +kernel) rfl dX3_rotateThrough_29 ?_
    refine cw_getf (C := RX1) (T := TX1) (N := 6) (ci := 2) inX3_rotateThrough_RX1 5 (show 5 < 32 by decide) rfl rfl 5 (by decide) (by decide +kernel) rfl dX3_rotateThrough_32 ?_
    refine cw_iload_n dX3_rotateThrough_35 2 rfl rfl ?_
    obtain ⟨g_36, h⟩ := h
    refine cw_iald 9 (show 9 < 32 by decide) rfl 0 rfl dX3_rotateThrough_36 g_36 ?_
    refine cw_iload_n dX3_rotateThrough_37 1 rfl rfl ?_
    obtain ⟨v_38, J_38, hc_38, h⟩ := h
    refine cw_callV (o := 16) (As := [.int (I 9 x3.toNatClampNeg), .int x2]) hc_38 okX3_ownerAfterRotation rfl gX3_rotateThrough_X3_ownerAfterRotation (by decide) (show 16 < 32 by decide) rfl (ci := 4) rfl rfl (Nat.le_of_ble_eq_true rfl) dX3_rotateThrough_38 ?_
    obtain ⟨g_41, h⟩ := h
    refine cw_iast 9 (show 9 < 32 by decide) (fun _ => rfl) 0 rfl dX3_rotateThrough_41 g_41 ?_
    refine cw_iinc (v := x3 + 1) dX3_rotateThrough_42 (j := 2) rfl rfl (by decide) rfl ?_
    refine cw_goto (tgt := 8) dX3_rotateThrough_45 (by decide) ?_
    refine cw_sub [1, 2, 0] rfl ?_
    exact h
abbrev bX6_markOf_20_24 (K : cw_K) (r : Option Value) (J0 : cw_M) (x1 : Int32) (x3 : Int32) (x4 : Int32) (x5 : Int32) (x6 : Int32) (I : cw_M) : Prop := cw_B (cc_w K) (cc_w K) mX6_markOf (cw_Z (cc_w K) r J0) 0 0 0 0 I 24 [(0, .ref (cw_a (cc_w K) 20)), (1, .int x1), (3, .int x3), (4, .int x4), (5, .int x5), (6, .int x6)] []
set_option maxRecDepth 20000 in
set_option maxHeartbeats 4000000 in
theorem eX6_markOf_20 {K : cw_K} {r : Option Value} {J0 I : cw_M} {x1 : Int32} {x2 : Int32} {x3 : Int32} (h : (∃ (v_13 : Int32) (J_13 : cw_M), cw_C (cc_w K) mX1_worthOfRun [.ref (cw_a (cc_w K) 5), .int x1, .int x2, .int (I 5 0)] I (some (.int v_13)) J_13 ∧ bX6_markOf_20_24 K r J0 x1 x3 v_13 0 x2 J_13)) : cw_C (cc_w K) mX6_markOf [.ref (cw_a (cc_w K) 20), .int x1, .int x2, .int x3] I r J0 := by
  refine cw_entry okX6_markOf (Nat.le_of_ble_eq_true rfl) (show cw_B (cc_w K) (cc_w K) mX6_markOf (cw_Z (cc_w K) r J0) 0 0 0 0 I 0 [(0, .ref (cw_a (cc_w K) 20)), (1, .int x1), (2, .int x2), (3, .int x3)] [] from ?_)
  refine cw_aload_n dX6_markOf_0 0 rfl rfl ?_
  refine cw_getf (C := RX6) (T := TX6) (N := 2) (ci := 7) inX6_markOf_RX6 20 (show 20 < 32 by decide) rfl rfl 1 (by decide) (by decide +kernel) rfl dX6_markOf_1 ?_
  refine cw_iload_n dX6_markOf_4 1 rfl rfl ?_
  refine cw_iload_n dX6_markOf_5 2 rfl rfl ?_
  refine cw_aload_n dX6_markOf_6 0 rfl rfl ?_
  refine cw_getf (C := RX6) (T := TX6) (N := 2) (ci := 7) inX6_markOf_RX6 20 (show 20 < 32 by decide) rfl rfl 1 (by decide) (by decide +kernel) rfl dX6_markOf_7 ?_
  refine cw_getf (C := RX1) (T := TX1) (N := 6) (ci := 2) inX6_markOf_RX1 5 (show 5 < 32 by decide) rfl rfl 0 (by decide) (by decide +kernel) rfl dX6_markOf_10 ?_
  obtain ⟨v_13, J_13, hc_13, h⟩ := h
  refine cw_callV (o := 5) (As := [.int x1, .int x2, .int (I 5 0)]) hc_13 okX1_worthOfRun rfl gX6_markOf_X1_worthOfRun (by decide) (show 5 < 32 by decide) rfl (ci := 2) rfl rfl (Nat.le_of_ble_eq_true rfl) dX6_markOf_13 ?_
  refine cw_istore dX6_markOf_16 (by decide) rfl ?_
  refine cw_iconst (v := 0) dX6_markOf_18 (by decide) ?_
  refine cw_istore dX6_markOf_19 (by decide) rfl ?_
  refine cw_iload_n dX6_markOf_21 4 rfl rfl ?_
  refine cw_istore dX6_markOf_22 (by decide) rfl ?_
  refine cw_sub [3, 4, 6, 2, 1, 0] rfl ?_
  exact h
set_option maxRecDepth 20000 in
set_option maxHeartbeats 4000000 in
theorem tbX6_markOf_20_24 {K : cw_K} {r : Option Value} {J0 I : cw_M} {x1 : Int32} {x3 : Int32} {x4 : Int32} {x5 : Int32} {x6 : Int32} (h : (((I 5 0) ≤ x6 → (r = some (.int ((I 5 0) - 1)) ∧ J0 = I)) ∧ (¬ (I 5 0) ≤ x6 → (∃ (v_45 : Int32) (J_45 : cw_M), cw_C (cc_w K) mX1_valueOf [.ref (cw_a (cc_w K) 5), .int x1, .int x6] I (some (.int v_45)) J_45 ∧ ((((x5 + v_45) * x3) < x4 → bX6_markOf_20_24 K r J0 x1 x3 x4 (x5 + v_45) (x6 + 1) J_45) ∧ (¬ ((x5 + v_45) * x3) < x4 → (r = some (.int x6) ∧ J0 = J_45))))))) : bX6_markOf_20_24 K r J0 x1 x3 x4 x5 x6 I := by
  refine cw_iload dX6_markOf_24 5 rfl ?_
  refine cw_aload_n dX6_markOf_26 0 rfl rfl ?_
  refine cw_getf (C := RX6) (T := TX6) (N := 2) (ci := 7) inX6_markOf_RX6 20 (show 20 < 32 by decide) rfl rfl 1 (by decide) (by decide +kernel) rfl dX6_markOf_27 ?_
  refine cw_getf (C := RX1) (T := TX1) (N := 6) (ci := 2) inX6_markOf_RX1 5 (show 5 < 32 by decide) rfl rfl 0 (by decide) (by decide +kernel) rfl dX6_markOf_30 ?_
  refine cw_icmp_ge (tgt := 69) dX6_markOf_33 (by decide) (fun q => ?_) (fun q => ?_)
  · have h := h.1 q
    refine cw_aload_n dX6_markOf_69 0 rfl rfl ?_
    refine cw_getf (C := RX6) (T := TX6) (N := 2) (ci := 7) inX6_markOf_RX6 20 (show 20 < 32 by decide) rfl rfl 1 (by decide) (by decide +kernel) rfl dX6_markOf_70 ?_
    refine cw_getf (C := RX1) (T := TX1) (N := 6) (ci := 2) inX6_markOf_RX1 5 (show 5 < 32 by decide) rfl rfl 0 (by decide) (by decide +kernel) rfl dX6_markOf_73 ?_
    refine cw_iconst (v := 1) dX6_markOf_76 (by decide) ?_
    refine cw_isub dX6_markOf_77 ?_
    exact cw_iret rfl dX6_markOf_78 h
  · have h := h.2 q
    refine cw_iload dX6_markOf_36 4 rfl ?_
    refine cw_aload_n dX6_markOf_38 0 rfl rfl ?_
    refine cw_getf (C := RX6) (T := TX6) (N := 2) (ci := 7) inX6_markOf_RX6 20 (show 20 < 32 by decide) rfl rfl 1 (by decide) (by decide +kernel) rfl dX6_markOf_39 ?_
    refine cw_iload_n dX6_markOf_42 1 rfl rfl ?_
    refine cw_iload dX6_markOf_43 5 rfl ?_
    obtain ⟨v_45, J_45, hc_45, h⟩ := h
    refine cw_callV (o := 5) (As := [.int x1, .int x6]) hc_45 okX1_valueOf rfl gX6_markOf_X1_valueOf (by decide) (show 5 < 32 by decide) rfl (ci := 2) rfl rfl (Nat.le_of_ble_eq_true rfl) dX6_markOf_45 ?_
    refine cw_iadd dX6_markOf_48 ?_
    refine cw_istore dX6_markOf_49 (by decide) rfl ?_
    refine cw_iload dX6_markOf_51 0 rfl ?_
    refine cw_iload_n dX6_markOf_53 3 rfl rfl ?_
    refine cw_imul dX6_markOf_54 ?_
    refine cw_iload dX6_markOf_55 4 rfl ?_
    refine cw_icmp_lt (tgt := 63) dX6_markOf_57 (by decide) (fun q => ?_) (fun q => ?_)
    · have h := h.1 q
      refine cw_iinc (v := x6 + 1) dX6_markOf_63 (j := 5) rfl rfl (by decide) rfl ?_
      refine cw_goto (tgt := 24) dX6_markOf_66 (by decide) ?_
      refine cw_sub [2, 3, 4, 5, 1, 0] rfl ?_
      exact h
    · have h := h.2 q
      refine cw_iload dX6_markOf_60 5 rfl ?_
      exact cw_iret rfl dX6_markOf_62 h
abbrev bX6_cutOf_20_17 (K : cw_K) (r : Option Value) (J0 : cw_M) (x1 : Int32) (x2 : Int32) (x3 : Int32) (x4 : Int32) (x5 : Int32) (I : cw_M) : Prop := cw_B (cc_w K) (cc_w K) mX6_cutOf (cw_Z (cc_w K) r J0) 0 0 0 0 I 17 [(0, .ref (cw_a (cc_w K) 20)), (1, .int x1), (2, .int x2), (3, .int x3), (4, .int x4), (5, .int x5)] []
set_option maxRecDepth 20000 in
set_option maxHeartbeats 4000000 in
theorem eX6_cutOf_20 {K : cw_K} {r : Option Value} {J0 I : cw_M} {x1 : Int32} (h : (∃ (v_5 : Int32) (J_5 : cw_M), cw_C (cc_w K) mX1_worthOfAll [.ref (cw_a (cc_w K) 5), .int x1] I (some (.int v_5)) J_5 ∧ bX6_cutOf_20_17 K r J0 x1 v_5 v_5 0 0 J_5)) : cw_C (cc_w K) mX6_cutOf [.ref (cw_a (cc_w K) 20), .int x1] I r J0 := by
  refine cw_entry okX6_cutOf (Nat.le_of_ble_eq_true rfl) (show cw_B (cc_w K) (cc_w K) mX6_cutOf (cw_Z (cc_w K) r J0) 0 0 0 0 I 0 [(0, .ref (cw_a (cc_w K) 20)), (1, .int x1)] [] from ?_)
  refine cw_aload_n dX6_cutOf_0 0 rfl rfl ?_
  refine cw_getf (C := RX6) (T := TX6) (N := 2) (ci := 7) inX6_cutOf_RX6 20 (show 20 < 32 by decide) rfl rfl 1 (by decide) (by decide +kernel) rfl dX6_cutOf_1 ?_
  refine cw_iload_n dX6_cutOf_4 1 rfl rfl ?_
  obtain ⟨v_5, J_5, hc_5, h⟩ := h
  refine cw_callV (o := 5) (As := [.int x1]) hc_5 okX1_worthOfAll rfl gX6_cutOf_X1_worthOfAll (by decide) (show 5 < 32 by decide) rfl (ci := 2) rfl rfl (Nat.le_of_ble_eq_true rfl) dX6_cutOf_5 ?_
  refine cw_istore_n dX6_cutOf_8 rfl (by decide) rfl ?_
  refine cw_iload_n dX6_cutOf_9 0 rfl rfl ?_
  refine cw_istore_n dX6_cutOf_10 rfl (by decide) rfl ?_
  refine cw_iconst (v := 0) dX6_cutOf_11 (by decide) ?_
  refine cw_istore dX6_cutOf_12 (by decide) rfl ?_
  refine cw_iconst (v := 0) dX6_cutOf_14 (by decide) ?_
  refine cw_istore dX6_cutOf_15 (by decide) rfl ?_
  refine cw_sub [4, 5, 3, 2, 1, 0] rfl ?_
  exact h
set_option maxRecDepth 20000 in
set_option maxHeartbeats 4000000 in
theorem tbX6_cutOf_20_17 {K : cw_K} {r : Option Value} {J0 I : cw_M} {x1 : Int32} {x2 : Int32} {x3 : Int32} {x4 : Int32} {x5 : Int32} (h : (((I 5 0) ≤ x5 → (r = some (.int x4) ∧ J0 = I)) ∧ (¬ (I 5 0) ≤ x5 → (∃ (v_38 : Int32) (J_38 : cw_M), cw_C (cc_w K) mX1_valueOf [.ref (cw_a (cc_w K) 5), .int x1, .int x5] I (some (.int v_38)) J_38 ∧ ((x3 ≤ (if 0 ≤ (x2 - (2 * v_38)) then (x2 - (2 * v_38)) else 0 - (x2 - (2 * v_38))) → bX6_cutOf_20_17 K r J0 x1 (x2 - (2 * v_38)) x3 x4 (x5 + 1) J_38) ∧ (¬ x3 ≤ (if 0 ≤ (x2 - (2 * v_38)) then (x2 - (2 * v_38)) else 0 - (x2 - (2 * v_38))) → bX6_cutOf_20_17 K r J0 x1 (x2 - (2 * v_38)) (if 0 ≤ (x2 - (2 * v_38)) then (x2 - (2 * v_38)) else 0 - (x2 - (2 * v_38))) (x5 + 1) (x5 + 1) J_38)))))) : bX6_cutOf_20_17 K r J0 x1 x2 x3 x4 x5 I := by
  refine cw_iload dX6_cutOf_17 5 rfl ?_
  refine cw_aload_n dX6_cutOf_19 0 rfl rfl ?_
  refine cw_getf (C := RX6) (T := TX6) (N := 2) (ci := 7) inX6_cutOf_RX6 20 (show 20 < 32 by decide) rfl rfl 1 (by decide) (by decide +kernel) rfl dX6_cutOf_20 ?_
  refine cw_getf (C := RX1) (T := TX1) (N := 6) (ci := 2) inX6_cutOf_RX1 5 (show 5 < 32 by decide) rfl rfl 0 (by decide) (by decide +kernel) rfl dX6_cutOf_23 ?_
  refine cw_icmp_ge (tgt := 69) dX6_cutOf_26 (by decide) (fun q => ?_) (fun q => ?_)
  · have h := h.1 q
    refine cw_iload dX6_cutOf_69 4 rfl ?_
    exact cw_iret rfl dX6_cutOf_71 h
  · have h := h.2 q
    refine cw_iload_n dX6_cutOf_29 2 rfl rfl ?_
    refine cw_iconst (v := 2) dX6_cutOf_30 (by decide) ?_
    refine cw_aload_n dX6_cutOf_31 0 rfl rfl ?_
    refine cw_getf (C := RX6) (T := TX6) (N := 2) (ci := 7) inX6_cutOf_RX6 20 (show 20 < 32 by decide) rfl rfl 1 (by decide) (by decide +kernel) rfl dX6_cutOf_32 ?_
    refine cw_iload_n dX6_cutOf_35 1 rfl rfl ?_
    refine cw_iload dX6_cutOf_36 5 rfl ?_
    obtain ⟨v_38, J_38, hc_38, h⟩ := h
    refine cw_callV (o := 5) (As := [.int x1, .int x5]) hc_38 okX1_valueOf rfl gX6_cutOf_X1_valueOf (by decide) (show 5 < 32 by decide) rfl (ci := 2) rfl rfl (Nat.le_of_ble_eq_true rfl) dX6_cutOf_38 ?_
    refine cw_imul dX6_cutOf_41 ?_
    refine cw_isub dX6_cutOf_42 ?_
    refine cw_istore_n dX6_cutOf_43 rfl (by decide) rfl ?_
    refine cw_iload_n dX6_cutOf_44 0 rfl rfl ?_
    refine cw_mabs (by decide +kernel) (by decide +kernel) (by decide +kernel) (by decide +kernel) ⟨by decide, Nat.le_of_ble_eq_true rfl⟩ dX6_cutOf_45 ?_
    refine cw_iload_n dX6_cutOf_48 3 rfl rfl ?_
    refine cw_icmp_ge (tgt := 63) dX6_cutOf_49 (by decide) (fun q => ?_) (fun q => ?_)
    · have h := h.1 q
      refine cw_iinc (v := x5 + 1) dX6_cutOf_63 (j := 5) rfl rfl (by decide) rfl ?_
      refine cw_goto (tgt := 17) dX6_cutOf_66 (by decide) ?_
      refine cw_sub [2, 3, 1, 4, 5, 0] rfl ?_
      exact h
    · have h := h.2 q
      refine cw_iload_n dX6_cutOf_52 0 rfl rfl ?_
      refine cw_mabs (by decide +kernel) (by decide +kernel) (by decide +kernel) (by decide +kernel) ⟨by decide, Nat.le_of_ble_eq_true rfl⟩ dX6_cutOf_53 ?_
      refine cw_istore_n dX6_cutOf_56 rfl (by decide) rfl ?_
      refine cw_iload dX6_cutOf_57 5 rfl ?_
      refine cw_iconst (v := 1) dX6_cutOf_59 (by decide) ?_
      refine cw_iadd dX6_cutOf_60 ?_
      refine cw_istore dX6_cutOf_61 (by decide) rfl ?_
      refine cw_iinc (v := x5 + 1) dX6_cutOf_63 (j := 5) rfl rfl (by decide) rfl ?_
      refine cw_goto (tgt := 17) dX6_cutOf_66 (by decide) ?_
      refine cw_sub [4, 5, 3, 2, 1, 0] rfl ?_
      exact h
set_option maxRecDepth 20000 in
set_option maxHeartbeats 4000000 in
theorem eX6_cutAndChoose_20 {K : cw_K} {r : Option Value} {J0 I : cw_M} {x1 : Int32} {x2 : Int32} (h : (∃ (v_2 : Int32) (J_2 : cw_M), cw_C (cc_w K) mX6_cutOf [.ref (cw_a (cc_w K) 20), .int x1] I (some (.int v_2)) J_2 ∧ (∃ (v_13 : Int32) (J_13 : cw_M), cw_C (cc_w K) mX1_worthOfRun [.ref (cw_a (cc_w K) 5), .int x2, .int 0, .int v_2] J_2 (some (.int v_13)) J_13 ∧ (∃ (v_31 : Int32) (J_31 : cw_M), cw_C (cc_w K) mX1_worthOfRun [.ref (cw_a (cc_w K) 5), .int x2, .int v_2, .int (J_13 5 0)] J_13 (some (.int v_31)) J_31 ∧ ((v_13 < v_31 → (∃ J_73 : cw_M, cw_C (cc_w K) mX1_assign [.ref (cw_a (cc_w K) 5), .ref (cw_a (cc_w K) 9), .int x1, .int 0, .int v_2] J_31 none J_73 ∧ (∃ J_105 : cw_M, cw_C (cc_w K) mX1_assign [.ref (cw_a (cc_w K) 5), .ref (cw_a (cc_w K) 9), .int x2, .int v_2, .int (J_73 5 0)] J_73 none J_105 ∧ (r = some (.int v_2) ∧ J0 = J_105)))) ∧ (¬ v_13 < v_31 → (∃ J_73 : cw_M, cw_C (cc_w K) mX1_assign [.ref (cw_a (cc_w K) 5), .ref (cw_a (cc_w K) 9), .int x2, .int 0, .int v_2] J_31 none J_73 ∧ (∃ J_105 : cw_M, cw_C (cc_w K) mX1_assign [.ref (cw_a (cc_w K) 5), .ref (cw_a (cc_w K) 9), .int x1, .int v_2, .int (J_73 5 0)] J_73 none J_105 ∧ (r = some (.int v_2) ∧ J0 = J_105))))))))) : cw_C (cc_w K) mX6_cutAndChoose [.ref (cw_a (cc_w K) 20), .int x1, .int x2] I r J0 := by
  refine cw_entry okX6_cutAndChoose (Nat.le_of_ble_eq_true rfl) (show cw_B (cc_w K) (cc_w K) mX6_cutAndChoose (cw_Z (cc_w K) r J0) 0 0 0 0 I 0 [(0, .ref (cw_a (cc_w K) 20)), (1, .int x1), (2, .int x2)] [] from ?_)
  refine cw_aload_n dX6_cutAndChoose_0 0 rfl rfl ?_
  refine cw_iload_n dX6_cutAndChoose_1 1 rfl rfl ?_
  obtain ⟨v_2, J_2, hc_2, h⟩ := h
  refine cw_callV (o := 20) (As := [.int x1]) hc_2 okX6_cutOf rfl gX6_cutAndChoose_X6_cutOf (by decide) (show 20 < 32 by decide) rfl (ci := 7) rfl rfl (Nat.le_of_ble_eq_true rfl) dX6_cutAndChoose_2 ?_
  refine cw_istore_n dX6_cutAndChoose_5 rfl (by decide) rfl ?_
  refine cw_aload_n dX6_cutAndChoose_6 1 rfl rfl ?_
  refine cw_getf (C := RX6) (T := TX6) (N := 2) (ci := 7) inX6_cutAndChoose_RX6 20 (show 20 < 32 by decide) rfl rfl 1 (by decide) (by decide +kernel) rfl dX6_cutAndChoose_7 ?_
  refine cw_iload_n dX6_cutAndChoose_10 3 rfl rfl ?_
  refine cw_iconst (v := 0) dX6_cutAndChoose_11 (by decide) ?_
  refine cw_iload_n dX6_cutAndChoose_12 0 rfl rfl ?_
  obtain ⟨v_13, J_13, hc_13, h⟩ := h
  refine cw_callV (o := 5) (As := [.int x2, .int 0, .int v_2]) hc_13 okX1_worthOfRun rfl gX6_cutAndChoose_X1_worthOfRun (by decide) (show 5 < 32 by decide) rfl (ci := 2) rfl rfl (Nat.le_of_ble_eq_true rfl) dX6_cutAndChoose_13 ?_
  refine cw_istore dX6_cutAndChoose_16 (by decide) rfl ?_
  refine cw_aload_n dX6_cutAndChoose_18 2 rfl rfl ?_
  refine cw_getf (C := RX6) (T := TX6) (N := 2) (ci := 7) inX6_cutAndChoose_RX6 20 (show 20 < 32 by decide) rfl rfl 1 (by decide) (by decide +kernel) rfl dX6_cutAndChoose_19 ?_
  refine cw_iload_n dX6_cutAndChoose_22 4 rfl rfl ?_
  refine cw_iload_n dX6_cutAndChoose_23 1 rfl rfl ?_
  refine cw_aload_n dX6_cutAndChoose_24 2 rfl rfl ?_
  refine cw_getf (C := RX6) (T := TX6) (N := 2) (ci := 7) inX6_cutAndChoose_RX6 20 (show 20 < 32 by decide) rfl rfl 1 (by decide) (by decide +kernel) rfl dX6_cutAndChoose_25 ?_
  refine cw_getf (C := RX1) (T := TX1) (N := 6) (ci := 2) inX6_cutAndChoose_RX1 5 (show 5 < 32 by decide) rfl rfl 0 (by decide) (by decide +kernel) rfl dX6_cutAndChoose_28 ?_
  obtain ⟨v_31, J_31, hc_31, h⟩ := h
  refine cw_callV (o := 5) (As := [.int x2, .int v_2, .int (J_13 5 0)]) hc_31 okX1_worthOfRun rfl gX6_cutAndChoose_X1_worthOfRun (by decide) (show 5 < 32 by decide) rfl (ci := 2) rfl rfl (Nat.le_of_ble_eq_true rfl) dX6_cutAndChoose_31 ?_
  refine cw_istore dX6_cutAndChoose_34 (by decide) rfl ?_
  refine cw_iload dX6_cutAndChoose_36 1 rfl ?_
  refine cw_iload dX6_cutAndChoose_38 0 rfl ?_
  refine cw_icmp_lt (tgt := 47) dX6_cutAndChoose_40 (by decide) (fun q => ?_) (fun q => ?_)
  · have h := h.1 q
    refine cw_iconst (v := 0) dX6_cutAndChoose_47 (by decide) ?_
    refine cw_istore dX6_cutAndChoose_48 (by decide) rfl ?_
    refine cw_aload_n dX6_cutAndChoose_50 4 rfl rfl ?_
    refine cw_getf (C := RX6) (T := TX6) (N := 2) (ci := 7) inX6_cutAndChoose_RX6 20 (show 20 < 32 by decide) rfl rfl 1 (by decide) (by decide +kernel) rfl dX6_cutAndChoose_51 ?_
    refine cw_aload_n dX6_cutAndChoose_54 4 rfl rfl ?_
    refine cw_getf (C := RX6) (T := TX6) (N := 2) (ci := 7) inX6_cutAndChoose_RX6 20 (show 20 < 32 by decide) rfl rfl 1 (by decide) (by decide +kernel) rfl dX6_cutAndChoose_55 ?_
    refine cw_getf (C := RX1) (T := TX1) (N := 6) (ci := 2) inX6_cutAndChoose_RX1 5 (show 5 < 32 by decide) rfl rfl 5 (by decide) (by decide +kernel) rfl dX6_cutAndChoose_58 ?_
    refine cw_iload dX6_cutAndChoose_61 0 rfl ?_
    refine cw_if_eq (tgt := 70) dX6_cutAndChoose_63 (by decide) (fun _ => ?_) (fun q => absurd q (by decide))
    refine cw_iload_n dX6_cutAndChoose_70 5 rfl rfl ?_
    refine cw_iconst (v := 0) dX6_cutAndChoose_71 (by decide) ?_
    refine cw_iload_n dX6_cutAndChoose_72 3 rfl rfl ?_
    obtain ⟨J_73, hc_73, h⟩ := h
    refine cw_callV (o := 5) (As := [.ref (cw_a (cc_w K) 9), .int x1, .int 0, .int v_2]) hc_73 okX1_assign rfl gX6_cutAndChoose_X1_assign (by decide) (show 5 < 32 by decide) rfl (ci := 2) rfl rfl (Nat.le_of_ble_eq_true rfl) dX6_cutAndChoose_73 ?_
    refine cw_aload_n dX6_cutAndChoose_76 4 rfl rfl ?_
    refine cw_getf (C := RX6) (T := TX6) (N := 2) (ci := 7) inX6_cutAndChoose_RX6 20 (show 20 < 32 by decide) rfl rfl 1 (by decide) (by decide +kernel) rfl dX6_cutAndChoose_77 ?_
    refine cw_aload_n dX6_cutAndChoose_80 4 rfl rfl ?_
    refine cw_getf (C := RX6) (T := TX6) (N := 2) (ci := 7) inX6_cutAndChoose_RX6 20 (show 20 < 32 by decide) rfl rfl 1 (by decide) (by decide +kernel) rfl dX6_cutAndChoose_81 ?_
    refine cw_getf (C := RX1) (T := TX1) (N := 6) (ci := 2) inX6_cutAndChoose_RX1 5 (show 5 < 32 by decide) rfl rfl 5 (by decide) (by decide +kernel) rfl dX6_cutAndChoose_84 ?_
    refine cw_iload dX6_cutAndChoose_87 0 rfl ?_
    refine cw_if_eq (tgt := 96) dX6_cutAndChoose_89 (by decide) (fun _ => ?_) (fun q => absurd q (by decide))
    refine cw_iload_n dX6_cutAndChoose_96 6 rfl rfl ?_
    refine cw_iload_n dX6_cutAndChoose_97 3 rfl rfl ?_
    refine cw_aload_n dX6_cutAndChoose_98 4 rfl rfl ?_
    refine cw_getf (C := RX6) (T := TX6) (N := 2) (ci := 7) inX6_cutAndChoose_RX6 20 (show 20 < 32 by decide) rfl rfl 1 (by decide) (by decide +kernel) rfl dX6_cutAndChoose_99 ?_
    refine cw_getf (C := RX1) (T := TX1) (N := 6) (ci := 2) inX6_cutAndChoose_RX1 5 (show 5 < 32 by decide) rfl rfl 0 (by decide) (by decide +kernel) rfl dX6_cutAndChoose_102 ?_
    obtain ⟨J_105, hc_105, h⟩ := h
    refine cw_callV (o := 5) (As := [.ref (cw_a (cc_w K) 9), .int x2, .int v_2, .int (J_73 5 0)]) hc_105 okX1_assign rfl gX6_cutAndChoose_X1_assign (by decide) (show 5 < 32 by decide) rfl (ci := 2) rfl rfl (Nat.le_of_ble_eq_true rfl) dX6_cutAndChoose_105 ?_
    refine cw_iload_n dX6_cutAndChoose_108 3 rfl rfl ?_
    exact cw_iret rfl dX6_cutAndChoose_109 h
  · have h := h.2 q
    refine cw_iconst (v := 1) dX6_cutAndChoose_43 (by decide) ?_
    refine cw_goto (tgt := 48) dX6_cutAndChoose_44 (by decide) ?_
    refine cw_istore dX6_cutAndChoose_48 (by decide) rfl ?_
    refine cw_aload_n dX6_cutAndChoose_50 4 rfl rfl ?_
    refine cw_getf (C := RX6) (T := TX6) (N := 2) (ci := 7) inX6_cutAndChoose_RX6 20 (show 20 < 32 by decide) rfl rfl 1 (by decide) (by decide +kernel) rfl dX6_cutAndChoose_51 ?_
    refine cw_aload_n dX6_cutAndChoose_54 4 rfl rfl ?_
    refine cw_getf (C := RX6) (T := TX6) (N := 2) (ci := 7) inX6_cutAndChoose_RX6 20 (show 20 < 32 by decide) rfl rfl 1 (by decide) (by decide +kernel) rfl dX6_cutAndChoose_55 ?_
    refine cw_getf (C := RX1) (T := TX1) (N := 6) (ci := 2) inX6_cutAndChoose_RX1 5 (show 5 < 32 by decide) rfl rfl 5 (by decide) (by decide +kernel) rfl dX6_cutAndChoose_58 ?_
    refine cw_iload dX6_cutAndChoose_61 0 rfl ?_
    refine cw_if_eq (tgt := 70) dX6_cutAndChoose_63 (by decide) (fun q => absurd q (by decide)) (fun _ => ?_)
    refine cw_iload_n dX6_cutAndChoose_66 6 rfl rfl ?_
    refine cw_goto (tgt := 71) dX6_cutAndChoose_67 (by decide) ?_
    refine cw_iconst (v := 0) dX6_cutAndChoose_71 (by decide) ?_
    refine cw_iload_n dX6_cutAndChoose_72 3 rfl rfl ?_
    obtain ⟨J_73, hc_73, h⟩ := h
    refine cw_callV (o := 5) (As := [.ref (cw_a (cc_w K) 9), .int x2, .int 0, .int v_2]) hc_73 okX1_assign rfl gX6_cutAndChoose_X1_assign (by decide) (show 5 < 32 by decide) rfl (ci := 2) rfl rfl (Nat.le_of_ble_eq_true rfl) dX6_cutAndChoose_73 ?_
    refine cw_aload_n dX6_cutAndChoose_76 4 rfl rfl ?_
    refine cw_getf (C := RX6) (T := TX6) (N := 2) (ci := 7) inX6_cutAndChoose_RX6 20 (show 20 < 32 by decide) rfl rfl 1 (by decide) (by decide +kernel) rfl dX6_cutAndChoose_77 ?_
    refine cw_aload_n dX6_cutAndChoose_80 4 rfl rfl ?_
    refine cw_getf (C := RX6) (T := TX6) (N := 2) (ci := 7) inX6_cutAndChoose_RX6 20 (show 20 < 32 by decide) rfl rfl 1 (by decide) (by decide +kernel) rfl dX6_cutAndChoose_81 ?_
    refine cw_getf (C := RX1) (T := TX1) (N := 6) (ci := 2) inX6_cutAndChoose_RX1 5 (show 5 < 32 by decide) rfl rfl 5 (by decide) (by decide +kernel) rfl dX6_cutAndChoose_84 ?_
    refine cw_iload dX6_cutAndChoose_87 0 rfl ?_
    refine cw_if_eq (tgt := 96) dX6_cutAndChoose_89 (by decide) (fun q => absurd q (by decide)) (fun _ => ?_)
    refine cw_iload_n dX6_cutAndChoose_92 5 rfl rfl ?_
    refine cw_goto (tgt := 97) dX6_cutAndChoose_93 (by decide) ?_
    refine cw_iload_n dX6_cutAndChoose_97 3 rfl rfl ?_
    refine cw_aload_n dX6_cutAndChoose_98 4 rfl rfl ?_
    refine cw_getf (C := RX6) (T := TX6) (N := 2) (ci := 7) inX6_cutAndChoose_RX6 20 (show 20 < 32 by decide) rfl rfl 1 (by decide) (by decide +kernel) rfl dX6_cutAndChoose_99 ?_
    refine cw_getf (C := RX1) (T := TX1) (N := 6) (ci := 2) inX6_cutAndChoose_RX1 5 (show 5 < 32 by decide) rfl rfl 0 (by decide) (by decide +kernel) rfl dX6_cutAndChoose_102 ?_
    obtain ⟨J_105, hc_105, h⟩ := h
    refine cw_callV (o := 5) (As := [.ref (cw_a (cc_w K) 9), .int x1, .int v_2, .int (J_73 5 0)]) hc_105 okX1_assign rfl gX6_cutAndChoose_X1_assign (by decide) (show 5 < 32 by decide) rfl (ci := 2) rfl rfl (Nat.le_of_ble_eq_true rfl) dX6_cutAndChoose_105 ?_
    refine cw_iload_n dX6_cutAndChoose_108 3 rfl rfl ?_
    exact cw_iret rfl dX6_cutAndChoose_109 h
abbrev bX6_favouriteOf_20_9_8 (K : cw_K) (r : Option Value) (J0 : cw_M) (x2 : Int32) (x3 : Int32) (x4 : Int32) (x5 : Int32) (I : cw_M) : Prop := cw_B (cc_w K) (cc_w K) mX6_favouriteOf (cw_Z (cc_w K) r J0) 0 0 0 0 I 8 [(0, .ref (cw_a (cc_w K) 20)), (1, .ref (cw_a (cc_w K) 9)), (2, .int x2), (3, .int x3), (4, .int x4), (5, .int x5)] []
set_option maxRecDepth 20000 in
set_option maxHeartbeats 4000000 in
theorem eX6_favouriteOf_20_9 {K : cw_K} {r : Option Value} {J0 I : cw_M} {x2 : Int32} (h : bX6_favouriteOf_20_9_8 K r J0 x2 (-1) (-1) 0 I) : cw_C (cc_w K) mX6_favouriteOf [.ref (cw_a (cc_w K) 20), .ref (cw_a (cc_w K) 9), .int x2] I r J0 := by
  refine cw_entry okX6_favouriteOf (Nat.le_of_ble_eq_true rfl) (show cw_B (cc_w K) (cc_w K) mX6_favouriteOf (cw_Z (cc_w K) r J0) 0 0 0 0 I 0 [(0, .ref (cw_a (cc_w K) 20)), (1, .ref (cw_a (cc_w K) 9)), (2, .int x2)] [] from ?_)
  refine cw_iconst (v := (-1)) dX6_favouriteOf_0 (by decide) ?_
  refine cw_istore_n dX6_favouriteOf_1 rfl (by decide) rfl ?_
  refine cw_iconst (v := (-1)) dX6_favouriteOf_2 (by decide) ?_
  refine cw_istore dX6_favouriteOf_3 (by decide) rfl ?_
  refine cw_iconst (v := 0) dX6_favouriteOf_5 (by decide) ?_
  refine cw_istore dX6_favouriteOf_6 (by decide) rfl ?_
  refine cw_sub [3, 4, 5, 2, 1, 0] rfl ?_
  exact h
set_option maxRecDepth 20000 in
set_option maxHeartbeats 4000000 in
theorem tbX6_favouriteOf_20_9_8 {K : cw_K} {r : Option Value} {J0 I : cw_M} {x2 : Int32} {x3 : Int32} {x4 : Int32} {x5 : Int32} (h : (((I 5 0) ≤ x5 → (r = some (.int x3) ∧ J0 = I)) ∧ (¬ (I 5 0) ≤ x5 → (vp_in x5 24 ∧ ((¬ (I 9 x5.toNatClampNeg) = (-1) → bX6_favouriteOf_20_9_8 K r J0 x2 x3 x4 (x5 + 1) I) ∧ ((I 9 x5.toNatClampNeg) = (-1) → (∃ (v_35 : Int32) (J_35 : cw_M), cw_C (cc_w K) mX1_valueOf [.ref (cw_a (cc_w K) 5), .int x2, .int x5] I (some (.int v_35)) J_35 ∧ ((v_35 ≤ x4 → bX6_favouriteOf_20_9_8 K r J0 x2 x3 x4 (x5 + 1) J_35) ∧ (¬ v_35 ≤ x4 → (∃ (v_50 : Int32) (J_50 : cw_M), cw_C (cc_w K) mX1_valueOf [.ref (cw_a (cc_w K) 5), .int x2, .int x5] J_35 (some (.int v_50)) J_50 ∧ bX6_favouriteOf_20_9_8 K r J0 x2 x5 v_50 (x5 + 1) J_50)))))))))) : bX6_favouriteOf_20_9_8 K r J0 x2 x3 x4 x5 I := by
  refine cw_iload dX6_favouriteOf_8 5 rfl ?_
  refine cw_aload_n dX6_favouriteOf_10 0 rfl rfl ?_
  refine cw_getf (C := RX6) (T := TX6) (N := 2) (ci := 7) inX6_favouriteOf_RX6 20 (show 20 < 32 by decide) rfl rfl 1 (by decide) (by decide +kernel) rfl dX6_favouriteOf_11 ?_
  refine cw_getf (C := RX1) (T := TX1) (N := 6) (ci := 2) inX6_favouriteOf_RX1 5 (show 5 < 32 by decide) rfl rfl 0 (by decide) (by decide +kernel) rfl dX6_favouriteOf_14 ?_
  refine cw_icmp_ge (tgt := 64) dX6_favouriteOf_17 (by decide) (fun q => ?_) (fun q => ?_)
  · have h := h.1 q
    refine cw_iload_n dX6_favouriteOf_64 3 rfl rfl ?_
    exact cw_iret rfl dX6_favouriteOf_65 h
  · have h := h.2 q
    refine cw_aload_n dX6_favouriteOf_20 1 rfl rfl ?_
    refine cw_iload dX6_favouriteOf_21 5 rfl ?_
    obtain ⟨g_23, h⟩ := h
    refine cw_iald 9 (show 9 < 32 by decide) rfl 0 rfl dX6_favouriteOf_23 g_23 ?_
    refine cw_iconst (v := (-1)) dX6_favouriteOf_24 (by decide) ?_
    refine cw_icmp_ne (tgt := 58) dX6_favouriteOf_25 (by decide) (fun q => ?_) (fun q => ?_)
    · have h := h.1 q
      refine cw_iinc (v := x5 + 1) dX6_favouriteOf_58 (j := 5) rfl rfl (by decide) rfl ?_
      refine cw_goto (tgt := 8) dX6_favouriteOf_61 (by decide) ?_
      refine cw_sub [1, 2, 3, 4, 5, 0] rfl ?_
      exact h
    · have h := h.2 q
      refine cw_aload_n dX6_favouriteOf_28 0 rfl rfl ?_
      refine cw_getf (C := RX6) (T := TX6) (N := 2) (ci := 7) inX6_favouriteOf_RX6 20 (show 20 < 32 by decide) rfl rfl 1 (by decide) (by decide +kernel) rfl dX6_favouriteOf_29 ?_
      refine cw_iload_n dX6_favouriteOf_32 2 rfl rfl ?_
      refine cw_iload dX6_favouriteOf_33 5 rfl ?_
      obtain ⟨v_35, J_35, hc_35, h⟩ := h
      refine cw_callV (o := 5) (As := [.int x2, .int x5]) hc_35 okX1_valueOf rfl gX6_favouriteOf_X1_valueOf (by decide) (show 5 < 32 by decide) rfl (ci := 2) rfl rfl (Nat.le_of_ble_eq_true rfl) dX6_favouriteOf_35 ?_
      refine cw_iload dX6_favouriteOf_38 4 rfl ?_
      refine cw_icmp_le (tgt := 58) dX6_favouriteOf_40 (by decide) (fun q => ?_) (fun q => ?_)
      · have h := h.1 q
        refine cw_iinc (v := x5 + 1) dX6_favouriteOf_58 (j := 5) rfl rfl (by decide) rfl ?_
        refine cw_goto (tgt := 8) dX6_favouriteOf_61 (by decide) ?_
        refine cw_sub [1, 2, 3, 4, 5, 0] rfl ?_
        exact h
      · have h := h.2 q
        refine cw_aload_n dX6_favouriteOf_43 0 rfl rfl ?_
        refine cw_getf (C := RX6) (T := TX6) (N := 2) (ci := 7) inX6_favouriteOf_RX6 20 (show 20 < 32 by decide) rfl rfl 1 (by decide) (by decide +kernel) rfl dX6_favouriteOf_44 ?_
        refine cw_iload_n dX6_favouriteOf_47 2 rfl rfl ?_
        refine cw_iload dX6_favouriteOf_48 5 rfl ?_
        obtain ⟨v_50, J_50, hc_50, h⟩ := h
        refine cw_callV (o := 5) (As := [.int x2, .int x5]) hc_50 okX1_valueOf rfl gX6_favouriteOf_X1_valueOf (by decide) (show 5 < 32 by decide) rfl (ci := 2) rfl rfl (Nat.le_of_ble_eq_true rfl) dX6_favouriteOf_50 ?_
        refine cw_istore dX6_favouriteOf_53 (by decide) rfl ?_
        refine cw_iload dX6_favouriteOf_55 5 rfl ?_
        refine cw_istore_n dX6_favouriteOf_57 rfl (by decide) rfl ?_
        refine cw_iinc (v := x5 + 1) dX6_favouriteOf_58 (j := 5) rfl rfl (by decide) rfl ?_
        refine cw_goto (tgt := 8) dX6_favouriteOf_61 (by decide) ?_
        refine cw_sub [3, 4, 5, 1, 2, 0] rfl ?_
        exact h
abbrev bX6_divideByKnife_20_9_13 (K : cw_K) (r : Option Value) (J0 : cw_M) (x2 : Int32) (x3 : Int32) (x4 : Int32) (I : cw_M) : Prop := cw_B (cc_w K) (cc_w K) mX6_divideByKnife (cw_Z (cc_w K) r J0) 0 0 0 0 I 13 [(0, .ref (cw_a (cc_w K) 20)), (1, .ref (cw_a (cc_w K) 9)), (2, .int x2), (3, .int x3), (4, .int x4)] []
set_option maxRecDepth 20000 in
set_option maxHeartbeats 4000000 in
theorem eX6_divideByKnife_20_9 {K : cw_K} {r : Option Value} {J0 I : cw_M} (h : bX6_divideByKnife_20_9_13 K r J0 0 0 (I 5 1) I) : cw_C (cc_w K) mX6_divideByKnife [.ref (cw_a (cc_w K) 20), .ref (cw_a (cc_w K) 9)] I r J0 := by
  refine cw_entry okX6_divideByKnife (Nat.le_of_ble_eq_true rfl) (show cw_B (cc_w K) (cc_w K) mX6_divideByKnife (cw_Z (cc_w K) r J0) 0 0 0 0 I 0 [(0, .ref (cw_a (cc_w K) 20)), (1, .ref (cw_a (cc_w K) 9))] [] from ?_)
  refine cw_iconst (v := 0) dX6_divideByKnife_0 (by decide) ?_
  refine cw_istore_n dX6_divideByKnife_1 rfl (by decide) rfl ?_
  refine cw_iconst (v := 0) dX6_divideByKnife_2 (by decide) ?_
  refine cw_istore_n dX6_divideByKnife_3 rfl (by decide) rfl ?_
  refine cw_aload_n dX6_divideByKnife_4 2 rfl rfl ?_
  refine cw_getf (C := RX6) (T := TX6) (N := 2) (ci := 7) inX6_divideByKnife_RX6 20 (show 20 < 32 by decide) rfl rfl 1 (by decide) (by decide +kernel) rfl dX6_divideByKnife_5 ?_
  refine cw_getf (C := RX1) (T := TX1) (N := 6) (ci := 2) inX6_divideByKnife_RX1 5 (show 5 < 32 by decide) rfl rfl 1 (by decide) (by decide +kernel) rfl dX6_divideByKnife_8 ?_
  refine cw_istore dX6_divideByKnife_11 (by decide) rfl ?_
  refine cw_sub [3, 4, 2, 1, 0] rfl ?_
  exact h
set_option maxRecDepth 20000 in
set_option maxHeartbeats 4000000 in
theorem tbX6_divideByKnife_20_9_13 {K : cw_K} {r : Option Value} {J0 I : cw_M} {x2 : Int32} {x3 : Int32} {x4 : Int32} (h : ((x4 ≤ 1 → (∃ (v_89 : Int32) (J_89 : cw_M), cw_C (cc_w K) mX6_firstWaiting [.ref (cw_a (cc_w K) 20), .int x2] I (some (.int v_89)) J_89 ∧ (∃ J_100 : cw_M, cw_C (cc_w K) mX1_assign [.ref (cw_a (cc_w K) 5), .ref (cw_a (cc_w K) 9), .int v_89, .int x3, .int (J_89 5 0)] J_89 none J_100 ∧ (r = none ∧ J0 = J_100)))) ∧ (¬ x4 ≤ 1 → (((I 5 0) ≤ x3 → (∃ (v_89 : Int32) (J_89 : cw_M), cw_C (cc_w K) mX6_firstWaiting [.ref (cw_a (cc_w K) 20), .int x2] I (some (.int v_89)) J_89 ∧ (∃ J_100 : cw_M, cw_C (cc_w K) mX1_assign [.ref (cw_a (cc_w K) 5), .ref (cw_a (cc_w K) 9), .int v_89, .int x3, .int (J_89 5 0)] J_89 none J_100 ∧ (r = none ∧ J0 = J_100)))) ∧ (¬ (I 5 0) ≤ x3 → (∃ (v_35 : Int32) (J_35 : cw_M), cw_C (cc_w K) mX6_firstToCall [.ref (cw_a (cc_w K) 20), .int x2, .int x3, .int x4] I (some (.int v_35)) J_35 ∧ (∃ (v_46 : Int32) (J_46 : cw_M), cw_C (cc_w K) mX6_markOf [.ref (cw_a (cc_w K) 20), .int v_35, .int x3, .int x4] J_35 (some (.int v_46)) J_46 ∧ (∃ J_63 : cw_M, cw_C (cc_w K) mX1_assign [.ref (cw_a (cc_w K) 5), .ref (cw_a (cc_w K) 9), .int v_35, .int x3, .int (v_46 + 1)] J_46 none J_63 ∧ bX6_divideByKnife_20_9_13 K r J0 (x2 ||| (1 <<< (v_35 &&& 31))) (v_46 + 1) (x4 + (-1)) J_63)))))))) : bX6_divideByKnife_20_9_13 K r J0 x2 x3 x4 I := by
  refine cw_iload dX6_divideByKnife_13 4 rfl ?_
  refine cw_iconst (v := 1) dX6_divideByKnife_15 (by decide) ?_
  refine cw_icmp_le (tgt := 82) dX6_divideByKnife_16 (by decide) (fun q => ?_) (fun q => ?_)
  · have h := h.1 q
    refine cw_aload_n dX6_divideByKnife_82 0 rfl rfl ?_
    refine cw_getf (C := RX6) (T := TX6) (N := 2) (ci := 7) inX6_divideByKnife_RX6 20 (show 20 < 32 by decide) rfl rfl 1 (by decide) (by decide +kernel) rfl dX6_divideByKnife_83 ?_
    refine cw_aload_n dX6_divideByKnife_86 1 rfl rfl ?_
    refine cw_aload_n dX6_divideByKnife_87 0 rfl rfl ?_
    refine cw_iload_n dX6_divideByKnife_88 2 rfl rfl ?_
    obtain ⟨v_89, J_89, hc_89, h⟩ := h
    refine cw_callV (o := 20) (As := [.int x2]) hc_89 okX6_firstWaiting rfl gX6_divideByKnife_X6_firstWaiting (by decide) (show 20 < 32 by decide) rfl (ci := 7) rfl rfl (Nat.le_of_ble_eq_true rfl) dX6_divideByKnife_89 ?_
    refine cw_iload_n dX6_divideByKnife_92 3 rfl rfl ?_
    refine cw_aload_n dX6_divideByKnife_93 0 rfl rfl ?_
    refine cw_getf (C := RX6) (T := TX6) (N := 2) (ci := 7) inX6_divideByKnife_RX6 20 (show 20 < 32 by decide) rfl rfl 1 (by decide) (by decide +kernel) rfl dX6_divideByKnife_94 ?_
    refine cw_getf (C := RX1) (T := TX1) (N := 6) (ci := 2) inX6_divideByKnife_RX1 5 (show 5 < 32 by decide) rfl rfl 0 (by decide) (by decide +kernel) rfl dX6_divideByKnife_97 ?_
    obtain ⟨J_100, hc_100, h⟩ := h
    refine cw_callV (o := 5) (As := [.ref (cw_a (cc_w K) 9), .int v_89, .int x3, .int (J_89 5 0)]) hc_100 okX1_assign rfl gX6_divideByKnife_X1_assign (by decide) (show 5 < 32 by decide) rfl (ci := 2) rfl rfl (Nat.le_of_ble_eq_true rfl) dX6_divideByKnife_100 ?_
    exact cw_vret rfl dX6_divideByKnife_103 h
  · have h := h.2 q
    refine cw_iload_n dX6_divideByKnife_19 3 rfl rfl ?_
    refine cw_aload_n dX6_divideByKnife_20 0 rfl rfl ?_
    refine cw_getf (C := RX6) (T := TX6) (N := 2) (ci := 7) inX6_divideByKnife_RX6 20 (show 20 < 32 by decide) rfl rfl 1 (by decide) (by decide +kernel) rfl dX6_divideByKnife_21 ?_
    refine cw_getf (C := RX1) (T := TX1) (N := 6) (ci := 2) inX6_divideByKnife_RX1 5 (show 5 < 32 by decide) rfl rfl 0 (by decide) (by decide +kernel) rfl dX6_divideByKnife_24 ?_
    refine cw_icmp_ge (tgt := 82) dX6_divideByKnife_27 (by decide) (fun q => ?_) (fun q => ?_)
    · have h := h.1 q
      refine cw_aload_n dX6_divideByKnife_82 0 rfl rfl ?_
      refine cw_getf (C := RX6) (T := TX6) (N := 2) (ci := 7) inX6_divideByKnife_RX6 20 (show 20 < 32 by decide) rfl rfl 1 (by decide) (by decide +kernel) rfl dX6_divideByKnife_83 ?_
      refine cw_aload_n dX6_divideByKnife_86 1 rfl rfl ?_
      refine cw_aload_n dX6_divideByKnife_87 0 rfl rfl ?_
      refine cw_iload_n dX6_divideByKnife_88 2 rfl rfl ?_
      obtain ⟨v_89, J_89, hc_89, h⟩ := h
      refine cw_callV (o := 20) (As := [.int x2]) hc_89 okX6_firstWaiting rfl gX6_divideByKnife_X6_firstWaiting (by decide) (show 20 < 32 by decide) rfl (ci := 7) rfl rfl (Nat.le_of_ble_eq_true rfl) dX6_divideByKnife_89 ?_
      refine cw_iload_n dX6_divideByKnife_92 3 rfl rfl ?_
      refine cw_aload_n dX6_divideByKnife_93 0 rfl rfl ?_
      refine cw_getf (C := RX6) (T := TX6) (N := 2) (ci := 7) inX6_divideByKnife_RX6 20 (show 20 < 32 by decide) rfl rfl 1 (by decide) (by decide +kernel) rfl dX6_divideByKnife_94 ?_
      refine cw_getf (C := RX1) (T := TX1) (N := 6) (ci := 2) inX6_divideByKnife_RX1 5 (show 5 < 32 by decide) rfl rfl 0 (by decide) (by decide +kernel) rfl dX6_divideByKnife_97 ?_
      obtain ⟨J_100, hc_100, h⟩ := h
      refine cw_callV (o := 5) (As := [.ref (cw_a (cc_w K) 9), .int v_89, .int x3, .int (J_89 5 0)]) hc_100 okX1_assign rfl gX6_divideByKnife_X1_assign (by decide) (show 5 < 32 by decide) rfl (ci := 2) rfl rfl (Nat.le_of_ble_eq_true rfl) dX6_divideByKnife_100 ?_
      exact cw_vret rfl dX6_divideByKnife_103 h
    · have h := h.2 q
      refine cw_aload_n dX6_divideByKnife_30 0 rfl rfl ?_
      refine cw_iload_n dX6_divideByKnife_31 2 rfl rfl ?_
      refine cw_iload_n dX6_divideByKnife_32 3 rfl rfl ?_
      refine cw_iload dX6_divideByKnife_33 4 rfl ?_
      obtain ⟨v_35, J_35, hc_35, h⟩ := h
      refine cw_callV (o := 20) (As := [.int x2, .int x3, .int x4]) hc_35 okX6_firstToCall rfl gX6_divideByKnife_X6_firstToCall (by decide) (show 20 < 32 by decide) rfl (ci := 7) rfl rfl (Nat.le_of_ble_eq_true rfl) dX6_divideByKnife_35 ?_
      refine cw_istore dX6_divideByKnife_38 (by decide) rfl ?_
      refine cw_aload_n dX6_divideByKnife_40 1 rfl rfl ?_
      refine cw_iload dX6_divideByKnife_41 0 rfl ?_
      refine cw_iload_n dX6_divideByKnife_43 4 rfl rfl ?_
      refine cw_iload dX6_divideByKnife_44 5 rfl ?_
      obtain ⟨v_46, J_46, hc_46, h⟩ := h
      refine cw_callV (o := 20) (As := [.int v_35, .int x3, .int x4]) hc_46 okX6_markOf rfl gX6_divideByKnife_X6_markOf (by decide) (show 20 < 32 by decide) rfl (ci := 7) rfl rfl (Nat.le_of_ble_eq_true rfl) dX6_divideByKnife_46 ?_
      refine cw_iconst (v := 1) dX6_divideByKnife_49 (by decide) ?_
      refine cw_iadd dX6_divideByKnife_50 ?_
      refine cw_istore dX6_divideByKnife_51 (by decide) rfl ?_
      refine cw_aload_n dX6_divideByKnife_53 2 rfl rfl ?_
      refine cw_getf (C := RX6) (T := TX6) (N := 2) (ci := 7) inX6_divideByKnife_RX6 20 (show 20 < 32 by decide) rfl rfl 1 (by decide) (by decide +kernel) rfl dX6_divideByKnife_54 ?_
      refine cw_aload_n dX6_divideByKnife_57 3 rfl rfl ?_
      refine cw_iload dX6_divideByKnife_58 1 rfl ?_
      refine cw_iload_n dX6_divideByKnife_60 5 rfl rfl ?_
      refine cw_iload dX6_divideByKnife_61 0 rfl ?_
      obtain ⟨J_63, hc_63, h⟩ := h
      refine cw_callV (o := 5) (As := [.ref (cw_a (cc_w K) 9), .int v_35, .int x3, .int (v_46 + 1)]) hc_63 okX1_assign rfl gX6_divideByKnife_X1_assign (by decide) (show 5 < 32 by decide) rfl (ci := 2) rfl rfl (Nat.le_of_ble_eq_true rfl) dX6_divideByKnife_63 ?_
      refine cw_iload_n dX6_divideByKnife_66 4 rfl rfl ?_
      refine cw_iconst (v := 1) dX6_divideByKnife_67 (by decide) ?_
      refine cw_iload dX6_divideByKnife_68 1 rfl ?_
      refine cw_ishl dX6_divideByKnife_70 ?_
      refine cw_ior dX6_divideByKnife_71 ?_
      refine cw_istore_n dX6_divideByKnife_72 rfl (by decide) rfl ?_
      refine cw_iload dX6_divideByKnife_73 1 rfl ?_
      refine cw_istore_n dX6_divideByKnife_75 rfl (by decide) rfl ?_
      refine cw_iinc (v := x4 + (-1)) dX6_divideByKnife_76 (j := 6) rfl rfl (by decide) rfl ?_
      refine cw_goto (tgt := 13) dX6_divideByKnife_79 (by decide) ?_
      refine cw_sub [5, 6, 2, 1, 0] rfl ?_
      exact h
abbrev bX6_divideByRobin_20_9_5 (K : cw_K) (r : Option Value) (J0 : cw_M) (x3 : Int32) (x4 : Int32) (I : cw_M) : Prop := cw_B (cc_w K) (cc_w K) mX6_divideByRobin (cw_Z (cc_w K) r J0) 0 0 0 0 I 5 [(0, .ref (cw_a (cc_w K) 20)), (1, .ref (cw_a (cc_w K) 9)), (3, .int x3), (4, .int x4)] []
set_option maxRecDepth 20000 in
set_option maxHeartbeats 4000000 in
theorem eX6_divideByRobin_20_9 {K : cw_K} {r : Option Value} {J0 I : cw_M} {x2 : Int32} (h : bX6_divideByRobin_20_9_5 K r J0 x2 0 I) : cw_C (cc_w K) mX6_divideByRobin [.ref (cw_a (cc_w K) 20), .ref (cw_a (cc_w K) 9), .int x2] I r J0 := by
  refine cw_entry okX6_divideByRobin (Nat.le_of_ble_eq_true rfl) (show cw_B (cc_w K) (cc_w K) mX6_divideByRobin (cw_Z (cc_w K) r J0) 0 0 0 0 I 0 [(0, .ref (cw_a (cc_w K) 20)), (1, .ref (cw_a (cc_w K) 9)), (2, .int x2)] [] from ?_)
  refine cw_iload_n dX6_divideByRobin_0 2 rfl rfl ?_
  refine cw_istore_n dX6_divideByRobin_1 rfl (by decide) rfl ?_
  refine cw_iconst (v := 0) dX6_divideByRobin_2 (by decide) ?_
  refine cw_istore dX6_divideByRobin_3 (by decide) rfl ?_
  refine cw_sub [2, 3, 1, 0] rfl ?_
  exact h
set_option maxRecDepth 20000 in
set_option maxHeartbeats 4000000 in
theorem tbX6_divideByRobin_20_9_5 {K : cw_K} {r : Option Value} {J0 I : cw_M} {x3 : Int32} {x4 : Int32} (h : (((I 5 0) ≤ x4 → (r = some (.int (I 5 0)) ∧ J0 = I)) ∧ (¬ (I 5 0) ≤ x4 → (∃ (v_20 : Int32) (J_20 : cw_M), cw_C (cc_w K) mX6_favouriteOf [.ref (cw_a (cc_w K) 20), .ref (cw_a (cc_w K) 9), .int x3] I (some (.int v_20)) J_20 ∧ ((¬ v_20 = (-1) → (vp_in v_20 24 ∧ ((((cw_st J_20 9 v_20.toNatClampNeg x3) 5 1) ≤ (x3 + 1) → bX6_divideByRobin_20_9_5 K r J0 0 (x4 + 1) (cw_st J_20 9 v_20.toNatClampNeg x3)) ∧ (¬ ((cw_st J_20 9 v_20.toNatClampNeg x3) 5 1) ≤ (x3 + 1) → bX6_divideByRobin_20_9_5 K r J0 (x3 + 1) (x4 + 1) (cw_st J_20 9 v_20.toNatClampNeg x3))))) ∧ (v_20 = (-1) → (r = some (.int x4) ∧ J0 = J_20))))))) : bX6_divideByRobin_20_9_5 K r J0 x3 x4 I := by
  refine cw_iload dX6_divideByRobin_5 3 rfl ?_
  refine cw_aload_n dX6_divideByRobin_7 0 rfl rfl ?_
  refine cw_getf (C := RX6) (T := TX6) (N := 2) (ci := 7) inX6_divideByRobin_RX6 20 (show 20 < 32 by decide) rfl rfl 1 (by decide) (by decide +kernel) rfl dX6_divideByRobin_8 ?_
  refine cw_getf (C := RX1) (T := TX1) (N := 6) (ci := 2) inX6_divideByRobin_RX1 5 (show 5 < 32 by decide) rfl rfl 0 (by decide) (by decide +kernel) rfl dX6_divideByRobin_11 ?_
  refine cw_icmp_ge (tgt := 66) dX6_divideByRobin_14 (by decide) (fun q => ?_) (fun q => ?_)
  · have h := h.1 q
    refine cw_aload_n dX6_divideByRobin_66 0 rfl rfl ?_
    refine cw_getf (C := RX6) (T := TX6) (N := 2) (ci := 7) inX6_divideByRobin_RX6 20 (show 20 < 32 by decide) rfl rfl 1 (by decide) (by decide +kernel) rfl dX6_divideByRobin_67 ?_
    refine cw_getf (C := RX1) (T := TX1) (N := 6) (ci := 2) inX6_divideByRobin_RX1 5 (show 5 < 32 by decide) rfl rfl 0 (by decide) (by decide +kernel) rfl dX6_divideByRobin_70 ?_
    exact cw_iret rfl dX6_divideByRobin_73 h
  · have h := h.2 q
    refine cw_aload_n dX6_divideByRobin_17 0 rfl rfl ?_
    refine cw_aload_n dX6_divideByRobin_18 1 rfl rfl ?_
    refine cw_iload_n dX6_divideByRobin_19 2 rfl rfl ?_
    obtain ⟨v_20, J_20, hc_20, h⟩ := h
    refine cw_callV (o := 20) (As := [.ref (cw_a (cc_w K) 9), .int x3]) hc_20 okX6_favouriteOf rfl gX6_divideByRobin_X6_favouriteOf (by decide) (show 20 < 32 by decide) rfl (ci := 7) rfl rfl (Nat.le_of_ble_eq_true rfl) dX6_divideByRobin_20 ?_
    refine cw_istore dX6_divideByRobin_23 (by decide) rfl ?_
    refine cw_iload dX6_divideByRobin_25 0 rfl ?_
    refine cw_iconst (v := (-1)) dX6_divideByRobin_27 (by decide) ?_
    refine cw_icmp_ne (tgt := 34) dX6_divideByRobin_28 (by decide) (fun q => ?_) (fun q => ?_)
    · have h := h.1 q
      refine cw_aload_n dX6_divideByRobin_34 2 rfl rfl ?_
      refine cw_iload dX6_divideByRobin_35 0 rfl ?_
      refine cw_iload_n dX6_divideByRobin_37 3 rfl rfl ?_
      obtain ⟨g_38, h⟩ := h
      refine cw_iast 9 (show 9 < 32 by decide) (fun _ => rfl) 0 rfl dX6_divideByRobin_38 g_38 ?_
      refine cw_iload_n dX6_divideByRobin_39 3 rfl rfl ?_
      refine cw_iconst (v := 1) dX6_divideByRobin_40 (by decide) ?_
      refine cw_iadd dX6_divideByRobin_41 ?_
      refine cw_aload_n dX6_divideByRobin_42 1 rfl rfl ?_
      refine cw_getf (C := RX6) (T := TX6) (N := 2) (ci := 7) inX6_divideByRobin_RX6 20 (show 20 < 32 by decide) rfl rfl 1 (by decide) (by decide +kernel) rfl dX6_divideByRobin_43 ?_
      refine cw_getf (C := RX1) (T := TX1) (N := 6) (ci := 2) inX6_divideByRobin_RX1 5 (show 5 < 32 by decide) rfl rfl 1 (by decide) (by decide +kernel) rfl dX6_divideByRobin_46 ?_
      refine cw_icmp_ge (tgt := 58) dX6_divideByRobin_49 (by decide) (fun q => ?_) (fun q => ?_)
      · have h := h.1 q
        refine cw_iconst (v := 0) dX6_divideByRobin_58 (by decide) ?_
        refine cw_istore_n dX6_divideByRobin_59 rfl (by decide) rfl ?_
        refine cw_iinc (v := x4 + 1) dX6_divideByRobin_60 (j := 4) rfl rfl (by decide) rfl ?_
        refine cw_goto (tgt := 5) dX6_divideByRobin_63 (by decide) ?_
        refine cw_sub [3, 4, 1, 0] rfl ?_
        exact h
      · have h := h.2 q
        refine cw_iload_n dX6_divideByRobin_52 3 rfl rfl ?_
        refine cw_iconst (v := 1) dX6_divideByRobin_53 (by decide) ?_
        refine cw_iadd dX6_divideByRobin_54 ?_
        refine cw_goto (tgt := 59) dX6_divideByRobin_55 (by decide) ?_
        refine cw_istore_n dX6_divideByRobin_59 rfl (by decide) rfl ?_
        refine cw_iinc (v := x4 + 1) dX6_divideByRobin_60 (j := 4) rfl rfl (by decide) rfl ?_
        refine cw_goto (tgt := 5) dX6_divideByRobin_63 (by decide) ?_
        refine cw_sub [3, 4, 1, 0] rfl ?_
        exact h
    · have h := h.2 q
      refine cw_iload dX6_divideByRobin_31 4 rfl ?_
      exact cw_iret rfl dX6_divideByRobin_33 h
abbrev bX3_dearestOwned_16_5 (K : cw_K) (r : Option Value) (J0 : cw_M) (x1 : Int32) (x2 : Int32) (x3 : Int32) (x4 : Int32) (I : cw_M) : Prop := cw_B (cc_w K) (cc_w K) mX3_dearestOwned (cw_Z (cc_w K) r J0) 0 0 0 0 I 5 [(0, .ref (cw_a (cc_w K) 16)), (1, .int x1), (2, .int x2), (3, .int x3), (4, .int x4)] []
set_option maxRecDepth 20000 in
set_option maxHeartbeats 4000000 in
theorem eX3_dearestOwned_16 {K : cw_K} {r : Option Value} {J0 I : cw_M} {x1 : Int32} {x2 : Int32} (h : bX3_dearestOwned_16_5 K r J0 x1 x2 0 0 I) : cw_C (cc_w K) mX3_dearestOwned [.ref (cw_a (cc_w K) 16), .int x1, .int x2] I r J0 := by
  refine cw_entry okX3_dearestOwned (Nat.le_of_ble_eq_true rfl) (show cw_B (cc_w K) (cc_w K) mX3_dearestOwned (cw_Z (cc_w K) r J0) 0 0 0 0 I 0 [(0, .ref (cw_a (cc_w K) 16)), (1, .int x1), (2, .int x2)] [] from ?_)
  refine cw_iconst (v := 0) dX3_dearestOwned_0 (by decide) ?_
  refine cw_istore_n dX3_dearestOwned_1 rfl (by decide) rfl ?_
  refine cw_iconst (v := 0) dX3_dearestOwned_2 (by decide) ?_
  refine cw_istore dX3_dearestOwned_3 (by decide) rfl ?_
  refine cw_sub [2, 3, 4, 1, 0] rfl ?_
  exact h
set_option maxRecDepth 20000 in
set_option maxHeartbeats 4000000 in
theorem tbX3_dearestOwned_16_5 {K : cw_K} {r : Option Value} {J0 I : cw_M} {x1 : Int32} {x2 : Int32} {x3 : Int32} {x4 : Int32} (h : (((I 5 0) ≤ x4 → (r = some (.int x3) ∧ J0 = I)) ∧ (¬ (I 5 0) ≤ x4 → (vp_in x4 24 ∧ ((¬ (I 9 x4.toNatClampNeg) = x2 → bX3_dearestOwned_16_5 K r J0 x1 x2 x3 (x4 + 1) I) ∧ ((I 9 x4.toNatClampNeg) = x2 → (∃ (v_39 : Int32) (J_39 : cw_M), cw_C (cc_w K) mX1_valueOf [.ref (cw_a (cc_w K) 5), .int x1, .int x4] I (some (.int v_39)) J_39 ∧ bX3_dearestOwned_16_5 K r J0 x1 x2 (if x3 < v_39 then v_39 else x3) (x4 + 1) J_39))))))) : bX3_dearestOwned_16_5 K r J0 x1 x2 x3 x4 I := by
  refine cw_iload dX3_dearestOwned_5 4 rfl ?_
  refine cw_aload_n dX3_dearestOwned_7 0 rfl rfl ?_
  refine cw_getf (C := RX3) (T := TX3) (N := 4) (ci := 4) inX3_dearestOwned_RX3 16 (show 16 < 32 by decide) rfl rfl 3 (by decide) (by decide +kernel) rfl dX3_dearestOwned_8 ?_
  refine cw_getf (C := RX1) (T := TX1) (N := 6) (ci := 2) inX3_dearestOwned_RX1 5 (show 5 < 32 by decide) rfl rfl 0 (by decide) (by decide +kernel) rfl dX3_dearestOwned_11 ?_
  refine cw_icmp_ge (tgt := 52) dX3_dearestOwned_14 (by decide) (fun q => ?_) (fun q => ?_)
  · have h := h.1 q
    refine cw_iload_n dX3_dearestOwned_52 3 rfl rfl ?_
    exact cw_iret rfl dX3_dearestOwned_53 h
  · have h := h.2 q
    refine cw_aload_n dX3_dearestOwned_17 0 rfl rfl ?_
    refine cw_getf (C := RX3) (T := TX3) (N := 4) (ci := 4) inX3_dearestOwned_RX3 16 (show 16 < 32 by decide) rfl rfl 3 (by decide) (by decide +kernel) rfl dX3_dearestOwned_18 ?_
    refine cw_getf (C := RX1) (T := TX1) (N := 6) (ci := 2) inX3_dearestOwned_RX1 5 (show 5 < 32 by decide) rfl rfl 5 (by decide) (by decide +kernel) rfl dX3_dearestOwned_21 ?_
    refine cw_iload dX3_dearestOwned_24 4 rfl ?_
    obtain ⟨g_26, h⟩ := h
    refine cw_iald 9 (show 9 < 32 by decide) rfl 0 rfl dX3_dearestOwned_26 g_26 ?_
    refine cw_iload_n dX3_dearestOwned_27 2 rfl rfl ?_
    refine cw_icmp_ne (tgt := 46) dX3_dearestOwned_28 (by decide) (fun q => ?_) (fun q => ?_)
    · have h := h.1 q
      refine cw_iinc (v := x4 + 1) dX3_dearestOwned_46 (j := 4) rfl rfl (by decide) rfl ?_
      refine cw_goto (tgt := 5) dX3_dearestOwned_49 (by decide) ?_
      refine cw_sub [1, 2, 3, 4, 0] rfl ?_
      exact h
    · have h := h.2 q
      refine cw_iload_n dX3_dearestOwned_31 3 rfl rfl ?_
      refine cw_aload_n dX3_dearestOwned_32 0 rfl rfl ?_
      refine cw_getf (C := RX3) (T := TX3) (N := 4) (ci := 4) inX3_dearestOwned_RX3 16 (show 16 < 32 by decide) rfl rfl 3 (by decide) (by decide +kernel) rfl dX3_dearestOwned_33 ?_
      refine cw_iload_n dX3_dearestOwned_36 1 rfl rfl ?_
      refine cw_iload dX3_dearestOwned_37 4 rfl ?_
      obtain ⟨v_39, J_39, hc_39, h⟩ := h
      refine cw_callV (o := 5) (As := [.int x1, .int x4]) hc_39 okX1_valueOf rfl gX3_dearestOwned_X1_valueOf (by decide) (show 5 < 32 by decide) rfl (ci := 2) rfl rfl (Nat.le_of_ble_eq_true rfl) dX3_dearestOwned_39 ?_
      refine cw_mmax (by decide +kernel) (by decide +kernel) (by decide +kernel) (by decide +kernel) ⟨by decide, Nat.le_of_ble_eq_true rfl⟩ dX3_dearestOwned_42 ?_
      refine cw_istore_n dX3_dearestOwned_45 rfl (by decide) rfl ?_
      refine cw_iinc (v := x4 + 1) dX3_dearestOwned_46 (j := 4) rfl rfl (by decide) rfl ?_
      refine cw_goto (tgt := 5) dX3_dearestOwned_49 (by decide) ?_
      refine cw_sub [2, 3, 4, 1, 0] rfl ?_
      exact h
abbrev bX3_countEnviers_16_4 (K : cw_K) (r : Option Value) (J0 : cw_M) (x1 : Int32) (x2 : Int32) (x3 : Int32) (I : cw_M) : Prop := cw_B (cc_w K) (cc_w K) mX3_countEnviers (cw_Z (cc_w K) r J0) 0 0 0 0 I 4 [(0, .ref (cw_a (cc_w K) 16)), (1, .int x1), (2, .int x2), (3, .int x3)] []
set_option maxRecDepth 20000 in
set_option maxHeartbeats 4000000 in
theorem eX3_countEnviers_16 {K : cw_K} {r : Option Value} {J0 I : cw_M} {x1 : Int32} (h : bX3_countEnviers_16_4 K r J0 x1 0 0 I) : cw_C (cc_w K) mX3_countEnviers [.ref (cw_a (cc_w K) 16), .int x1] I r J0 := by
  refine cw_entry okX3_countEnviers (Nat.le_of_ble_eq_true rfl) (show cw_B (cc_w K) (cc_w K) mX3_countEnviers (cw_Z (cc_w K) r J0) 0 0 0 0 I 0 [(0, .ref (cw_a (cc_w K) 16)), (1, .int x1)] [] from ?_)
  refine cw_iconst (v := 0) dX3_countEnviers_0 (by decide) ?_
  refine cw_istore_n dX3_countEnviers_1 rfl (by decide) rfl ?_
  refine cw_iconst (v := 0) dX3_countEnviers_2 (by decide) ?_
  refine cw_istore_n dX3_countEnviers_3 rfl (by decide) rfl ?_
  refine cw_sub [2, 3, 1, 0] rfl ?_
  exact h
set_option maxRecDepth 20000 in
set_option maxHeartbeats 4000000 in
theorem tbX3_countEnviers_16_4 {K : cw_K} {r : Option Value} {J0 I : cw_M} {x1 : Int32} {x2 : Int32} {x3 : Int32} (h : (((I 5 1) ≤ x3 → (r = some (.int x2) ∧ J0 = I)) ∧ (¬ (I 5 1) ≤ x3 → (∃ (v_18 : Int32) (J_18 : cw_M), cw_C (cc_w K) mX3_hasEnvy [.ref (cw_a (cc_w K) 16), .int x3, .int x1] I (some (.int v_18)) J_18 ∧ ((v_18 = 0 → bX3_countEnviers_16_4 K r J0 x1 x2 (x3 + 1) J_18) ∧ (¬ v_18 = 0 → bX3_countEnviers_16_4 K r J0 x1 (x2 + 1) (x3 + 1) J_18)))))) : bX3_countEnviers_16_4 K r J0 x1 x2 x3 I := by
  refine cw_iload_n dX3_countEnviers_4 3 rfl rfl ?_
  refine cw_aload_n dX3_countEnviers_5 0 rfl rfl ?_
  refine cw_getf (C := RX3) (T := TX3) (N := 4) (ci := 4) inX3_countEnviers_RX3 16 (show 16 < 32 by decide) rfl rfl 3 (by decide) (by decide +kernel) rfl dX3_countEnviers_6 ?_
  refine cw_getf (C := RX1) (T := TX1) (N := 6) (ci := 2) inX3_countEnviers_RX1 5 (show 5 < 32 by decide) rfl rfl 1 (by decide) (by decide +kernel) rfl dX3_countEnviers_9 ?_
  refine cw_icmp_ge (tgt := 33) dX3_countEnviers_12 (by decide) (fun q => ?_) (fun q => ?_)
  · have h := h.1 q
    refine cw_iload_n dX3_countEnviers_33 2 rfl rfl ?_
    exact cw_iret rfl dX3_countEnviers_34 h
  · have h := h.2 q
    refine cw_aload_n dX3_countEnviers_15 0 rfl rfl ?_
    refine cw_iload_n dX3_countEnviers_16 3 rfl rfl ?_
    refine cw_iload_n dX3_countEnviers_17 1 rfl rfl ?_
    obtain ⟨v_18, J_18, hc_18, h⟩ := h
    refine cw_callV (o := 16) (As := [.int x3, .int x1]) hc_18 okX3_hasEnvy rfl gX3_countEnviers_X3_hasEnvy (by decide) (show 16 < 32 by decide) rfl (ci := 4) rfl rfl (Nat.le_of_ble_eq_true rfl) dX3_countEnviers_18 ?_
    refine cw_if_eq (tgt := 27) dX3_countEnviers_21 (by decide) (fun q => ?_) (fun q => ?_)
    · have h := h.1 q
      refine cw_iinc (v := x3 + 1) dX3_countEnviers_27 (j := 3) rfl rfl (by decide) rfl ?_
      refine cw_goto (tgt := 4) dX3_countEnviers_30 (by decide) ?_
      refine cw_sub [1, 2, 3, 0] rfl ?_
      exact h
    · have h := h.2 q
      refine cw_iinc (v := x2 + 1) dX3_countEnviers_24 (j := 2) rfl rfl (by decide) rfl ?_
      refine cw_iinc (v := x3 + 1) dX3_countEnviers_27 (j := 3) rfl rfl (by decide) rfl ?_
      refine cw_goto (tgt := 4) dX3_countEnviers_30 (by decide) ?_
      refine cw_sub [2, 3, 1, 0] rfl ?_
      exact h
abbrev bX3_firstEnviedAt_16_8 (K : cw_K) (r : Option Value) (J0 : cw_M) (x1 : Int32) (x2 : Int32) (x3 : Int32) (x4 : Int32) (I : cw_M) : Prop := cw_B (cc_w K) (cc_w K) mX3_firstEnviedAt (cw_Z (cc_w K) r J0) 0 0 0 0 I 8 [(0, .ref (cw_a (cc_w K) 16)), (1, .int x1), (2, .int x2), (3, .int x3), (4, .int x4)] []
set_option maxRecDepth 20000 in
set_option maxHeartbeats 4000000 in
theorem eX3_firstEnviedAt_16 {K : cw_K} {r : Option Value} {J0 I : cw_M} {x1 : Int32} {x2 : Int32} (h : bX3_firstEnviedAt_16_8 K r J0 x1 x2 (x2 * 6) 0 I) : cw_C (cc_w K) mX3_firstEnviedAt [.ref (cw_a (cc_w K) 16), .int x1, .int x2] I r J0 := by
  refine cw_entry okX3_firstEnviedAt (Nat.le_of_ble_eq_true rfl) (show cw_B (cc_w K) (cc_w K) mX3_firstEnviedAt (cw_Z (cc_w K) r J0) 0 0 0 0 I 0 [(0, .ref (cw_a (cc_w K) 16)), (1, .int x1), (2, .int x2)] [] from ?_)
  refine cw_iload_n dX3_firstEnviedAt_0 2 rfl rfl ?_
  refine cw_bipush (v := 6) dX3_firstEnviedAt_1 (by decide) ?_
  refine cw_imul dX3_firstEnviedAt_3 ?_
  refine cw_istore_n dX3_firstEnviedAt_4 rfl (by decide) rfl ?_
  refine cw_iconst (v := 0) dX3_firstEnviedAt_5 (by decide) ?_
  refine cw_istore dX3_firstEnviedAt_6 (by decide) rfl ?_
  refine cw_sub [2, 3, 4, 1, 0] rfl ?_
  exact h
set_option maxRecDepth 20000 in
set_option maxHeartbeats 4000000 in
theorem tbX3_firstEnviedAt_16_8 {K : cw_K} {r : Option Value} {J0 I : cw_M} {x1 : Int32} {x2 : Int32} {x3 : Int32} {x4 : Int32} (h : (((I 5 1) ≤ x4 → (r = some (.int (-1)) ∧ J0 = I)) ∧ (¬ (I 5 1) ≤ x4 → (vp_in x4 6 ∧ ((¬ (I 18 x4.toNatClampNeg) = x1 → bX3_firstEnviedAt_16_8 K r J0 x1 x2 x3 (x4 + 1) I) ∧ ((I 18 x4.toNatClampNeg) = x1 → (vp_in (x3 + x4) 36 ∧ (vp_in (x3 + x2) 36 ∧ (((I 19 (x3 + x4).toNatClampNeg) ≤ (I 19 (x3 + x2).toNatClampNeg) → bX3_firstEnviedAt_16_8 K r J0 x1 x2 x3 (x4 + 1) I) ∧ (¬ (I 19 (x3 + x4).toNatClampNeg) ≤ (I 19 (x3 + x2).toNatClampNeg) → (r = some (.int x4) ∧ J0 = I))))))))))) : bX3_firstEnviedAt_16_8 K r J0 x1 x2 x3 x4 I := by
  refine cw_iload dX3_firstEnviedAt_8 4 rfl ?_
  refine cw_aload_n dX3_firstEnviedAt_10 0 rfl rfl ?_
  refine cw_getf (C := RX3) (T := TX3) (N := 4) (ci := 4) inX3_firstEnviedAt_RX3 16 (show 16 < 32 by decide) rfl rfl 3 (by decide) (by decide +kernel) rfl dX3_firstEnviedAt_11 ?_
  refine cw_getf (C := RX1) (T := TX1) (N := 6) (ci := 2) inX3_firstEnviedAt_RX1 5 (show 5 < 32 by decide) rfl rfl 1 (by decide) (by decide +kernel) rfl dX3_firstEnviedAt_14 ?_
  refine cw_icmp_ge (tgt := 60) dX3_firstEnviedAt_17 (by decide) (fun q => ?_) (fun q => ?_)
  · have h := h.1 q
    refine cw_iconst (v := (-1)) dX3_firstEnviedAt_60 (by decide) ?_
    exact cw_iret rfl dX3_firstEnviedAt_61 h
  · have h := h.2 q
    refine cw_aload_n dX3_firstEnviedAt_20 0 rfl rfl ?_
    refine cw_getf (C := RX3) (T := TX3) (N := 4) (ci := 4) inX3_firstEnviedAt_RX3 16 (show 16 < 32 by decide) rfl rfl 1 (by decide) (by decide +kernel) rfl dX3_firstEnviedAt_21 ?_
    refine cw_iload dX3_firstEnviedAt_24 4 rfl ?_
    obtain ⟨g_26, h⟩ := h
    refine cw_iald 18 (show 18 < 32 by decide) rfl 0 rfl dX3_firstEnviedAt_26 g_26 ?_
    refine cw_iload_n dX3_firstEnviedAt_27 1 rfl rfl ?_
    refine cw_icmp_ne (tgt := 54) dX3_firstEnviedAt_28 (by decide) (fun q => ?_) (fun q => ?_)
    · have h := h.1 q
      refine cw_iinc (v := x4 + 1) dX3_firstEnviedAt_54 (j := 4) rfl rfl (by decide) rfl ?_
      refine cw_goto (tgt := 8) dX3_firstEnviedAt_57 (by decide) ?_
      refine cw_sub [1, 2, 3, 4, 0] rfl ?_
      exact h
    · have h := h.2 q
      refine cw_aload_n dX3_firstEnviedAt_31 0 rfl rfl ?_
      refine cw_getf (C := RX3) (T := TX3) (N := 4) (ci := 4) inX3_firstEnviedAt_RX3 16 (show 16 < 32 by decide) rfl rfl 2 (by decide) (by decide +kernel) rfl dX3_firstEnviedAt_32 ?_
      refine cw_iload_n dX3_firstEnviedAt_35 3 rfl rfl ?_
      refine cw_iload dX3_firstEnviedAt_36 4 rfl ?_
      refine cw_iadd dX3_firstEnviedAt_38 ?_
      obtain ⟨g_39, h⟩ := h
      refine cw_iald 19 (show 19 < 32 by decide) rfl 0 rfl dX3_firstEnviedAt_39 g_39 ?_
      refine cw_aload_n dX3_firstEnviedAt_40 0 rfl rfl ?_
      refine cw_getf (C := RX3) (T := TX3) (N := 4) (ci := 4) inX3_firstEnviedAt_RX3 16 (show 16 < 32 by decide) rfl rfl 2 (by decide) (by decide +kernel) rfl dX3_firstEnviedAt_41 ?_
      refine cw_iload_n dX3_firstEnviedAt_44 3 rfl rfl ?_
      refine cw_iload_n dX3_firstEnviedAt_45 2 rfl rfl ?_
      refine cw_iadd dX3_firstEnviedAt_46 ?_
      obtain ⟨g_47, h⟩ := h
      refine cw_iald 19 (show 19 < 32 by decide) rfl 0 rfl dX3_firstEnviedAt_47 g_47 ?_
      refine cw_icmp_le (tgt := 54) dX3_firstEnviedAt_48 (by decide) (fun q => ?_) (fun q => ?_)
      · have h := h.1 q
        refine cw_iinc (v := x4 + 1) dX3_firstEnviedAt_54 (j := 4) rfl rfl (by decide) rfl ?_
        refine cw_goto (tgt := 8) dX3_firstEnviedAt_57 (by decide) ?_
        refine cw_sub [1, 2, 3, 4, 0] rfl ?_
        exact h
      · have h := h.2 q
        refine cw_iload dX3_firstEnviedAt_51 4 rfl ?_
        exact cw_iret rfl dX3_firstEnviedAt_53 h
abbrev bX3_measureDistances_16_2 (K : cw_K) (r : Option Value) (J0 : cw_M) (x1 : Int32) (x2 : Int32) (I : cw_M) : Prop := cw_B (cc_w K) (cc_w K) mX3_measureDistances (cw_Z (cc_w K) r J0) 0 0 0 0 I 2 [(0, .ref (cw_a (cc_w K) 16)), (1, .int x1), (2, .int x2)] []
abbrev bX3_measureDistances_16_36 (K : cw_K) (r : Option Value) (J0 : cw_M) (x2 : Int32) (I : cw_M) : Prop := cw_B (cc_w K) (cc_w K) mX3_measureDistances (cw_Z (cc_w K) r J0) 0 0 0 0 I 36 [(0, .ref (cw_a (cc_w K) 16)), (2, .int x2)] []
abbrev bX3_measureDistances_16_49 (K : cw_K) (r : Option Value) (J0 : cw_M) (x2 : Int32) (x3 : Int32) (I : cw_M) : Prop := cw_B (cc_w K) (cc_w K) mX3_measureDistances (cw_Z (cc_w K) r J0) 0 0 0 0 I 49 [(0, .ref (cw_a (cc_w K) 16)), (2, .int x2), (3, .int x3)] []
set_option maxRecDepth 20000 in
set_option maxHeartbeats 4000000 in
theorem eX3_measureDistances_16 {K : cw_K} {r : Option Value} {J0 I : cw_M} {x1 : Int32} (h : bX3_measureDistances_16_2 K r J0 x1 0 I) : cw_C (cc_w K) mX3_measureDistances [.ref (cw_a (cc_w K) 16), .int x1] I r J0 := by
  refine cw_entry okX3_measureDistances (Nat.le_of_ble_eq_true rfl) (show cw_B (cc_w K) (cc_w K) mX3_measureDistances (cw_Z (cc_w K) r J0) 0 0 0 0 I 0 [(0, .ref (cw_a (cc_w K) 16)), (1, .int x1)] [] from ?_)
  refine cw_iconst (v := 0) dX3_measureDistances_0 (by decide) ?_
  refine cw_istore_n dX3_measureDistances_1 rfl (by decide) rfl ?_
  refine cw_sub [1, 2, 0] rfl ?_
  exact h
set_option maxRecDepth 20000 in
set_option maxHeartbeats 4000000 in
theorem tbX3_measureDistances_16_2 {K : cw_K} {r : Option Value} {J0 I : cw_M} {x1 : Int32} {x2 : Int32} (h : (((I 5 1) ≤ x2 → (vp_in x1 6 ∧ bX3_measureDistances_16_36 K r J0 1 (cw_st I 18 x1.toNatClampNeg 0))) ∧ (¬ (I 5 1) ≤ x2 → (vp_in x2 6 ∧ bX3_measureDistances_16_2 K r J0 x1 (x2 + 1) (cw_st I 18 x2.toNatClampNeg 6))))) : bX3_measureDistances_16_2 K r J0 x1 x2 I := by
  refine cw_iload_n dX3_measureDistances_2 2 rfl rfl ?_
  refine cw_aload_n dX3_measureDistances_3 0 rfl rfl ?_
  refine cw_getf (C := RX3) (T := TX3) (N := 4) (ci := 4) inX3_measureDistances_RX3 16 (show 16 < 32 by decide) rfl rfl 3 (by decide) (by decide +kernel) rfl dX3_measureDistances_4 ?_
  refine cw_getf (C := RX1) (T := TX1) (N := 6) (ci := 2) inX3_measureDistances_RX1 5 (show 5 < 32 by decide) rfl rfl 1 (by decide) (by decide +kernel) rfl dX3_measureDistances_7 ?_
  refine cw_icmp_ge (tgt := 27) dX3_measureDistances_10 (by decide) (fun q => ?_) (fun q => ?_)
  · have h := h.1 q
    refine cw_aload_n dX3_measureDistances_27 0 rfl rfl ?_
    refine cw_getf (C := RX3) (T := TX3) (N := 4) (ci := 4) inX3_measureDistances_RX3 16 (show 16 < 32 by decide) rfl rfl 1 (by decide) (by decide +kernel) rfl dX3_measureDistances_28 ?_
    refine cw_iload_n dX3_measureDistances_31 1 rfl rfl ?_
    refine cw_iconst (v := 0) dX3_measureDistances_32 (by decide) ?_
    obtain ⟨g_33, h⟩ := h
    refine cw_iast 18 (show 18 < 32 by decide) (fun _ => rfl) 0 rfl dX3_measureDistances_33 g_33 ?_
    refine cw_iconst (v := 1) dX3_measureDistances_34 (by decide) ?_
    refine cw_istore_n dX3_measureDistances_35 rfl (by decide) rfl ?_
    refine cw_sub [1, 0] rfl ?_
    exact h
  · have h := h.2 q
    refine cw_aload_n dX3_measureDistances_13 0 rfl rfl ?_
    refine cw_getf (C := RX3) (T := TX3) (N := 4) (ci := 4) inX3_measureDistances_RX3 16 (show 16 < 32 by decide) rfl rfl 1 (by decide) (by decide +kernel) rfl dX3_measureDistances_14 ?_
    refine cw_iload_n dX3_measureDistances_17 2 rfl rfl ?_
    refine cw_bipush (v := 6) dX3_measureDistances_18 (by decide) ?_
    obtain ⟨g_20, h⟩ := h
    refine cw_iast 18 (show 18 < 32 by decide) (fun _ => rfl) 0 rfl dX3_measureDistances_20 g_20 ?_
    refine cw_iinc (v := x2 + 1) dX3_measureDistances_21 (j := 2) rfl rfl (by decide) rfl ?_
    refine cw_goto (tgt := 2) dX3_measureDistances_24 (by decide) ?_
    refine cw_sub [1, 2, 0] rfl ?_
    exact h
set_option maxRecDepth 20000 in
set_option maxHeartbeats 4000000 in
theorem tbX3_measureDistances_16_36 {K : cw_K} {r : Option Value} {J0 I : cw_M} {x2 : Int32} (h : (((I 5 1) ≤ x2 → (r = none ∧ J0 = I)) ∧ (¬ (I 5 1) ≤ x2 → bX3_measureDistances_16_49 K r J0 x2 0 I))) : bX3_measureDistances_16_36 K r J0 x2 I := by
  refine cw_iload_n dX3_measureDistances_36 1 rfl rfl ?_
  refine cw_aload_n dX3_measureDistances_37 0 rfl rfl ?_
  refine cw_getf (C := RX3) (T := TX3) (N := 4) (ci := 4) inX3_measureDistances_RX3 16 (show 16 < 32 by decide) rfl rfl 3 (by decide) (by decide +kernel) rfl dX3_measureDistances_38 ?_
  refine cw_getf (C := RX1) (T := TX1) (N := 6) (ci := 2) inX3_measureDistances_RX1 5 (show 5 < 32 by decide) rfl rfl 1 (by decide) (by decide +kernel) rfl dX3_measureDistances_41 ?_
  refine cw_icmp_ge (tgt := 102) dX3_measureDistances_44 (by decide) (fun q => ?_) (fun q => ?_)
  · have h := h.1 q
    exact cw_vret rfl dX3_measureDistances_102 h
  · have h := h.2 q
    refine cw_iconst (v := 0) dX3_measureDistances_47 (by decide) ?_
    refine cw_istore_n dX3_measureDistances_48 rfl (by decide) rfl ?_
    refine cw_sub [1, 2, 0] rfl ?_
    exact h
set_option maxRecDepth 20000 in
set_option maxHeartbeats 4000000 in
theorem tbX3_measureDistances_16_49 {K : cw_K} {r : Option Value} {J0 I : cw_M} {x2 : Int32} {x3 : Int32} (h : (((I 5 1) ≤ x3 → bX3_measureDistances_16_36 K r J0 (x2 + 1) I) ∧ (¬ (I 5 1) ≤ x3 → (vp_in x3 6 ∧ ((¬ (I 18 x3.toNatClampNeg) = 6 → bX3_measureDistances_16_49 K r J0 x2 (x3 + 1) I) ∧ ((I 18 x3.toNatClampNeg) = 6 → (∃ (v_76 : Int32) (J_76 : cw_M), cw_C (cc_w K) mX3_firstEnviedAt [.ref (cw_a (cc_w K) 16), .int (x2 - 1), .int x3] I (some (.int v_76)) J_76 ∧ ((v_76 = (-1) → bX3_measureDistances_16_49 K r J0 x2 (x3 + 1) J_76) ∧ (¬ v_76 = (-1) → (vp_in x3 6 ∧ bX3_measureDistances_16_49 K r J0 x2 (x3 + 1) (cw_st J_76 18 x3.toNatClampNeg x2))))))))))) : bX3_measureDistances_16_49 K r J0 x2 x3 I := by
  refine cw_iload_n dX3_measureDistances_49 2 rfl rfl ?_
  refine cw_aload_n dX3_measureDistances_50 0 rfl rfl ?_
  refine cw_getf (C := RX3) (T := TX3) (N := 4) (ci := 4) inX3_measureDistances_RX3 16 (show 16 < 32 by decide) rfl rfl 3 (by decide) (by decide +kernel) rfl dX3_measureDistances_51 ?_
  refine cw_getf (C := RX1) (T := TX1) (N := 6) (ci := 2) inX3_measureDistances_RX1 5 (show 5 < 32 by decide) rfl rfl 1 (by decide) (by decide +kernel) rfl dX3_measureDistances_54 ?_
  refine cw_icmp_ge (tgt := 96) dX3_measureDistances_57 (by decide) (fun q => ?_) (fun q => ?_)
  · have h := h.1 q
    refine cw_iinc (v := x2 + 1) dX3_measureDistances_96 (j := 1) rfl rfl (by decide) rfl ?_
    refine cw_goto (tgt := 36) dX3_measureDistances_99 (by decide) ?_
    refine cw_sub [1, 0] rfl ?_
    exact h
  · have h := h.2 q
    refine cw_aload_n dX3_measureDistances_60 0 rfl rfl ?_
    refine cw_getf (C := RX3) (T := TX3) (N := 4) (ci := 4) inX3_measureDistances_RX3 16 (show 16 < 32 by decide) rfl rfl 1 (by decide) (by decide +kernel) rfl dX3_measureDistances_61 ?_
    refine cw_iload_n dX3_measureDistances_64 2 rfl rfl ?_
    obtain ⟨g_65, h⟩ := h
    refine cw_iald 18 (show 18 < 32 by decide) rfl 0 rfl dX3_measureDistances_65 g_65 ?_
    refine cw_bipush (v := 6) dX3_measureDistances_66 (by decide) ?_
    refine cw_icmp_ne (tgt := 90) dX3_measureDistances_68 (by decide) (fun q => ?_) (fun q => ?_)
    · have h := h.1 q
      refine cw_iinc (v := x3 + 1) dX3_measureDistances_90 (j := 2) rfl rfl (by decide) rfl ?_
      refine cw_goto (tgt := 49) dX3_measureDistances_93 (by decide) ?_
      refine cw_sub [1, 2, 0] rfl ?_
      exact h
    · have h := h.2 q
      refine cw_aload_n dX3_measureDistances_71 0 rfl rfl ?_
      refine cw_iload_n dX3_measureDistances_72 1 rfl rfl ?_
      refine cw_iconst (v := 1) dX3_measureDistances_73 (by decide) ?_
      refine cw_isub dX3_measureDistances_74 ?_
      refine cw_iload_n dX3_measureDistances_75 2 rfl rfl ?_
      obtain ⟨v_76, J_76, hc_76, h⟩ := h
      refine cw_callV (o := 16) (As := [.int (x2 - 1), .int x3]) hc_76 okX3_firstEnviedAt rfl gX3_measureDistances_X3_firstEnviedAt (by decide) (show 16 < 32 by decide) rfl (ci := 4) rfl rfl (Nat.le_of_ble_eq_true rfl) dX3_measureDistances_76 ?_
      refine cw_iconst (v := (-1)) dX3_measureDistances_79 (by decide) ?_
      refine cw_icmp_eq (tgt := 90) dX3_measureDistances_80 (by decide) (fun q => ?_) (fun q => ?_)
      · have h := h.1 q
        refine cw_iinc (v := x3 + 1) dX3_measureDistances_90 (j := 2) rfl rfl (by decide) rfl ?_
        refine cw_goto (tgt := 49) dX3_measureDistances_93 (by decide) ?_
        refine cw_sub [1, 2, 0] rfl ?_
        exact h
      · have h := h.2 q
        refine cw_aload_n dX3_measureDistances_83 0 rfl rfl ?_
        refine cw_getf (C := RX3) (T := TX3) (N := 4) (ci := 4) inX3_measureDistances_RX3 16 (show 16 < 32 by decide) rfl rfl 1 (by decide) (by decide +kernel) rfl dX3_measureDistances_84 ?_
        refine cw_iload_n dX3_measureDistances_87 2 rfl rfl ?_
        refine cw_iload_n dX3_measureDistances_88 1 rfl rfl ?_
        obtain ⟨g_89, h⟩ := h
        refine cw_iast 18 (show 18 < 32 by decide) (fun _ => rfl) 0 rfl dX3_measureDistances_89 g_89 ?_
        refine cw_iinc (v := x3 + 1) dX3_measureDistances_90 (j := 2) rfl rfl (by decide) rfl ?_
        refine cw_goto (tgt := 49) dX3_measureDistances_93 (by decide) ?_
        refine cw_sub [1, 2, 0] rfl ?_
        exact h
abbrev bX3_measureWorths_16_2 (K : cw_K) (r : Option Value) (J0 : cw_M) (x1 : Int32) (I : cw_M) : Prop := cw_B (cc_w K) (cc_w K) mX3_measureWorths (cw_Z (cc_w K) r J0) 0 0 0 0 I 2 [(0, .ref (cw_a (cc_w K) 16)), (1, .int x1)] []
abbrev bX3_measureWorths_16_15 (K : cw_K) (r : Option Value) (J0 : cw_M) (x1 : Int32) (x2 : Int32) (I : cw_M) : Prop := cw_B (cc_w K) (cc_w K) mX3_measureWorths (cw_Z (cc_w K) r J0) 0 0 0 0 I 15 [(0, .ref (cw_a (cc_w K) 16)), (1, .int x1), (2, .int x2)] []
set_option maxRecDepth 20000 in
set_option maxHeartbeats 4000000 in
theorem eX3_measureWorths_16 {K : cw_K} {r : Option Value} {J0 I : cw_M} (h : bX3_measureWorths_16_2 K r J0 0 I) : cw_C (cc_w K) mX3_measureWorths [.ref (cw_a (cc_w K) 16)] I r J0 := by
  refine cw_entry okX3_measureWorths (Nat.le_of_ble_eq_true rfl) (show cw_B (cc_w K) (cc_w K) mX3_measureWorths (cw_Z (cc_w K) r J0) 0 0 0 0 I 0 [(0, .ref (cw_a (cc_w K) 16))] [] from ?_)
  refine cw_iconst (v := 0) dX3_measureWorths_0 (by decide) ?_
  refine cw_istore_n dX3_measureWorths_1 rfl (by decide) rfl ?_
  refine cw_sub [1, 0] rfl ?_
  exact h
set_option maxRecDepth 20000 in
set_option maxHeartbeats 4000000 in
theorem tbX3_measureWorths_16_2 {K : cw_K} {r : Option Value} {J0 I : cw_M} {x1 : Int32} (h : (((I 5 1) ≤ x1 → (r = none ∧ J0 = I)) ∧ (¬ (I 5 1) ≤ x1 → bX3_measureWorths_16_15 K r J0 x1 0 I))) : bX3_measureWorths_16_2 K r J0 x1 I := by
  refine cw_iload_n dX3_measureWorths_2 1 rfl rfl ?_
  refine cw_aload_n dX3_measureWorths_3 0 rfl rfl ?_
  refine cw_getf (C := RX3) (T := TX3) (N := 4) (ci := 4) inX3_measureWorths_RX3 16 (show 16 < 32 by decide) rfl rfl 3 (by decide) (by decide +kernel) rfl dX3_measureWorths_4 ?_
  refine cw_getf (C := RX1) (T := TX1) (N := 6) (ci := 2) inX3_measureWorths_RX1 5 (show 5 < 32 by decide) rfl rfl 1 (by decide) (by decide +kernel) rfl dX3_measureWorths_7 ?_
  refine cw_icmp_ge (tgt := 65) dX3_measureWorths_10 (by decide) (fun q => ?_) (fun q => ?_)
  · have h := h.1 q
    exact cw_vret rfl dX3_measureWorths_65 h
  · have h := h.2 q
    refine cw_iconst (v := 0) dX3_measureWorths_13 (by decide) ?_
    refine cw_istore_n dX3_measureWorths_14 rfl (by decide) rfl ?_
    refine cw_sub [1, 2, 0] rfl ?_
    exact h
set_option maxRecDepth 20000 in
set_option maxHeartbeats 4000000 in
theorem tbX3_measureWorths_16_15 {K : cw_K} {r : Option Value} {J0 I : cw_M} {x1 : Int32} {x2 : Int32} (h : (((I 5 1) ≤ x2 → bX3_measureWorths_16_2 K r J0 (x1 + 1) I) ∧ (¬ (I 5 1) ≤ x2 → (∃ (v_49 : Int32) (J_49 : cw_M), cw_C (cc_w K) mX1_worthOfOwned [.ref (cw_a (cc_w K) 5), .ref (cw_a (cc_w K) 9), .int x1, .int x2] I (some (.int v_49)) J_49 ∧ (vp_in ((x1 * 6) + x2) 36 ∧ bX3_measureWorths_16_15 K r J0 x1 (x2 + 1) (cw_st J_49 19 ((x1 * 6) + x2).toNatClampNeg v_49)))))) : bX3_measureWorths_16_15 K r J0 x1 x2 I := by
  refine cw_iload_n dX3_measureWorths_15 2 rfl rfl ?_
  refine cw_aload_n dX3_measureWorths_16 0 rfl rfl ?_
  refine cw_getf (C := RX3) (T := TX3) (N := 4) (ci := 4) inX3_measureWorths_RX3 16 (show 16 < 32 by decide) rfl rfl 3 (by decide) (by decide +kernel) rfl dX3_measureWorths_17 ?_
  refine cw_getf (C := RX1) (T := TX1) (N := 6) (ci := 2) inX3_measureWorths_RX1 5 (show 5 < 32 by decide) rfl rfl 1 (by decide) (by decide +kernel) rfl dX3_measureWorths_20 ?_
  refine cw_icmp_ge (tgt := 59) dX3_measureWorths_23 (by decide) (fun q => ?_) (fun q => ?_)
  · have h := h.1 q
    refine cw_iinc (v := x1 + 1) dX3_measureWorths_59 (j := 1) rfl rfl (by decide) rfl ?_
    refine cw_goto (tgt := 2) dX3_measureWorths_62 (by decide) ?_
    refine cw_sub [1, 0] rfl ?_
    exact h
  · have h := h.2 q
    refine cw_aload_n dX3_measureWorths_26 0 rfl rfl ?_
    refine cw_getf (C := RX3) (T := TX3) (N := 4) (ci := 4) inX3_measureWorths_RX3 16 (show 16 < 32 by decide) rfl rfl 2 (by decide) (by decide +kernel) rfl dX3_measureWorths_27 ?_
    refine cw_iload_n dX3_measureWorths_30 1 rfl rfl ?_
    refine cw_bipush (v := 6) dX3_measureWorths_31 (by decide) ?_
    refine cw_imul dX3_measureWorths_33 ?_
    refine cw_iload_n dX3_measureWorths_34 2 rfl rfl ?_
    refine cw_iadd dX3_measureWorths_35 ?_
    refine cw_aload_n dX3_measureWorths_36 0 rfl rfl ?_
    refine cw_getf (C := RX3) (T := TX3) (N := 4) (ci := 4) inX3_measureWorths_RX3 16 (show 16 < 32 by decide) rfl rfl 3 (by decide) (by decide +kernel) rfl dX3_measureWorths_37 ?_
    refine cw_aload_n dX3_measureWorths_40 0 rfl rfl ?_
    refine cw_getf (C := RX3) (T := TX3) (N := 4) (ci := 4) inX3_measureWorths_RX3 16 (show 16 < 32 by decide) rfl rfl 3 (by decide) (by decide +kernel) rfl dX3_measureWorths_41 ?_
    refine cw_getf (C := RX1) (T := TX1) (N := 6) (ci := 2) inX3_measureWorths_RX1 5 (show 5 < 32 by decide) rfl rfl 5 (by decide) (by decide +kernel) rfl dX3_measureWorths_44 ?_
    refine cw_iload_n dX3_measureWorths_47 1 rfl rfl ?_
    refine cw_iload_n dX3_measureWorths_48 2 rfl rfl ?_
    obtain ⟨v_49, J_49, hc_49, h⟩ := h
    refine cw_callV (o := 5) (As := [.ref (cw_a (cc_w K) 9), .int x1, .int x2]) hc_49 okX1_worthOfOwned rfl gX3_measureWorths_X1_worthOfOwned (by decide) (show 5 < 32 by decide) rfl (ci := 2) rfl rfl (Nat.le_of_ble_eq_true rfl) dX3_measureWorths_49 ?_
    obtain ⟨g_52, h⟩ := h
    refine cw_iast 19 (show 19 < 32 by decide) (fun _ => rfl) 0 rfl dX3_measureWorths_52 g_52 ?_
    refine cw_iinc (v := x2 + 1) dX3_measureWorths_53 (j := 2) rfl rfl (by decide) rfl ?_
    refine cw_goto (tgt := 15) dX3_measureWorths_56 (by decide) ?_
    refine cw_sub [1, 2, 0] rfl ?_
    exact h
abbrev bX3_shortestWayRound_16_2 (K : cw_K) (r : Option Value) (J0 : cw_M) (x1 : Int32) (x2 : Int32) (I : cw_M) : Prop := cw_B (cc_w K) (cc_w K) mX3_shortestWayRound (cw_Z (cc_w K) r J0) 0 0 0 0 I 2 [(0, .ref (cw_a (cc_w K) 16)), (1, .int x1), (2, .int x2)] []
set_option maxRecDepth 20000 in
set_option maxHeartbeats 4000000 in
theorem eX3_shortestWayRound_16 {K : cw_K} {r : Option Value} {J0 I : cw_M} {x1 : Int32} (h : bX3_shortestWayRound_16_2 K r J0 x1 1 I) : cw_C (cc_w K) mX3_shortestWayRound [.ref (cw_a (cc_w K) 16), .int x1] I r J0 := by
  refine cw_entry okX3_shortestWayRound (Nat.le_of_ble_eq_true rfl) (show cw_B (cc_w K) (cc_w K) mX3_shortestWayRound (cw_Z (cc_w K) r J0) 0 0 0 0 I 0 [(0, .ref (cw_a (cc_w K) 16)), (1, .int x1)] [] from ?_)
  refine cw_iconst (v := 1) dX3_shortestWayRound_0 (by decide) ?_
  refine cw_istore_n dX3_shortestWayRound_1 rfl (by decide) rfl ?_
  refine cw_sub [1, 2, 0] rfl ?_
  exact h
set_option maxRecDepth 20000 in
set_option maxHeartbeats 4000000 in
theorem tbX3_shortestWayRound_16_2 {K : cw_K} {r : Option Value} {J0 I : cw_M} {x1 : Int32} {x2 : Int32} (h : (((I 5 1) ≤ x2 → (r = some (.int (-1)) ∧ J0 = I)) ∧ (¬ (I 5 1) ≤ x2 → (∃ (v_16 : Int32) (J_16 : cw_M), cw_C (cc_w K) mX3_firstEnviedAt [.ref (cw_a (cc_w K) 16), .int x2, .int x1] I (some (.int v_16)) J_16 ∧ ((v_16 = (-1) → bX3_shortestWayRound_16_2 K r J0 x1 (x2 + 1) J_16) ∧ (¬ v_16 = (-1) → (r = some (.int (x2 + 1)) ∧ J0 = J_16))))))) : bX3_shortestWayRound_16_2 K r J0 x1 x2 I := by
  refine cw_iload_n dX3_shortestWayRound_2 2 rfl rfl ?_
  refine cw_aload_n dX3_shortestWayRound_3 0 rfl rfl ?_
  refine cw_getf (C := RX3) (T := TX3) (N := 4) (ci := 4) inX3_shortestWayRound_RX3 16 (show 16 < 32 by decide) rfl rfl 3 (by decide) (by decide +kernel) rfl dX3_shortestWayRound_4 ?_
  refine cw_getf (C := RX1) (T := TX1) (N := 6) (ci := 2) inX3_shortestWayRound_RX1 5 (show 5 < 32 by decide) rfl rfl 1 (by decide) (by decide +kernel) rfl dX3_shortestWayRound_7 ?_
  refine cw_icmp_ge (tgt := 33) dX3_shortestWayRound_10 (by decide) (fun q => ?_) (fun q => ?_)
  · have h := h.1 q
    refine cw_iconst (v := (-1)) dX3_shortestWayRound_33 (by decide) ?_
    exact cw_iret rfl dX3_shortestWayRound_34 h
  · have h := h.2 q
    refine cw_aload_n dX3_shortestWayRound_13 0 rfl rfl ?_
    refine cw_iload_n dX3_shortestWayRound_14 2 rfl rfl ?_
    refine cw_iload_n dX3_shortestWayRound_15 1 rfl rfl ?_
    obtain ⟨v_16, J_16, hc_16, h⟩ := h
    refine cw_callV (o := 16) (As := [.int x2, .int x1]) hc_16 okX3_firstEnviedAt rfl gX3_shortestWayRound_X3_firstEnviedAt (by decide) (show 16 < 32 by decide) rfl (ci := 4) rfl rfl (Nat.le_of_ble_eq_true rfl) dX3_shortestWayRound_16 ?_
    refine cw_iconst (v := (-1)) dX3_shortestWayRound_19 (by decide) ?_
    refine cw_icmp_eq (tgt := 27) dX3_shortestWayRound_20 (by decide) (fun q => ?_) (fun q => ?_)
    · have h := h.1 q
      refine cw_iinc (v := x2 + 1) dX3_shortestWayRound_27 (j := 2) rfl rfl (by decide) rfl ?_
      refine cw_goto (tgt := 2) dX3_shortestWayRound_30 (by decide) ?_
      refine cw_sub [1, 2, 0] rfl ?_
      exact h
    · have h := h.2 q
      refine cw_iload_n dX3_shortestWayRound_23 2 rfl rfl ?_
      refine cw_iconst (v := 1) dX3_shortestWayRound_24 (by decide) ?_
      refine cw_iadd dX3_shortestWayRound_25 ?_
      exact cw_iret rfl dX3_shortestWayRound_26 h
abbrev bX3_ownerAfterRotation_16_7 (K : cw_K) (r : Option Value) (J0 : cw_M) (x1 : Int32) (x2 : Int32) (x3 : Int32) (x4 : Int32) (I : cw_M) : Prop := cw_B (cc_w K) (cc_w K) mX3_ownerAfterRotation (cw_Z (cc_w K) r J0) 0 0 0 0 I 7 [(0, .ref (cw_a (cc_w K) 16)), (1, .int x1), (2, .int x2), (3, .int x3), (4, .int x4)] []
set_option maxRecDepth 20000 in
set_option maxHeartbeats 4000000 in
theorem eX3_ownerAfterRotation_16 {K : cw_K} {r : Option Value} {J0 I : cw_M} {x1 : Int32} {x2 : Int32} (h : bX3_ownerAfterRotation_16_7 K r J0 x1 x2 (x2 - 1) 0 I) : cw_C (cc_w K) mX3_ownerAfterRotation [.ref (cw_a (cc_w K) 16), .int x1, .int x2] I r J0 := by
  refine cw_entry okX3_ownerAfterRotation (Nat.le_of_ble_eq_true rfl) (show cw_B (cc_w K) (cc_w K) mX3_ownerAfterRotation (cw_Z (cc_w K) r J0) 0 0 0 0 I 0 [(0, .ref (cw_a (cc_w K) 16)), (1, .int x1), (2, .int x2)] [] from ?_)
  refine cw_iload_n dX3_ownerAfterRotation_0 2 rfl rfl ?_
  refine cw_iconst (v := 1) dX3_ownerAfterRotation_1 (by decide) ?_
  refine cw_isub dX3_ownerAfterRotation_2 ?_
  refine cw_istore_n dX3_ownerAfterRotation_3 rfl (by decide) rfl ?_
  refine cw_iconst (v := 0) dX3_ownerAfterRotation_4 (by decide) ?_
  refine cw_istore dX3_ownerAfterRotation_5 (by decide) rfl ?_
  refine cw_sub [2, 3, 4, 1, 0] rfl ?_
  exact h
set_option maxRecDepth 20000 in
set_option maxHeartbeats 4000000 in
theorem tbX3_ownerAfterRotation_16_7 {K : cw_K} {r : Option Value} {J0 I : cw_M} {x1 : Int32} {x2 : Int32} {x3 : Int32} {x4 : Int32} (h : ((x2 ≤ x4 → (r = some (.int x1) ∧ J0 = I)) ∧ (¬ x2 ≤ x4 → (vp_in x4 6 ∧ ((¬ (I 17 x4.toNatClampNeg) = x1 → bX3_ownerAfterRotation_16_7 K r J0 x1 x2 x4 (x4 + 1) I) ∧ ((I 17 x4.toNatClampNeg) = x1 → (vp_in x3 6 ∧ (r = some (.int (I 17 x3.toNatClampNeg)) ∧ J0 = I)))))))) : bX3_ownerAfterRotation_16_7 K r J0 x1 x2 x3 x4 I := by
  refine cw_iload dX3_ownerAfterRotation_7 4 rfl ?_
  refine cw_iload_n dX3_ownerAfterRotation_9 2 rfl rfl ?_
  refine cw_icmp_ge (tgt := 40) dX3_ownerAfterRotation_10 (by decide) (fun q => ?_) (fun q => ?_)
  · have h := h.1 q
    refine cw_iload_n dX3_ownerAfterRotation_40 1 rfl rfl ?_
    exact cw_iret rfl dX3_ownerAfterRotation_41 h
  · have h := h.2 q
    refine cw_aload_n dX3_ownerAfterRotation_13 0 rfl rfl ?_
    refine cw_getf (C := RX3) (T := TX3) (N := 4) (ci := 4) inX3_ownerAfterRotation_RX3 16 (show 16 < 32 by decide) rfl rfl 0 (by decide) (by decide +kernel) rfl dX3_ownerAfterRotation_14 ?_
    refine cw_iload dX3_ownerAfterRotation_17 4 rfl ?_
    obtain ⟨g_19, h⟩ := h
    refine cw_iald 17 (show 17 < 32 by decide) rfl 0 rfl dX3_ownerAfterRotation_19 g_19 ?_
    refine cw_iload_n dX3_ownerAfterRotation_20 1 rfl rfl ?_
    refine cw_icmp_ne (tgt := 31) dX3_ownerAfterRotation_21 (by decide) (fun q => ?_) (fun q => ?_)
    · have h := h.1 q
      refine cw_iload dX3_ownerAfterRotation_31 4 rfl ?_
      refine cw_istore_n dX3_ownerAfterRotation_33 rfl (by decide) rfl ?_
      refine cw_iinc (v := x4 + 1) dX3_ownerAfterRotation_34 (j := 4) rfl rfl (by decide) rfl ?_
      refine cw_goto (tgt := 7) dX3_ownerAfterRotation_37 (by decide) ?_
      refine cw_sub [2, 3, 4, 1, 0] rfl ?_
      exact h
    · have h := h.2 q
      refine cw_aload_n dX3_ownerAfterRotation_24 0 rfl rfl ?_
      refine cw_getf (C := RX3) (T := TX3) (N := 4) (ci := 4) inX3_ownerAfterRotation_RX3 16 (show 16 < 32 by decide) rfl rfl 0 (by decide) (by decide +kernel) rfl dX3_ownerAfterRotation_25 ?_
      refine cw_iload_n dX3_ownerAfterRotation_28 3 rfl rfl ?_
      obtain ⟨g_29, h⟩ := h
      refine cw_iald 17 (show 17 < 32 by decide) rfl 0 rfl dX3_ownerAfterRotation_29 g_29 ?_
      exact cw_iret rfl dX3_ownerAfterRotation_30 h
abbrev bX6_firstToCall_20_23 (K : cw_K) (r : Option Value) (J0 : cw_M) (x1 : Int32) (x2 : Int32) (x3 : Int32) (x4 : Int32) (x5 : Int32) (x6 : Int32) (I : cw_M) : Prop := cw_B (cc_w K) (cc_w K) mX6_firstToCall (cw_Z (cc_w K) r J0) 0 0 0 0 I 23 [(0, .ref (cw_a (cc_w K) 20)), (1, .int x1), (2, .int x2), (3, .int x3), (4, .int x4), (5, .int x5), (6, .int x6)] []
set_option maxRecDepth 20000 in
set_option maxHeartbeats 4000000 in
theorem eX6_firstToCall_20 {K : cw_K} {r : Option Value} {J0 I : cw_M} {x1 : Int32} {x2 : Int32} {x3 : Int32} (h : (∃ (v_2 : Int32) (J_2 : cw_M), cw_C (cc_w K) mX6_firstWaiting [.ref (cw_a (cc_w K) 20), .int x1] I (some (.int v_2)) J_2 ∧ (∃ (v_12 : Int32) (J_12 : cw_M), cw_C (cc_w K) mX6_markOf [.ref (cw_a (cc_w K) 20), .int v_2, .int x2, .int x3] J_2 (some (.int v_12)) J_12 ∧ bX6_firstToCall_20_23 K r J0 x1 x2 x3 v_2 v_12 (v_2 + 1) J_12))) : cw_C (cc_w K) mX6_firstToCall [.ref (cw_a (cc_w K) 20), .int x1, .int x2, .int x3] I r J0 := by
  refine cw_entry okX6_firstToCall (Nat.le_of_ble_eq_true rfl) (show cw_B (cc_w K) (cc_w K) mX6_firstToCall (cw_Z (cc_w K) r J0) 0 0 0 0 I 0 [(0, .ref (cw_a (cc_w K) 20)), (1, .int x1), (2, .int x2), (3, .int x3)] [] from ?_)
  refine cw_aload_n dX6_firstToCall_0 0 rfl rfl ?_
  refine cw_iload_n dX6_firstToCall_1 1 rfl rfl ?_
  obtain ⟨v_2, J_2, hc_2, h⟩ := h
  refine cw_callV (o := 20) (As := [.int x1]) hc_2 okX6_firstWaiting rfl gX6_firstToCall_X6_firstWaiting (by decide) (show 20 < 32 by decide) rfl (ci := 7) rfl rfl (Nat.le_of_ble_eq_true rfl) dX6_firstToCall_2 ?_
  refine cw_istore dX6_firstToCall_5 (by decide) rfl ?_
  refine cw_aload_n dX6_firstToCall_7 1 rfl rfl ?_
  refine cw_iload dX6_firstToCall_8 0 rfl ?_
  refine cw_iload_n dX6_firstToCall_10 3 rfl rfl ?_
  refine cw_iload_n dX6_firstToCall_11 4 rfl rfl ?_
  obtain ⟨v_12, J_12, hc_12, h⟩ := h
  refine cw_callV (o := 20) (As := [.int v_2, .int x2, .int x3]) hc_12 okX6_markOf rfl gX6_firstToCall_X6_markOf (by decide) (show 20 < 32 by decide) rfl (ci := 7) rfl rfl (Nat.le_of_ble_eq_true rfl) dX6_firstToCall_12 ?_
  refine cw_istore dX6_firstToCall_15 (by decide) rfl ?_
  refine cw_iload dX6_firstToCall_17 1 rfl ?_
  refine cw_iconst (v := 1) dX6_firstToCall_19 (by decide) ?_
  refine cw_iadd dX6_firstToCall_20 ?_
  refine cw_istore dX6_firstToCall_21 (by decide) rfl ?_
  refine cw_sub [3, 4, 5, 6, 2, 1, 0] rfl ?_
  exact h
set_option maxRecDepth 20000 in
set_option maxHeartbeats 4000000 in
theorem tbX6_firstToCall_20_23 {K : cw_K} {r : Option Value} {J0 I : cw_M} {x1 : Int32} {x2 : Int32} {x3 : Int32} {x4 : Int32} {x5 : Int32} {x6 : Int32} (h : (((I 5 1) ≤ x6 → (r = some (.int x4) ∧ J0 = I)) ∧ (¬ (I 5 1) ≤ x6 → (∃ (v_39 : Int32) (J_39 : cw_M), cw_C (cc_w K) mX6_isWaiting [.ref (cw_a (cc_w K) 20), .int x1, .int x6] I (some (.int v_39)) J_39 ∧ ((v_39 = 0 → bX6_firstToCall_20_23 K r J0 x1 x2 x3 x4 x5 (x6 + 1) J_39) ∧ (¬ v_39 = 0 → (∃ (v_50 : Int32) (J_50 : cw_M), cw_C (cc_w K) mX6_markOf [.ref (cw_a (cc_w K) 20), .int x6, .int x2, .int x3] J_39 (some (.int v_50)) J_50 ∧ ((x5 ≤ v_50 → bX6_firstToCall_20_23 K r J0 x1 x2 x3 x4 x5 (x6 + 1) J_50) ∧ (¬ x5 ≤ v_50 → (∃ (v_67 : Int32) (J_67 : cw_M), cw_C (cc_w K) mX6_markOf [.ref (cw_a (cc_w K) 20), .int x6, .int x2, .int x3] J_50 (some (.int v_67)) J_67 ∧ bX6_firstToCall_20_23 K r J0 x1 x2 x3 x6 v_67 (x6 + 1) J_67)))))))))) : bX6_firstToCall_20_23 K r J0 x1 x2 x3 x4 x5 x6 I := by
  refine cw_iload dX6_firstToCall_23 6 rfl ?_
  refine cw_aload_n dX6_firstToCall_25 0 rfl rfl ?_
  refine cw_getf (C := RX6) (T := TX6) (N := 2) (ci := 7) inX6_firstToCall_RX6 20 (show 20 < 32 by decide) rfl rfl 1 (by decide) (by decide +kernel) rfl dX6_firstToCall_26 ?_
  refine cw_getf (C := RX1) (T := TX1) (N := 6) (ci := 2) inX6_firstToCall_RX1 5 (show 5 < 32 by decide) rfl rfl 1 (by decide) (by decide +kernel) rfl dX6_firstToCall_29 ?_
  refine cw_icmp_ge (tgt := 78) dX6_firstToCall_32 (by decide) (fun q => ?_) (fun q => ?_)
  · have h := h.1 q
    refine cw_iload dX6_firstToCall_78 4 rfl ?_
    exact cw_iret rfl dX6_firstToCall_80 h
  · have h := h.2 q
    refine cw_aload_n dX6_firstToCall_35 0 rfl rfl ?_
    refine cw_iload_n dX6_firstToCall_36 1 rfl rfl ?_
    refine cw_iload dX6_firstToCall_37 6 rfl ?_
    obtain ⟨v_39, J_39, hc_39, h⟩ := h
    refine cw_callV (o := 20) (As := [.int x1, .int x6]) hc_39 okX6_isWaiting rfl gX6_firstToCall_X6_isWaiting (by decide) (show 20 < 32 by decide) rfl (ci := 7) rfl rfl (Nat.le_of_ble_eq_true rfl) dX6_firstToCall_39 ?_
    refine cw_if_eq (tgt := 72) dX6_firstToCall_42 (by decide) (fun q => ?_) (fun q => ?_)
    · have h := h.1 q
      refine cw_iinc (v := x6 + 1) dX6_firstToCall_72 (j := 6) rfl rfl (by decide) rfl ?_
      refine cw_goto (tgt := 23) dX6_firstToCall_75 (by decide) ?_
      refine cw_sub [1, 2, 3, 4, 5, 6, 0] rfl ?_
      exact h
    · have h := h.2 q
      refine cw_aload_n dX6_firstToCall_45 0 rfl rfl ?_
      refine cw_iload dX6_firstToCall_46 6 rfl ?_
      refine cw_iload_n dX6_firstToCall_48 2 rfl rfl ?_
      refine cw_iload_n dX6_firstToCall_49 3 rfl rfl ?_
      obtain ⟨v_50, J_50, hc_50, h⟩ := h
      refine cw_callV (o := 20) (As := [.int x6, .int x2, .int x3]) hc_50 okX6_markOf rfl gX6_firstToCall_X6_markOf (by decide) (show 20 < 32 by decide) rfl (ci := 7) rfl rfl (Nat.le_of_ble_eq_true rfl) dX6_firstToCall_50 ?_
      refine cw_iload dX6_firstToCall_53 5 rfl ?_
      refine cw_icmp_ge (tgt := 72) dX6_firstToCall_55 (by decide) (fun q => ?_) (fun q => ?_)
      · have h := h.1 q
        refine cw_iinc (v := x6 + 1) dX6_firstToCall_72 (j := 6) rfl rfl (by decide) rfl ?_
        refine cw_goto (tgt := 23) dX6_firstToCall_75 (by decide) ?_
        refine cw_sub [1, 2, 3, 4, 5, 6, 0] rfl ?_
        exact h
      · have h := h.2 q
        refine cw_iload dX6_firstToCall_58 6 rfl ?_
        refine cw_istore dX6_firstToCall_60 (by decide) rfl ?_
        refine cw_aload_n dX6_firstToCall_62 1 rfl rfl ?_
        refine cw_iload dX6_firstToCall_63 6 rfl ?_
        refine cw_iload_n dX6_firstToCall_65 3 rfl rfl ?_
        refine cw_iload_n dX6_firstToCall_66 4 rfl rfl ?_
        obtain ⟨v_67, J_67, hc_67, h⟩ := h
        refine cw_callV (o := 20) (As := [.int x6, .int x2, .int x3]) hc_67 okX6_markOf rfl gX6_firstToCall_X6_markOf (by decide) (show 20 < 32 by decide) rfl (ci := 7) rfl rfl (Nat.le_of_ble_eq_true rfl) dX6_firstToCall_67 ?_
        refine cw_istore dX6_firstToCall_70 (by decide) rfl ?_
        refine cw_iinc (v := x6 + 1) dX6_firstToCall_72 (j := 6) rfl rfl (by decide) rfl ?_
        refine cw_goto (tgt := 23) dX6_firstToCall_75 (by decide) ?_
        refine cw_sub [3, 4, 5, 6, 2, 1, 0] rfl ?_
        exact h
abbrev bX6_firstWaiting_20_2 (K : cw_K) (r : Option Value) (J0 : cw_M) (x1 : Int32) (x2 : Int32) (I : cw_M) : Prop := cw_B (cc_w K) (cc_w K) mX6_firstWaiting (cw_Z (cc_w K) r J0) 0 0 0 0 I 2 [(0, .ref (cw_a (cc_w K) 20)), (1, .int x1), (2, .int x2)] []
set_option maxRecDepth 20000 in
set_option maxHeartbeats 4000000 in
theorem eX6_firstWaiting_20 {K : cw_K} {r : Option Value} {J0 I : cw_M} {x1 : Int32} (h : bX6_firstWaiting_20_2 K r J0 x1 0 I) : cw_C (cc_w K) mX6_firstWaiting [.ref (cw_a (cc_w K) 20), .int x1] I r J0 := by
  refine cw_entry okX6_firstWaiting (Nat.le_of_ble_eq_true rfl) (show cw_B (cc_w K) (cc_w K) mX6_firstWaiting (cw_Z (cc_w K) r J0) 0 0 0 0 I 0 [(0, .ref (cw_a (cc_w K) 20)), (1, .int x1)] [] from ?_)
  refine cw_iconst (v := 0) dX6_firstWaiting_0 (by decide) ?_
  refine cw_istore_n dX6_firstWaiting_1 rfl (by decide) rfl ?_
  refine cw_sub [1, 2, 0] rfl ?_
  exact h
set_option maxRecDepth 20000 in
set_option maxHeartbeats 4000000 in
theorem tbX6_firstWaiting_20_2 {K : cw_K} {r : Option Value} {J0 I : cw_M} {x1 : Int32} {x2 : Int32} (h : ((((I 5 1) - 1) ≤ x2 → (r = some (.int x2) ∧ J0 = I)) ∧ (¬ ((I 5 1) - 1) ≤ x2 → (∃ (v_18 : Int32) (J_18 : cw_M), cw_C (cc_w K) mX6_isWaiting [.ref (cw_a (cc_w K) 20), .int x1, .int x2] I (some (.int v_18)) J_18 ∧ ((¬ v_18 = 0 → (r = some (.int x2) ∧ J0 = J_18)) ∧ (v_18 = 0 → bX6_firstWaiting_20_2 K r J0 x1 (x2 + 1) J_18)))))) : bX6_firstWaiting_20_2 K r J0 x1 x2 I := by
  refine cw_iload_n dX6_firstWaiting_2 2 rfl rfl ?_
  refine cw_aload_n dX6_firstWaiting_3 0 rfl rfl ?_
  refine cw_getf (C := RX6) (T := TX6) (N := 2) (ci := 7) inX6_firstWaiting_RX6 20 (show 20 < 32 by decide) rfl rfl 1 (by decide) (by decide +kernel) rfl dX6_firstWaiting_4 ?_
  refine cw_getf (C := RX1) (T := TX1) (N := 6) (ci := 2) inX6_firstWaiting_RX1 5 (show 5 < 32 by decide) rfl rfl 1 (by decide) (by decide +kernel) rfl dX6_firstWaiting_7 ?_
  refine cw_iconst (v := 1) dX6_firstWaiting_10 (by decide) ?_
  refine cw_isub dX6_firstWaiting_11 ?_
  refine cw_icmp_ge (tgt := 30) dX6_firstWaiting_12 (by decide) (fun q => ?_) (fun q => ?_)
  · have h := h.1 q
    refine cw_iload_n dX6_firstWaiting_30 2 rfl rfl ?_
    exact cw_iret rfl dX6_firstWaiting_31 h
  · have h := h.2 q
    refine cw_aload_n dX6_firstWaiting_15 0 rfl rfl ?_
    refine cw_iload_n dX6_firstWaiting_16 1 rfl rfl ?_
    refine cw_iload_n dX6_firstWaiting_17 2 rfl rfl ?_
    obtain ⟨v_18, J_18, hc_18, h⟩ := h
    refine cw_callV (o := 20) (As := [.int x1, .int x2]) hc_18 okX6_isWaiting rfl gX6_firstWaiting_X6_isWaiting (by decide) (show 20 < 32 by decide) rfl (ci := 7) rfl rfl (Nat.le_of_ble_eq_true rfl) dX6_firstWaiting_18 ?_
    refine cw_if_ne (tgt := 30) dX6_firstWaiting_21 (by decide) (fun q => ?_) (fun q => ?_)
    · have h := h.1 q
      refine cw_iload_n dX6_firstWaiting_30 2 rfl rfl ?_
      exact cw_iret rfl dX6_firstWaiting_31 h
    · have h := h.2 q
      refine cw_iinc (v := x2 + 1) dX6_firstWaiting_24 (j := 2) rfl rfl (by decide) rfl ?_
      refine cw_goto (tgt := 2) dX6_firstWaiting_27 (by decide) ?_
      refine cw_sub [1, 2, 0] rfl ?_
      exact h
set_option maxRecDepth 20000 in
set_option maxHeartbeats 4000000 in
theorem eX6_isWaiting_20 {K : cw_K} {r : Option Value} {J0 I : cw_M} {x1 : Int32} {x2 : Int32} (h : ((¬ ((x1 >>> (x2 &&& 31)) &&& 1) = 0 → (r = some (.int 0) ∧ J0 = I)) ∧ (((x1 >>> (x2 &&& 31)) &&& 1) = 0 → (r = some (.int 1) ∧ J0 = I)))) : cw_C (cc_w K) mX6_isWaiting [.ref (cw_a (cc_w K) 20), .int x1, .int x2] I r J0 := by
  refine cw_entry okX6_isWaiting (Nat.le_of_ble_eq_true rfl) (show cw_B (cc_w K) (cc_w K) mX6_isWaiting (cw_Z (cc_w K) r J0) 0 0 0 0 I 0 [(0, .ref (cw_a (cc_w K) 20)), (1, .int x1), (2, .int x2)] [] from ?_)
  refine cw_iload_n dX6_isWaiting_0 1 rfl rfl ?_
  refine cw_iload_n dX6_isWaiting_1 2 rfl rfl ?_
  refine cw_ishr dX6_isWaiting_2 ?_
  refine cw_iconst (v := 1) dX6_isWaiting_3 (by decide) ?_
  refine cw_iand dX6_isWaiting_4 ?_
  refine cw_if_ne (tgt := 12) dX6_isWaiting_5 (by decide) (fun q => ?_) (fun q => ?_)
  · have h := h.1 q
    refine cw_iconst (v := 0) dX6_isWaiting_12 (by decide) ?_
    exact cw_bret rfl dX6_isWaiting_13 (by decide) h
  · have h := h.2 q
    refine cw_iconst (v := 1) dX6_isWaiting_8 (by decide) ?_
    refine cw_goto (tgt := 13) dX6_isWaiting_9 (by decide) ?_
    exact cw_bret rfl dX6_isWaiting_13 (by decide) h
