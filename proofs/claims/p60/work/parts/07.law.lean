/-! Blocks of the law's cake and of the law's own methods, laid by gen.py. -/
theorem inX11_agrees_RX11 : ∀ x ∈ u_ws RX11 TX11 5, x ∈ wsX11_agrees := by decide +kernel
theorem inX11_cut_RX11 : ∀ x ∈ u_ws RX11 TX11 5, x ∈ wsX11_cut := by decide +kernel
theorem inX11_divide_RX11 : ∀ x ∈ u_ws RX11 TX11 5, x ∈ wsX11_divide := by decide +kernel
theorem inX11_fill_RX11 : ∀ x ∈ u_ws RX11 TX11 5, x ∈ wsX11_fill := by decide +kernel
theorem inX11_knife_RX11 : ∀ x ∈ u_ws RX11 TX11 5, x ∈ wsX11_knife := by decide +kernel
theorem inX11_read_RX11 : ∀ x ∈ u_ws RX11 TX11 5, x ∈ wsX11_read := by decide +kernel
theorem inX11_robin_RX11 : ∀ x ∈ u_ws RX11 TX11 5, x ∈ wsX11_robin := by decide +kernel
theorem inX11_satisfied_RX11 : ∀ x ∈ u_ws RX11 TX11 5, x ∈ wsX11_satisfied := by decide +kernel
theorem inX11_sum_RX11 : ∀ x ∈ u_ws RX11 TX11 5, x ∈ wsX11_sum := by decide +kernel
theorem inX11_worth_RX11 : ∀ x ∈ u_ws RX11 TX11 5, x ∈ wsX11_worth := by decide +kernel
set_option maxRecDepth 20000 in
set_option maxHeartbeats 4000000 in
theorem eL_act_0 {K : cw_K} {r : Option Value} {J0 I : cw_M} {x1 : Int32} (h : (∃ (v_1 : Int32) (J_1 : cw_M), cw_C (cc_w K) mX10_siblingCount [.ref (cw_a (cc_w K) 0)] I (some (.int v_1)) J_1 ∧ (¬ v_1 = 0 ∧ (¬ v_1 = 0 ∧ (∃ (v_27 : Int32) (J_27 : cw_M), cw_C (cc_w K) mX10_cellCount [.ref (cw_a (cc_w K) 0)] J_1 (some (.int v_27)) J_27 ∧ (¬ v_27 = 0 ∧ (∃ (v_40 : Int32) (J_40 : cw_M), cw_C (cc_w K) mX10_cellCount [.ref (cw_a (cc_w K) 0)] J_27 (some (.int v_40)) J_40 ∧ (¬ (v_40 - ((x1 / 1024) - (x1 / 1024) / v_27 * v_27)) = 0 ∧ (((x1 - x1 / 12 * 12) = 0 → (∃ (v_114 : Int32) (J_114 : cw_M), cw_C (cc_w K) mX10_give [.ref (cw_a (cc_w K) 0), .int ((x1 / 16) - (x1 / 16) / v_1 * v_1), .int ((x1 / 1024) - (x1 / 1024) / v_27 * v_27), .int (((x1 / 1024) - (x1 / 1024) / v_27 * v_27) + ((x1 / 32768) - (x1 / 32768) / (v_40 - ((x1 / 1024) - (x1 / 1024) / v_27 * v_27)) * (v_40 - ((x1 / 1024) - (x1 / 1024) / v_27 * v_27))))] J_40 (some (.int v_114)) J_114 ∧ (r = none ∧ J0 = J_114))) ∧ (((x1 - x1 / 12 * 12) = 1 → (∃ (v_114 : Int32) (J_114 : cw_M), cw_C (cc_w K) mX10_give [.ref (cw_a (cc_w K) 0), .int ((x1 / 16) - (x1 / 16) / v_1 * v_1), .int ((x1 / 1024) - (x1 / 1024) / v_27 * v_27), .int (((x1 / 1024) - (x1 / 1024) / v_27 * v_27) + ((x1 / 32768) - (x1 / 32768) / (v_40 - ((x1 / 1024) - (x1 / 1024) / v_27 * v_27)) * (v_40 - ((x1 / 1024) - (x1 / 1024) / v_27 * v_27))))] J_40 (some (.int v_114)) J_114 ∧ (r = none ∧ J0 = J_114))) ∧ (((x1 - x1 / 12 * 12) = 2 → (∃ (v_114 : Int32) (J_114 : cw_M), cw_C (cc_w K) mX10_give [.ref (cw_a (cc_w K) 0), .int ((x1 / 16) - (x1 / 16) / v_1 * v_1), .int ((x1 / 1024) - (x1 / 1024) / v_27 * v_27), .int (((x1 / 1024) - (x1 / 1024) / v_27 * v_27) + ((x1 / 32768) - (x1 / 32768) / (v_40 - ((x1 / 1024) - (x1 / 1024) / v_27 * v_27)) * (v_40 - ((x1 / 1024) - (x1 / 1024) / v_27 * v_27))))] J_40 (some (.int v_114)) J_114 ∧ (r = none ∧ J0 = J_114))) ∧ (((x1 - x1 / 12 * 12) = 3 → (∃ (v_114 : Int32) (J_114 : cw_M), cw_C (cc_w K) mX10_give [.ref (cw_a (cc_w K) 0), .int ((x1 / 16) - (x1 / 16) / v_1 * v_1), .int ((x1 / 1024) - (x1 / 1024) / v_27 * v_27), .int (((x1 / 1024) - (x1 / 1024) / v_27 * v_27) + ((x1 / 32768) - (x1 / 32768) / (v_40 - ((x1 / 1024) - (x1 / 1024) / v_27 * v_27)) * (v_40 - ((x1 / 1024) - (x1 / 1024) / v_27 * v_27))))] J_40 (some (.int v_114)) J_114 ∧ (r = none ∧ J0 = J_114))) ∧ (((x1 - x1 / 12 * 12) = 4 → (∃ (v_126 : Int32) (J_126 : cw_M), cw_C (cc_w K) mX10_release [.ref (cw_a (cc_w K) 0), .int ((x1 / 1024) - (x1 / 1024) / v_27 * v_27), .int (((x1 / 1024) - (x1 / 1024) / v_27 * v_27) + ((x1 / 32768) - (x1 / 32768) / (v_40 - ((x1 / 1024) - (x1 / 1024) / v_27 * v_27)) * (v_40 - ((x1 / 1024) - (x1 / 1024) / v_27 * v_27))))] J_40 (some (.int v_126)) J_126 ∧ (r = none ∧ J0 = J_126))) ∧ (((x1 - x1 / 12 * 12) = 5 → ((((x1 / 16) - (x1 / 16) / v_1 * v_1) = ((x1 / 128) - (x1 / 128) / v_1 * v_1) → (r = none ∧ J0 = J_40)) ∧ (¬ ((x1 / 16) - (x1 / 16) / v_1 * v_1) = ((x1 / 128) - (x1 / 128) / v_1 * v_1) → (∃ (v_143 : Int32) (J_143 : cw_M), cw_C (cc_w K) mX10_swapShares [.ref (cw_a (cc_w K) 0), .int ((x1 / 16) - (x1 / 16) / v_1 * v_1), .int ((x1 / 128) - (x1 / 128) / v_1 * v_1)] J_40 (some (.int v_143)) J_143 ∧ (r = none ∧ J0 = J_143))))) ∧ (((x1 - x1 / 12 * 12) = 6 → (∃ (v_161 : Int32) (J_161 : cw_M), cw_C (cc_w K) mX10_setValue [.ref (cw_a (cc_w K) 0), .int ((x1 / 16) - (x1 / 16) / v_1 * v_1), .int ((x1 / 1024) - (x1 / 1024) / v_27 * v_27), .int ((x1 / 32768) - (x1 / 32768) / 10 * 10)] J_40 (some (.int v_161)) J_161 ∧ (r = none ∧ J0 = J_161))) ∧ (((x1 - x1 / 12 * 12) = 7 → (∃ (v_170 : Int32) (J_170 : cw_M), cw_C (cc_w K) mX10_roundRobin [.ref (cw_a (cc_w K) 0), .int ((x1 / 16) - (x1 / 16) / v_1 * v_1)] J_40 (some (.int v_170)) J_170 ∧ (r = none ∧ J0 = J_170))) ∧ (((x1 - x1 / 12 * 12) = 8 → (∃ (v_179 : Int32) (J_179 : cw_M), cw_C (cc_w K) mX10_envyCycleLength [.ref (cw_a (cc_w K) 0), .int ((x1 / 16) - (x1 / 16) / v_1 * v_1)] J_40 (some (.int v_179)) J_179 ∧ ((v_179 ≤ 0 → (r = none ∧ J0 = J_179)) ∧ (¬ v_179 ≤ 0 → (∃ (v_187 : Int32) (J_187 : cw_M), cw_C (cc_w K) mX10_rotate [.ref (cw_a (cc_w K) 0), .int ((x1 / 16) - (x1 / 16) / v_1 * v_1)] J_179 (some (.int v_187)) J_187 ∧ (r = none ∧ J0 = J_187)))))) ∧ (((x1 - x1 / 12 * 12) = 9 → (∃ (v_195 : Int32) (J_195 : cw_M), cw_C (cc_w K) mX10_movingKnife [.ref (cw_a (cc_w K) 0)] J_40 (some (.int v_195)) J_195 ∧ (r = none ∧ J0 = J_195))) ∧ (¬ (x1 - x1 / 12 * 12) = 0 → ¬ (x1 - x1 / 12 * 12) = 1 → ¬ (x1 - x1 / 12 * 12) = 2 → ¬ (x1 - x1 / 12 * 12) = 3 → ¬ (x1 - x1 / 12 * 12) = 4 → ¬ (x1 - x1 / 12 * 12) = 5 → ¬ (x1 - x1 / 12 * 12) = 6 → ¬ (x1 - x1 / 12 * 12) = 7 → ¬ (x1 - x1 / 12 * 12) = 8 → ¬ (x1 - x1 / 12 * 12) = 9 → ((((x1 / 16) - (x1 / 16) / v_1 * v_1) = ((x1 / 128) - (x1 / 128) / v_1 * v_1) → (r = none ∧ J0 = J_40)) ∧ (¬ ((x1 / 16) - (x1 / 16) / v_1 * v_1) = ((x1 / 128) - (x1 / 128) / v_1 * v_1) → ((¬ ((x1 / 4194304) - (x1 / 4194304) / 3 * 3) = 0 → (r = none ∧ J0 = J_40)) ∧ (((x1 / 4194304) - (x1 / 4194304) / 3 * 3) = 0 → (∃ (v_221 : Int32) (J_221 : cw_M), cw_C (cc_w K) mX10_divideAndChoose [.ref (cw_a (cc_w K) 0), .int ((x1 / 16) - (x1 / 16) / v_1 * v_1), .int ((x1 / 128) - (x1 / 128) / v_1 * v_1)] J_40 (some (.int v_221)) J_221 ∧ (r = none ∧ J0 = J_221))))))))))))))))))))))))) : cw_C (cc_w K) mL_act [.ref (cw_a (cc_w K) 0), .int x1] I r J0 := by
  refine cw_entry okL_act (Nat.le_of_ble_eq_true rfl) (show cw_B (cc_w K) (cc_w K) mL_act (cw_Z (cc_w K) r J0) 0 0 0 0 I 0 [(0, .ref (cw_a (cc_w K) 0)), (1, .int x1)] [] from ?_)
  refine cw_aload_n dL_act_0 0 rfl rfl ?_
  obtain ⟨v_1, J_1, hc_1, h⟩ := h
  refine cw_callV (o := 0) (As := []) hc_1 okX10_siblingCount rfl gL_act_X10_siblingCount (by decide) (show 0 < 32 by decide) rfl (ci := 10) rfl rfl (Nat.le_of_ble_eq_true rfl) dL_act_1 ?_
  refine cw_istore_n dL_act_4 rfl (by decide) rfl ?_
  refine cw_iload_n dL_act_5 2 rfl rfl ?_
  refine cw_bipush (v := 16) dL_act_6 (by decide) ?_
  refine cw_idiv dL_act_8 (by decide) ?_
  refine cw_iload_n dL_act_9 0 rfl rfl ?_
  obtain ⟨g0_10, h⟩ := h
  refine cw_irem dL_act_10 g0_10 ?_
  refine cw_istore_n dL_act_11 rfl (by decide) rfl ?_
  refine cw_iload_n dL_act_12 3 rfl rfl ?_
  refine cw_sipush (v := 128) dL_act_13 (by decide) ?_
  refine cw_idiv dL_act_16 (by decide) ?_
  refine cw_iload_n dL_act_17 1 rfl rfl ?_
  obtain ⟨g0_18, h⟩ := h
  refine cw_irem dL_act_18 g0_18 ?_
  refine cw_istore dL_act_19 (by decide) rfl ?_
  refine cw_iload_n dL_act_21 4 rfl rfl ?_
  refine cw_sipush (v := 1024) dL_act_22 (by decide) ?_
  refine cw_idiv dL_act_25 (by decide) ?_
  refine cw_aload_n dL_act_26 3 rfl rfl ?_
  obtain ⟨v_27, J_27, hc_27, h⟩ := h
  refine cw_callV (o := 0) (As := []) hc_27 okX10_cellCount rfl gL_act_X10_cellCount (by decide) (show 0 < 32 by decide) rfl (ci := 10) rfl rfl (Nat.le_of_ble_eq_true rfl) dL_act_27 ?_
  obtain ⟨g0_30, h⟩ := h
  refine cw_irem dL_act_30 g0_30 ?_
  refine cw_istore dL_act_31 (by decide) rfl ?_
  refine cw_iload dL_act_33 0 rfl ?_
  refine cw_iload_n dL_act_35 5 rfl rfl ?_
  refine cw_ldcI (v := 32768) (by decide +kernel) dL_act_36 ?_
  refine cw_idiv dL_act_38 (by decide) ?_
  refine cw_aload_n dL_act_39 4 rfl rfl ?_
  obtain ⟨v_40, J_40, hc_40, h⟩ := h
  refine cw_callV (o := 0) (As := []) hc_40 okX10_cellCount rfl gL_act_X10_cellCount (by decide) (show 0 < 32 by decide) rfl (ci := 10) rfl rfl (Nat.le_of_ble_eq_true rfl) dL_act_40 ?_
  refine cw_iload dL_act_43 0 rfl ?_
  refine cw_isub dL_act_45 ?_
  obtain ⟨g0_46, h⟩ := h
  refine cw_irem dL_act_46 g0_46 ?_
  refine cw_iadd dL_act_47 ?_
  refine cw_istore dL_act_48 (by decide) rfl ?_
  refine cw_iload_n dL_act_50 6 rfl rfl ?_
  refine cw_bipush (v := 12) dL_act_51 (by decide) ?_
  refine cw_irem dL_act_53 (by decide) ?_
  by_cases q0 : (x1 - x1 / 12 * 12) = 0
  · have h := h.1 q0
    refine cw_tableIn (tgt := 108) (off := 54) dL_act_54 (by rw [q0]; decide) (by rw [q0]; decide) (by rw [q0]; decide +kernel) (by decide) ?_
    refine cw_aload_n dL_act_108 5 rfl rfl ?_
    refine cw_iload_n dL_act_109 3 rfl rfl ?_
    refine cw_iload dL_act_110 1 rfl ?_
    refine cw_iload dL_act_112 0 rfl ?_
    obtain ⟨v_114, J_114, hc_114, h⟩ := h
    refine cw_callV (o := 0) (As := [.int ((x1 / 16) - (x1 / 16) / v_1 * v_1), .int ((x1 / 1024) - (x1 / 1024) / v_27 * v_27), .int (((x1 / 1024) - (x1 / 1024) / v_27 * v_27) + ((x1 / 32768) - (x1 / 32768) / (v_40 - ((x1 / 1024) - (x1 / 1024) / v_27 * v_27)) * (v_40 - ((x1 / 1024) - (x1 / 1024) / v_27 * v_27))))]) hc_114 okX10_give rfl gL_act_X10_give (by decide) (show 0 < 32 by decide) rfl (ci := 10) rfl rfl (Nat.le_of_ble_eq_true rfl) dL_act_114 ?_
    refine cw_pop dL_act_117 rfl ?_
    refine cw_goto (tgt := 225) dL_act_118 (by decide) ?_
    exact cw_vret rfl dL_act_225 h
  · have h := h.2
    by_cases q1 : (x1 - x1 / 12 * 12) = 1
    · have h := h.1 q1
      refine cw_tableIn (tgt := 108) (off := 54) dL_act_54 (by rw [q1]; decide) (by rw [q1]; decide) (by rw [q1]; decide +kernel) (by decide) ?_
      refine cw_aload_n dL_act_108 5 rfl rfl ?_
      refine cw_iload_n dL_act_109 3 rfl rfl ?_
      refine cw_iload dL_act_110 1 rfl ?_
      refine cw_iload dL_act_112 0 rfl ?_
      obtain ⟨v_114, J_114, hc_114, h⟩ := h
      refine cw_callV (o := 0) (As := [.int ((x1 / 16) - (x1 / 16) / v_1 * v_1), .int ((x1 / 1024) - (x1 / 1024) / v_27 * v_27), .int (((x1 / 1024) - (x1 / 1024) / v_27 * v_27) + ((x1 / 32768) - (x1 / 32768) / (v_40 - ((x1 / 1024) - (x1 / 1024) / v_27 * v_27)) * (v_40 - ((x1 / 1024) - (x1 / 1024) / v_27 * v_27))))]) hc_114 okX10_give rfl gL_act_X10_give (by decide) (show 0 < 32 by decide) rfl (ci := 10) rfl rfl (Nat.le_of_ble_eq_true rfl) dL_act_114 ?_
      refine cw_pop dL_act_117 rfl ?_
      refine cw_goto (tgt := 225) dL_act_118 (by decide) ?_
      exact cw_vret rfl dL_act_225 h
    · have h := h.2
      by_cases q2 : (x1 - x1 / 12 * 12) = 2
      · have h := h.1 q2
        refine cw_tableIn (tgt := 108) (off := 54) dL_act_54 (by rw [q2]; decide) (by rw [q2]; decide) (by rw [q2]; decide +kernel) (by decide) ?_
        refine cw_aload_n dL_act_108 5 rfl rfl ?_
        refine cw_iload_n dL_act_109 3 rfl rfl ?_
        refine cw_iload dL_act_110 1 rfl ?_
        refine cw_iload dL_act_112 0 rfl ?_
        obtain ⟨v_114, J_114, hc_114, h⟩ := h
        refine cw_callV (o := 0) (As := [.int ((x1 / 16) - (x1 / 16) / v_1 * v_1), .int ((x1 / 1024) - (x1 / 1024) / v_27 * v_27), .int (((x1 / 1024) - (x1 / 1024) / v_27 * v_27) + ((x1 / 32768) - (x1 / 32768) / (v_40 - ((x1 / 1024) - (x1 / 1024) / v_27 * v_27)) * (v_40 - ((x1 / 1024) - (x1 / 1024) / v_27 * v_27))))]) hc_114 okX10_give rfl gL_act_X10_give (by decide) (show 0 < 32 by decide) rfl (ci := 10) rfl rfl (Nat.le_of_ble_eq_true rfl) dL_act_114 ?_
        refine cw_pop dL_act_117 rfl ?_
        refine cw_goto (tgt := 225) dL_act_118 (by decide) ?_
        exact cw_vret rfl dL_act_225 h
      · have h := h.2
        by_cases q3 : (x1 - x1 / 12 * 12) = 3
        · have h := h.1 q3
          refine cw_tableIn (tgt := 108) (off := 54) dL_act_54 (by rw [q3]; decide) (by rw [q3]; decide) (by rw [q3]; decide +kernel) (by decide) ?_
          refine cw_aload_n dL_act_108 5 rfl rfl ?_
          refine cw_iload_n dL_act_109 3 rfl rfl ?_
          refine cw_iload dL_act_110 1 rfl ?_
          refine cw_iload dL_act_112 0 rfl ?_
          obtain ⟨v_114, J_114, hc_114, h⟩ := h
          refine cw_callV (o := 0) (As := [.int ((x1 / 16) - (x1 / 16) / v_1 * v_1), .int ((x1 / 1024) - (x1 / 1024) / v_27 * v_27), .int (((x1 / 1024) - (x1 / 1024) / v_27 * v_27) + ((x1 / 32768) - (x1 / 32768) / (v_40 - ((x1 / 1024) - (x1 / 1024) / v_27 * v_27)) * (v_40 - ((x1 / 1024) - (x1 / 1024) / v_27 * v_27))))]) hc_114 okX10_give rfl gL_act_X10_give (by decide) (show 0 < 32 by decide) rfl (ci := 10) rfl rfl (Nat.le_of_ble_eq_true rfl) dL_act_114 ?_
          refine cw_pop dL_act_117 rfl ?_
          refine cw_goto (tgt := 225) dL_act_118 (by decide) ?_
          exact cw_vret rfl dL_act_225 h
        · have h := h.2
          by_cases q4 : (x1 - x1 / 12 * 12) = 4
          · have h := h.1 q4
            refine cw_tableIn (tgt := 121) (off := 67) dL_act_54 (by rw [q4]; decide) (by rw [q4]; decide) (by rw [q4]; decide +kernel) (by decide) ?_
            refine cw_aload_n dL_act_121 5 rfl rfl ?_
            refine cw_iload dL_act_122 1 rfl ?_
            refine cw_iload dL_act_124 0 rfl ?_
            obtain ⟨v_126, J_126, hc_126, h⟩ := h
            refine cw_callV (o := 0) (As := [.int ((x1 / 1024) - (x1 / 1024) / v_27 * v_27), .int (((x1 / 1024) - (x1 / 1024) / v_27 * v_27) + ((x1 / 32768) - (x1 / 32768) / (v_40 - ((x1 / 1024) - (x1 / 1024) / v_27 * v_27)) * (v_40 - ((x1 / 1024) - (x1 / 1024) / v_27 * v_27))))]) hc_126 okX10_release rfl gL_act_X10_release (by decide) (show 0 < 32 by decide) rfl (ci := 10) rfl rfl (Nat.le_of_ble_eq_true rfl) dL_act_126 ?_
            refine cw_pop dL_act_129 rfl ?_
            refine cw_goto (tgt := 225) dL_act_130 (by decide) ?_
            exact cw_vret rfl dL_act_225 h
          · have h := h.2
            by_cases q5 : (x1 - x1 / 12 * 12) = 5
            · have h := h.1 q5
              refine cw_tableIn (tgt := 133) (off := 79) dL_act_54 (by rw [q5]; decide) (by rw [q5]; decide) (by rw [q5]; decide +kernel) (by decide) ?_
              refine cw_iload_n dL_act_133 3 rfl rfl ?_
              refine cw_iload dL_act_134 2 rfl ?_
              refine cw_icmp_eq (tgt := 225) dL_act_136 (by decide) (fun q => ?_) (fun q => ?_)
              · have h := h.1 q
                exact cw_vret rfl dL_act_225 h
              · have h := h.2 q
                refine cw_aload_n dL_act_139 5 rfl rfl ?_
                refine cw_iload_n dL_act_140 3 rfl rfl ?_
                refine cw_iload dL_act_141 2 rfl ?_
                obtain ⟨v_143, J_143, hc_143, h⟩ := h
                refine cw_callV (o := 0) (As := [.int ((x1 / 16) - (x1 / 16) / v_1 * v_1), .int ((x1 / 128) - (x1 / 128) / v_1 * v_1)]) hc_143 okX10_swapShares rfl gL_act_X10_swapShares (by decide) (show 0 < 32 by decide) rfl (ci := 10) rfl rfl (Nat.le_of_ble_eq_true rfl) dL_act_143 ?_
                refine cw_pop dL_act_146 rfl ?_
                refine cw_goto (tgt := 225) dL_act_147 (by decide) ?_
                exact cw_vret rfl dL_act_225 h
            · have h := h.2
              by_cases q6 : (x1 - x1 / 12 * 12) = 6
              · have h := h.1 q6
                refine cw_tableIn (tgt := 150) (off := 96) dL_act_54 (by rw [q6]; decide) (by rw [q6]; decide) (by rw [q6]; decide +kernel) (by decide) ?_
                refine cw_aload_n dL_act_150 5 rfl rfl ?_
                refine cw_iload_n dL_act_151 3 rfl rfl ?_
                refine cw_iload dL_act_152 1 rfl ?_
                refine cw_iload_n dL_act_154 6 rfl rfl ?_
                refine cw_ldcI (v := 32768) (by decide +kernel) dL_act_155 ?_
                refine cw_idiv dL_act_157 (by decide) ?_
                refine cw_bipush (v := 10) dL_act_158 (by decide) ?_
                refine cw_irem dL_act_160 (by decide) ?_
                obtain ⟨v_161, J_161, hc_161, h⟩ := h
                refine cw_callV (o := 0) (As := [.int ((x1 / 16) - (x1 / 16) / v_1 * v_1), .int ((x1 / 1024) - (x1 / 1024) / v_27 * v_27), .int ((x1 / 32768) - (x1 / 32768) / 10 * 10)]) hc_161 okX10_setValue rfl gL_act_X10_setValue (by decide) (show 0 < 32 by decide) rfl (ci := 10) rfl rfl (Nat.le_of_ble_eq_true rfl) dL_act_161 ?_
                refine cw_pop dL_act_164 rfl ?_
                refine cw_goto (tgt := 225) dL_act_165 (by decide) ?_
                exact cw_vret rfl dL_act_225 h
              · have h := h.2
                by_cases q7 : (x1 - x1 / 12 * 12) = 7
                · have h := h.1 q7
                  refine cw_tableIn (tgt := 168) (off := 114) dL_act_54 (by rw [q7]; decide) (by rw [q7]; decide) (by rw [q7]; decide +kernel) (by decide) ?_
                  refine cw_aload_n dL_act_168 5 rfl rfl ?_
                  refine cw_iload_n dL_act_169 3 rfl rfl ?_
                  obtain ⟨v_170, J_170, hc_170, h⟩ := h
                  refine cw_callV (o := 0) (As := [.int ((x1 / 16) - (x1 / 16) / v_1 * v_1)]) hc_170 okX10_roundRobin rfl gL_act_X10_roundRobin (by decide) (show 0 < 32 by decide) rfl (ci := 10) rfl rfl (Nat.le_of_ble_eq_true rfl) dL_act_170 ?_
                  refine cw_pop dL_act_173 rfl ?_
                  refine cw_goto (tgt := 225) dL_act_174 (by decide) ?_
                  exact cw_vret rfl dL_act_225 h
                · have h := h.2
                  by_cases q8 : (x1 - x1 / 12 * 12) = 8
                  · have h := h.1 q8
                    refine cw_tableIn (tgt := 177) (off := 123) dL_act_54 (by rw [q8]; decide) (by rw [q8]; decide) (by rw [q8]; decide +kernel) (by decide) ?_
                    refine cw_aload_n dL_act_177 5 rfl rfl ?_
                    refine cw_iload_n dL_act_178 3 rfl rfl ?_
                    obtain ⟨v_179, J_179, hc_179, h⟩ := h
                    refine cw_callV (o := 0) (As := [.int ((x1 / 16) - (x1 / 16) / v_1 * v_1)]) hc_179 okX10_envyCycleLength rfl gL_act_X10_envyCycleLength (by decide) (show 0 < 32 by decide) rfl (ci := 10) rfl rfl (Nat.le_of_ble_eq_true rfl) dL_act_179 ?_
                    refine cw_if_le (tgt := 225) dL_act_182 (by decide) (fun q => ?_) (fun q => ?_)
                    · have h := h.1 q
                      exact cw_vret rfl dL_act_225 h
                    · have h := h.2 q
                      refine cw_aload_n dL_act_185 5 rfl rfl ?_
                      refine cw_iload_n dL_act_186 3 rfl rfl ?_
                      obtain ⟨v_187, J_187, hc_187, h⟩ := h
                      refine cw_callV (o := 0) (As := [.int ((x1 / 16) - (x1 / 16) / v_1 * v_1)]) hc_187 okX10_rotate rfl gL_act_X10_rotate (by decide) (show 0 < 32 by decide) rfl (ci := 10) rfl rfl (Nat.le_of_ble_eq_true rfl) dL_act_187 ?_
                      refine cw_pop dL_act_190 rfl ?_
                      refine cw_goto (tgt := 225) dL_act_191 (by decide) ?_
                      exact cw_vret rfl dL_act_225 h
                  · have h := h.2
                    by_cases q9 : (x1 - x1 / 12 * 12) = 9
                    · have h := h.1 q9
                      refine cw_tableIn (tgt := 194) (off := 140) dL_act_54 (by rw [q9]; decide) (by rw [q9]; decide) (by rw [q9]; decide +kernel) (by decide) ?_
                      refine cw_aload_n dL_act_194 5 rfl rfl ?_
                      obtain ⟨v_195, J_195, hc_195, h⟩ := h
                      refine cw_callV (o := 0) (As := []) hc_195 okX10_movingKnife rfl gL_act_X10_movingKnife (by decide) (show 0 < 32 by decide) rfl (ci := 10) rfl rfl (Nat.le_of_ble_eq_true rfl) dL_act_195 ?_
                      refine cw_pop dL_act_198 rfl ?_
                      refine cw_goto (tgt := 225) dL_act_199 (by decide) ?_
                      exact cw_vret rfl dL_act_225 h
                    · have h := h.2
                      have h := h q0 q1 q2 q3 q4 q5 q6 q7 q8 q9
                      have n0 := lv_neT (a := 0) q0 (by decide)
                      have n1 := lv_neT (a := 1) q1 (by decide)
                      have n2 := lv_neT (a := 2) q2 (by decide)
                      have n3 := lv_neT (a := 3) q3 (by decide)
                      have n4 := lv_neT (a := 4) q4 (by decide)
                      have n5 := lv_neT (a := 5) q5 (by decide)
                      have n6 := lv_neT (a := 6) q6 (by decide)
                      have n7 := lv_neT (a := 7) q7 (by decide)
                      have n8 := lv_neT (a := 8) q8 (by decide)
                      have n9 := lv_neT (a := 9) q9 (by decide)
                      refine cw_tableOut (tgt := 202) dL_act_54 (by omega) (by decide) ?_
                      refine cw_iload_n dL_act_202 3 rfl rfl ?_
                      refine cw_iload dL_act_203 2 rfl ?_
                      refine cw_icmp_eq (tgt := 225) dL_act_205 (by decide) (fun q => ?_) (fun q => ?_)
                      · have h := h.1 q
                        exact cw_vret rfl dL_act_225 h
                      · have h := h.2 q
                        refine cw_iload_n dL_act_208 6 rfl rfl ?_
                        refine cw_ldcI (v := 4194304) (by decide +kernel) dL_act_209 ?_
                        refine cw_idiv dL_act_211 (by decide) ?_
                        refine cw_iconst (v := 3) dL_act_212 (by decide) ?_
                        refine cw_irem dL_act_213 (by decide) ?_
                        refine cw_if_ne (tgt := 225) dL_act_214 (by decide) (fun q => ?_) (fun q => ?_)
                        · have h := h.1 q
                          exact cw_vret rfl dL_act_225 h
                        · have h := h.2 q
                          refine cw_aload_n dL_act_217 5 rfl rfl ?_
                          refine cw_iload_n dL_act_218 3 rfl rfl ?_
                          refine cw_iload dL_act_219 2 rfl ?_
                          obtain ⟨v_221, J_221, hc_221, h⟩ := h
                          refine cw_callV (o := 0) (As := [.int ((x1 / 16) - (x1 / 16) / v_1 * v_1), .int ((x1 / 128) - (x1 / 128) / v_1 * v_1)]) hc_221 okX10_divideAndChoose rfl gL_act_X10_divideAndChoose (by decide) (show 0 < 32 by decide) rfl (ci := 10) rfl rfl (Nat.le_of_ble_eq_true rfl) dL_act_221 ?_
                          refine cw_pop dL_act_224 rfl ?_
                          exact cw_vret rfl dL_act_225 h
abbrev bL_isMildAll_0_2 (K : cw_K) (r : Option Value) (J0 : cw_M) (x1 : Int32) (I : cw_M) : Prop := cw_B (cc_w K) (cc_w K) mL_isMildAll (cw_Z (cc_w K) r J0) 0 0 0 0 I 2 [(0, .ref (cw_a (cc_w K) 0)), (1, .int x1)] []
abbrev bL_isMildAll_0_12 (K : cw_K) (r : Option Value) (J0 : cw_M) (x1 : Int32) (x2 : Int32) (I : cw_M) : Prop := cw_B (cc_w K) (cc_w K) mL_isMildAll (cw_Z (cc_w K) r J0) 0 0 0 0 I 12 [(0, .ref (cw_a (cc_w K) 0)), (1, .int x1), (2, .int x2)] []
set_option maxRecDepth 20000 in
set_option maxHeartbeats 4000000 in
theorem eL_isMildAll_0 {K : cw_K} {r : Option Value} {J0 I : cw_M} (h : bL_isMildAll_0_2 K r J0 0 I) : cw_C (cc_w K) mL_isMildAll [.ref (cw_a (cc_w K) 0)] I r J0 := by
  refine cw_entry okL_isMildAll (Nat.le_of_ble_eq_true rfl) (show cw_B (cc_w K) (cc_w K) mL_isMildAll (cw_Z (cc_w K) r J0) 0 0 0 0 I 0 [(0, .ref (cw_a (cc_w K) 0))] [] from ?_)
  refine cw_iconst (v := 0) dL_isMildAll_0 (by decide) ?_
  refine cw_istore_n dL_isMildAll_1 rfl (by decide) rfl ?_
  refine cw_sub [1, 0] rfl ?_
  exact h
set_option maxRecDepth 20000 in
set_option maxHeartbeats 4000000 in
theorem tbL_isMildAll_0_2 {K : cw_K} {r : Option Value} {J0 I : cw_M} {x1 : Int32} (h : (∃ (v_4 : Int32) (J_4 : cw_M), cw_C (cc_w K) mX10_siblingCount [.ref (cw_a (cc_w K) 0)] I (some (.int v_4)) J_4 ∧ ((v_4 ≤ x1 → (∃ (v_53 : Int32) (J_53 : cw_M), cw_C (cc_w K) mX10_strongEnvyCount [.ref (cw_a (cc_w K) 0)] J_4 (some (.int v_53)) J_53 ∧ ((¬ v_53 = 0 → (r = some (.int 0) ∧ J0 = J_53)) ∧ (v_53 = 0 → (r = some (.int 1) ∧ J0 = J_53))))) ∧ (¬ v_4 ≤ x1 → bL_isMildAll_0_12 K r J0 x1 0 J_4)))) : bL_isMildAll_0_2 K r J0 x1 I := by
  refine cw_iload_n dL_isMildAll_2 1 rfl rfl ?_
  refine cw_aload_n dL_isMildAll_3 0 rfl rfl ?_
  obtain ⟨v_4, J_4, hc_4, h⟩ := h
  refine cw_callV (o := 0) (As := []) hc_4 okX10_siblingCount rfl gL_isMildAll_X10_siblingCount (by decide) (show 0 < 32 by decide) rfl (ci := 10) rfl rfl (Nat.le_of_ble_eq_true rfl) dL_isMildAll_4 ?_
  refine cw_icmp_ge (tgt := 52) dL_isMildAll_7 (by decide) (fun q => ?_) (fun q => ?_)
  · have h := h.1 q
    refine cw_aload_n dL_isMildAll_52 0 rfl rfl ?_
    obtain ⟨v_53, J_53, hc_53, h⟩ := h
    refine cw_callV (o := 0) (As := []) hc_53 okX10_strongEnvyCount rfl gL_isMildAll_X10_strongEnvyCount (by decide) (show 0 < 32 by decide) rfl (ci := 10) rfl rfl (Nat.le_of_ble_eq_true rfl) dL_isMildAll_53 ?_
    refine cw_if_ne (tgt := 63) dL_isMildAll_56 (by decide) (fun q => ?_) (fun q => ?_)
    · have h := h.1 q
      refine cw_iconst (v := 0) dL_isMildAll_63 (by decide) ?_
      exact cw_bret rfl dL_isMildAll_64 (by decide) h
    · have h := h.2 q
      refine cw_iconst (v := 1) dL_isMildAll_59 (by decide) ?_
      refine cw_goto (tgt := 64) dL_isMildAll_60 (by decide) ?_
      exact cw_bret rfl dL_isMildAll_64 (by decide) h
  · have h := h.2 q
    refine cw_iconst (v := 0) dL_isMildAll_10 (by decide) ?_
    refine cw_istore_n dL_isMildAll_11 rfl (by decide) rfl ?_
    refine cw_sub [1, 2, 0] rfl ?_
    exact h
set_option maxRecDepth 20000 in
set_option maxHeartbeats 4000000 in
theorem tbL_isMildAll_0_12 {K : cw_K} {r : Option Value} {J0 I : cw_M} {x1 : Int32} {x2 : Int32} (h : (∃ (v_14 : Int32) (J_14 : cw_M), cw_C (cc_w K) mX10_siblingCount [.ref (cw_a (cc_w K) 0)] I (some (.int v_14)) J_14 ∧ ((v_14 ≤ x2 → bL_isMildAll_0_2 K r J0 (x1 + 1) J_14) ∧ (¬ v_14 ≤ x2 → (∃ (v_23 : Int32) (J_23 : cw_M), cw_C (cc_w K) mX10_envies [.ref (cw_a (cc_w K) 0), .int x1, .int x2] J_14 (some (.int v_23)) J_23 ∧ ((v_23 = 0 → bL_isMildAll_0_12 K r J0 x1 (x2 + 1) J_23) ∧ (¬ v_23 = 0 → (∃ (v_32 : Int32) (J_32 : cw_M), cw_C (cc_w K) mX10_isMild [.ref (cw_a (cc_w K) 0), .int x1, .int x2] J_23 (some (.int v_32)) J_32 ∧ ((¬ v_32 = 0 → bL_isMildAll_0_12 K r J0 x1 (x2 + 1) J_32) ∧ (v_32 = 0 → (r = some (.int 0) ∧ J0 = J_32))))))))))) : bL_isMildAll_0_12 K r J0 x1 x2 I := by
  refine cw_iload_n dL_isMildAll_12 2 rfl rfl ?_
  refine cw_aload_n dL_isMildAll_13 0 rfl rfl ?_
  obtain ⟨v_14, J_14, hc_14, h⟩ := h
  refine cw_callV (o := 0) (As := []) hc_14 okX10_siblingCount rfl gL_isMildAll_X10_siblingCount (by decide) (show 0 < 32 by decide) rfl (ci := 10) rfl rfl (Nat.le_of_ble_eq_true rfl) dL_isMildAll_14 ?_
  refine cw_icmp_ge (tgt := 46) dL_isMildAll_17 (by decide) (fun q => ?_) (fun q => ?_)
  · have h := h.1 q
    refine cw_iinc (v := x1 + 1) dL_isMildAll_46 (j := 1) rfl rfl (by decide) rfl ?_
    refine cw_goto (tgt := 2) dL_isMildAll_49 (by decide) ?_
    refine cw_sub [1, 0] rfl ?_
    exact h
  · have h := h.2 q
    refine cw_aload_n dL_isMildAll_20 0 rfl rfl ?_
    refine cw_iload_n dL_isMildAll_21 1 rfl rfl ?_
    refine cw_iload_n dL_isMildAll_22 2 rfl rfl ?_
    obtain ⟨v_23, J_23, hc_23, h⟩ := h
    refine cw_callV (o := 0) (As := [.int x1, .int x2]) hc_23 okX10_envies rfl gL_isMildAll_X10_envies (by decide) (show 0 < 32 by decide) rfl (ci := 10) rfl rfl (Nat.le_of_ble_eq_true rfl) dL_isMildAll_23 ?_
    refine cw_if_eq (tgt := 40) dL_isMildAll_26 (by decide) (fun q => ?_) (fun q => ?_)
    · have h := h.1 q
      refine cw_iinc (v := x2 + 1) dL_isMildAll_40 (j := 2) rfl rfl (by decide) rfl ?_
      refine cw_goto (tgt := 12) dL_isMildAll_43 (by decide) ?_
      refine cw_sub [1, 2, 0] rfl ?_
      exact h
    · have h := h.2 q
      refine cw_aload_n dL_isMildAll_29 0 rfl rfl ?_
      refine cw_iload_n dL_isMildAll_30 1 rfl rfl ?_
      refine cw_iload_n dL_isMildAll_31 2 rfl rfl ?_
      obtain ⟨v_32, J_32, hc_32, h⟩ := h
      refine cw_callV (o := 0) (As := [.int x1, .int x2]) hc_32 okX10_isMild rfl gL_isMildAll_X10_isMild (by decide) (show 0 < 32 by decide) rfl (ci := 10) rfl rfl (Nat.le_of_ble_eq_true rfl) dL_isMildAll_32 ?_
      refine cw_if_ne (tgt := 40) dL_isMildAll_35 (by decide) (fun q => ?_) (fun q => ?_)
      · have h := h.1 q
        refine cw_iinc (v := x2 + 1) dL_isMildAll_40 (j := 2) rfl rfl (by decide) rfl ?_
        refine cw_goto (tgt := 12) dL_isMildAll_43 (by decide) ?_
        refine cw_sub [1, 2, 0] rfl ?_
        exact h
      · have h := h.2 q
        refine cw_iconst (v := 0) dL_isMildAll_38 (by decide) ?_
        exact cw_bret rfl dL_isMildAll_39 (by decide) h
abbrev bL_word_4 (K : cw_K) (ta : Nat) (r : Option Value) (J0 : cw_M) (x1 : Int32) (x2 : Int32) (x3 : Int32) (I : cw_M) : Prop := cw_B (cc_w K) (cc_w K) mL_word (cw_Z (cc_w K) r J0) 0 0 0 0 I 4 [(0, .ref ta), (1, .int x1), (2, .int x2), (3, .int x3)] []
set_option maxRecDepth 20000 in
set_option maxHeartbeats 4000000 in
theorem eL_word {K : cw_K} {ta tv : Nat} {tl : List Int32} {r : Option Value} {J0 I : cw_M} {x1 : Int32} (h : bL_word_4 K ta r J0 x1 0 x1 I) : cw_C (cc_w K) mL_word [.ref ta, .int x1] I r J0 := by
  refine cw_entry okL_word (Nat.le_of_ble_eq_true rfl) (show cw_B (cc_w K) (cc_w K) mL_word (cw_Z (cc_w K) r J0) 0 0 0 0 I 0 [(0, .ref ta), (1, .int x1)] [] from ?_)
  refine cw_iconst (v := 0) dL_word_0 (by decide) ?_
  refine cw_istore_n dL_word_1 rfl (by decide) rfl ?_
  refine cw_iload_n dL_word_2 2 rfl rfl ?_
  refine cw_istore_n dL_word_3 rfl (by decide) rfl ?_
  refine cw_sub [2, 3, 1, 0] rfl ?_
  exact h
set_option maxRecDepth 20000 in
set_option maxHeartbeats 4000000 in
theorem tbL_word_4 {K : cw_K} {ta tv : Nat} {tl : List Int32} {r : Option Value} {J0 I : cw_M} {x1 : Int32} {x2 : Int32} {x3 : Int32} (hFt : cw_Ftx (cw_Fc K) ta tv tl) (htl : cw_Btx tl) (h : (((x1 + 4) ≤ x3 → (r = some (.int x2) ∧ J0 = I)) ∧ (¬ (x1 + 4) ≤ x3 → (((nI tl.length) ≤ x3 → bL_word_4 K ta r J0 x1 ((x2 <<< (8 &&& 31)) ||| 32) (x3 + 1) I) ∧ (¬ (nI tl.length) ≤ x3 → (vp_in x3 tl.length ∧ bL_word_4 K ta r J0 x1 ((x2 <<< (8 &&& 31)) ||| (tl.getD x3.toNatClampNeg 0)) (x3 + 1) I)))))) : bL_word_4 K ta r J0 x1 x2 x3 I := by
  refine cw_iload_n dL_word_4 3 rfl rfl ?_
  refine cw_iload_n dL_word_5 1 rfl rfl ?_
  refine cw_iconst (v := 4) dL_word_6 (by decide) ?_
  refine cw_iadd dL_word_7 ?_
  refine cw_icmp_ge (tgt := 41) dL_word_8 (by decide) (fun q => ?_) (fun q => ?_)
  · have h := h.1 q
    refine cw_iload_n dL_word_41 2 rfl rfl ?_
    exact cw_iret rfl dL_word_42 h
  · have h := h.2 q
    refine cw_iload_n dL_word_11 2 rfl rfl ?_
    refine cw_bipush (v := 8) dL_word_12 (by decide) ?_
    refine cw_ishl dL_word_14 ?_
    refine cw_iload_n dL_word_15 3 rfl rfl ?_
    refine cw_aload_n dL_word_16 0 rfl rfl ?_
    refine cw_callK (As := []) (jt_length hFt) okJ0_length_8abf5 rfl gL_word_J0_length_8abf5 (by decide) (fun A U H q => (hFt A U H q).2.2.1) rfl (Nat.le_of_ble_eq_true rfl) dL_word_17 ?_
    refine cw_icmp_ge (tgt := 31) dL_word_20 (by decide) (fun q => ?_) (fun q => ?_)
    · have h := h.1 q
      refine cw_bipush (v := 32) dL_word_31 (by decide) ?_
      refine cw_ior dL_word_33 ?_
      refine cw_istore_n dL_word_34 rfl (by decide) rfl ?_
      refine cw_iinc (v := x3 + 1) dL_word_35 (j := 3) rfl rfl (by decide) rfl ?_
      refine cw_goto (tgt := 4) dL_word_38 (by decide) ?_
      refine cw_sub [2, 3, 1, 0] rfl ?_
      exact h
    · have h := h.2 q
      refine cw_aload_n dL_word_23 0 rfl rfl ?_
      refine cw_iload_n dL_word_24 3 rfl rfl ?_
      obtain ⟨g_25, h⟩ := h
      refine cw_callK (As := [.int x3]) (jt_charAt hFt htl g_25) okJ0_charAt_5068e rfl gL_word_J0_charAt_5068e (by decide) (fun A U H q => (hFt A U H q).2.2.1) rfl (Nat.le_of_ble_eq_true rfl) dL_word_25 ?_
      refine cw_goto (tgt := 33) dL_word_28 (by decide) ?_
      refine cw_ior dL_word_33 ?_
      refine cw_istore_n dL_word_34 rfl (by decide) rfl ?_
      refine cw_iinc (v := x3 + 1) dL_word_35 (j := 3) rfl rfl (by decide) rfl ?_
      refine cw_goto (tgt := 4) dL_word_38 (by decide) ?_
      refine cw_sub [2, 3, 1, 0] rfl ?_
      exact h
abbrev bL_say_0_8 (K : cw_K) (ta : Nat) (r : Option Value) (J0 : cw_M) (x2 : Int32) (I : cw_M) : Prop := cw_B (cc_w K) (cc_w K) mL_say (cw_Z (cc_w K) r J0) 0 0 0 0 I 8 [(0, .ref (cw_a (cc_w K) 0)), (1, .ref ta), (2, .int x2)] []
set_option maxRecDepth 20000 in
set_option maxHeartbeats 4000000 in
theorem eL_say_0 {K : cw_K} {ta tv : Nat} {tl : List Int32} {r : Option Value} {J0 I : cw_M} (h : (∃ (v_2 : Int32) (J_2 : cw_M), cw_C (cc_w K) mX10_truncate [.ref (cw_a (cc_w K) 0), .int 0] I (some (.int v_2)) J_2 ∧ bL_say_0_8 K ta r J0 0 J_2)) : cw_C (cc_w K) mL_say [.ref (cw_a (cc_w K) 0), .ref ta] I r J0 := by
  refine cw_entry okL_say (Nat.le_of_ble_eq_true rfl) (show cw_B (cc_w K) (cc_w K) mL_say (cw_Z (cc_w K) r J0) 0 0 0 0 I 0 [(0, .ref (cw_a (cc_w K) 0)), (1, .ref ta)] [] from ?_)
  refine cw_aload_n dL_say_0 0 rfl rfl ?_
  refine cw_iconst (v := 0) dL_say_1 (by decide) ?_
  obtain ⟨v_2, J_2, hc_2, h⟩ := h
  refine cw_callV (o := 0) (As := [.int 0]) hc_2 okX10_truncate rfl gL_say_X10_truncate (by decide) (show 0 < 32 by decide) rfl (ci := 10) rfl rfl (Nat.le_of_ble_eq_true rfl) dL_say_2 ?_
  refine cw_pop dL_say_5 rfl ?_
  refine cw_iconst (v := 0) dL_say_6 (by decide) ?_
  refine cw_istore_n dL_say_7 rfl (by decide) rfl ?_
  refine cw_sub [1, 2, 0] rfl ?_
  exact h
set_option maxRecDepth 20000 in
set_option maxHeartbeats 4000000 in
theorem tbL_say_0_8 {K : cw_K} {ta tv : Nat} {tl : List Int32} {r : Option Value} {J0 I : cw_M} {x2 : Int32} (hFt : cw_Ftx (cw_Fc K) ta tv tl) (htl : cw_Btx tl) (h : (((nI tl.length) ≤ x2 → (∃ (v_68 : Int32) (J_68 : cw_M), cw_C (cc_w K) mX10_truncate [.ref (cw_a (cc_w K) 0), .int (nI tl.length)] I (some (.int v_68)) J_68 ∧ ((¬ v_68 = (nI tl.length) → (r = some (.int 0) ∧ J0 = J_68)) ∧ (v_68 = (nI tl.length) → (r = some (.int 1) ∧ J0 = J_68))))) ∧ (¬ (nI tl.length) ≤ x2 → (∃ (v_19 : Int32) (J_19 : cw_M), cw_C (cc_w K) mL_word [.ref ta, .int x2] I (some (.int v_19)) J_19 ∧ (∃ (v_26 : Int32) (J_26 : cw_M), cw_C (cc_w K) mL_word [.ref ta, .int (x2 + 4)] J_19 (some (.int v_26)) J_26 ∧ (∃ (v_34 : Int32) (J_34 : cw_M), cw_C (cc_w K) mL_word [.ref ta, .int (x2 + 8)] J_26 (some (.int v_34)) J_34 ∧ (∃ (v_42 : Int32) (J_42 : cw_M), cw_C (cc_w K) mL_word [.ref ta, .int (x2 + 12)] J_34 (some (.int v_42)) J_42 ∧ (∃ (v_50 : Int32) (J_50 : cw_M), cw_C (cc_w K) mL_word [.ref ta, .int (x2 + 16)] J_42 (some (.int v_50)) J_50 ∧ (∃ (v_53 : Int32) (J_53 : cw_M), cw_C (cc_w K) mX10_append [.ref (cw_a (cc_w K) 0), .int v_19, .int v_26, .int v_34, .int v_42, .int v_50] J_50 (some (.int v_53)) J_53 ∧ bL_say_0_8 K ta r J0 (x2 + 20) J_53))))))))) : bL_say_0_8 K ta r J0 x2 I := by
  refine cw_iload_n dL_say_8 2 rfl rfl ?_
  refine cw_aload_n dL_say_9 1 rfl rfl ?_
  refine cw_callK (As := []) (jt_length hFt) okJ0_length_8abf5 rfl gL_say_J0_length_8abf5 (by decide) (fun A U H q => (hFt A U H q).2.2.1) rfl (Nat.le_of_ble_eq_true rfl) dL_say_10 ?_
  refine cw_icmp_ge (tgt := 63) dL_say_13 (by decide) (fun q => ?_) (fun q => ?_)
  · have h := h.1 q
    refine cw_aload_n dL_say_63 0 rfl rfl ?_
    refine cw_aload_n dL_say_64 1 rfl rfl ?_
    refine cw_callK (As := []) (jt_length hFt) okJ0_length_8abf5 rfl gL_say_J0_length_8abf5 (by decide) (fun A U H q => (hFt A U H q).2.2.1) rfl (Nat.le_of_ble_eq_true rfl) dL_say_65 ?_
    obtain ⟨v_68, J_68, hc_68, h⟩ := h
    refine cw_callV (o := 0) (As := [.int (nI tl.length)]) hc_68 okX10_truncate rfl gL_say_X10_truncate (by decide) (show 0 < 32 by decide) rfl (ci := 10) rfl rfl (Nat.le_of_ble_eq_true rfl) dL_say_68 ?_
    refine cw_aload_n dL_say_71 1 rfl rfl ?_
    refine cw_callK (As := []) (jt_length hFt) okJ0_length_8abf5 rfl gL_say_J0_length_8abf5 (by decide) (fun A U H q => (hFt A U H q).2.2.1) rfl (Nat.le_of_ble_eq_true rfl) dL_say_72 ?_
    refine cw_icmp_ne (tgt := 82) dL_say_75 (by decide) (fun q => ?_) (fun q => ?_)
    · have h := h.1 q
      refine cw_iconst (v := 0) dL_say_82 (by decide) ?_
      exact cw_bret rfl dL_say_83 (by decide) h
    · have h := h.2 q
      refine cw_iconst (v := 1) dL_say_78 (by decide) ?_
      refine cw_goto (tgt := 83) dL_say_79 (by decide) ?_
      exact cw_bret rfl dL_say_83 (by decide) h
  · have h := h.2 q
    refine cw_aload_n dL_say_16 0 rfl rfl ?_
    refine cw_aload_n dL_say_17 1 rfl rfl ?_
    refine cw_iload_n dL_say_18 2 rfl rfl ?_
    obtain ⟨v_19, J_19, hc_19, h⟩ := h
    refine cw_callA (As := [.ref ta, .int x2]) hc_19 okL_word rfl gL_say_L_word (by decide) rfl (Nat.le_of_ble_eq_true rfl) dL_say_19 ?_
    refine cw_aload_n dL_say_22 1 rfl rfl ?_
    refine cw_iload_n dL_say_23 2 rfl rfl ?_
    refine cw_iconst (v := 4) dL_say_24 (by decide) ?_
    refine cw_iadd dL_say_25 ?_
    obtain ⟨v_26, J_26, hc_26, h⟩ := h
    refine cw_callA (As := [.ref ta, .int (x2 + 4)]) hc_26 okL_word rfl gL_say_L_word (by decide) rfl (Nat.le_of_ble_eq_true rfl) dL_say_26 ?_
    refine cw_aload_n dL_say_29 1 rfl rfl ?_
    refine cw_iload_n dL_say_30 2 rfl rfl ?_
    refine cw_bipush (v := 8) dL_say_31 (by decide) ?_
    refine cw_iadd dL_say_33 ?_
    obtain ⟨v_34, J_34, hc_34, h⟩ := h
    refine cw_callA (As := [.ref ta, .int (x2 + 8)]) hc_34 okL_word rfl gL_say_L_word (by decide) rfl (Nat.le_of_ble_eq_true rfl) dL_say_34 ?_
    refine cw_aload_n dL_say_37 1 rfl rfl ?_
    refine cw_iload_n dL_say_38 2 rfl rfl ?_
    refine cw_bipush (v := 12) dL_say_39 (by decide) ?_
    refine cw_iadd dL_say_41 ?_
    obtain ⟨v_42, J_42, hc_42, h⟩ := h
    refine cw_callA (As := [.ref ta, .int (x2 + 12)]) hc_42 okL_word rfl gL_say_L_word (by decide) rfl (Nat.le_of_ble_eq_true rfl) dL_say_42 ?_
    refine cw_aload_n dL_say_45 1 rfl rfl ?_
    refine cw_iload_n dL_say_46 2 rfl rfl ?_
    refine cw_bipush (v := 16) dL_say_47 (by decide) ?_
    refine cw_iadd dL_say_49 ?_
    obtain ⟨v_50, J_50, hc_50, h⟩ := h
    refine cw_callA (As := [.ref ta, .int (x2 + 16)]) hc_50 okL_word rfl gL_say_L_word (by decide) rfl (Nat.le_of_ble_eq_true rfl) dL_say_50 ?_
    obtain ⟨v_53, J_53, hc_53, h⟩ := h
    refine cw_callV (o := 0) (As := [.int v_19, .int v_26, .int v_34, .int v_42, .int v_50]) hc_53 okX10_append rfl gL_say_X10_append (by decide) (show 0 < 32 by decide) rfl (ci := 10) rfl rfl (Nat.le_of_ble_eq_true rfl) dL_say_53 ?_
    refine cw_pop dL_say_56 rfl ?_
    refine cw_iinc (v := x2 + 20) dL_say_57 (j := 2) rfl rfl (by decide) rfl ?_
    refine cw_goto (tgt := 8) dL_say_60 (by decide) ?_
    refine cw_sub [1, 2, 0] rfl ?_
    exact h
abbrev bX11_agrees_32_4 (K : cw_K) (r : Option Value) (J0 : cw_M) (x1 : Int32) (x2 : Int32) (I : cw_M) : Prop := cw_B (cp_w K) (cp_w K) mX11_agrees (cw_Z (cp_w K) r J0) 0 0 0 0 I 4 [(0, .ref (cw_a (cp_w K) 32)), (1, .int x1), (2, .int x2)] []
abbrev bX11_agrees_32_66 (K : cw_K) (r : Option Value) (J0 : cw_M) (x1 : Int32) (x2 : Int32) (x3 : Int32) (x4 : Int32) (I : cw_M) : Prop := cw_B (cp_w K) (cp_w K) mX11_agrees (cw_Z (cp_w K) r J0) 0 0 0 0 I 66 [(0, .ref (cw_a (cp_w K) 32)), (1, .int x1), (2, .int x2), (3, .int x3), (4, .int x4)] []
abbrev bX11_agrees_32_78 (K : cw_K) (r : Option Value) (J0 : cw_M) (x1 : Int32) (x2 : Int32) (x3 : Int32) (x4 : Int32) (x5 : Int32) (I : cw_M) : Prop := cw_B (cp_w K) (cp_w K) mX11_agrees (cw_Z (cp_w K) r J0) 0 0 0 0 I 78 [(0, .ref (cw_a (cp_w K) 32)), (1, .int x1), (2, .int x2), (3, .int x3), (4, .int x4), (5, .int x5)] []
set_option maxRecDepth 20000 in
set_option maxHeartbeats 4000000 in
theorem eX11_agrees_32 {K : cw_K} {r : Option Value} {J0 I : cw_M} (h : bX11_agrees_32_4 K r J0 0 0 I) : cw_C (cp_w K) mX11_agrees [.ref (cw_a (cp_w K) 32)] I r J0 := by
  refine cw_entry okX11_agrees (Nat.le_of_ble_eq_true rfl) (show cw_B (cp_w K) (cp_w K) mX11_agrees (cw_Z (cp_w K) r J0) 0 0 0 0 I 0 [(0, .ref (cw_a (cp_w K) 32))] [] from ?_)
  refine cw_iconst (v := 0) dX11_agrees_0 (by decide) ?_
  refine cw_istore_n dX11_agrees_1 rfl (by decide) rfl ?_
  refine cw_iconst (v := 0) dX11_agrees_2 (by decide) ?_
  refine cw_istore_n dX11_agrees_3 rfl (by decide) rfl ?_
  refine cw_sub [2, 1, 0] rfl ?_
  exact h
set_option maxRecDepth 20000 in
set_option maxHeartbeats 4000000 in
theorem tbX11_agrees_32_4 {K : cw_K} {r : Option Value} {J0 I : cw_M} {x1 : Int32} {x2 : Int32} (h : (((I 32 1) ≤ x2 → (∃ (v_59 : Int32) (J_59 : cw_M), cw_C (cp_w K) mX11_worth [.ref (cw_a (cp_w K) 32), .int 0, .int 0] I (some (.int v_59)) J_59 ∧ bX11_agrees_32_66 K r J0 x1 0 v_59 0 J_59)) ∧ (¬ (I 32 1) ≤ x2 → (∃ (v_17 : Int32) (J_17 : cw_M), cw_C (cp_w K) mX10_owner [.ref (cw_a (cp_w K) 0), .int x2] I (some (.int v_17)) J_17 ∧ (vp_in x2 24 ∧ ((v_17 = (J_17 40 x2.toNatClampNeg) → (vp_in x2 24 ∧ ((0 ≤ (J_17 40 x2.toNatClampNeg) → bX11_agrees_32_4 K r J0 (x1 + 0) (x2 + 1) J_17) ∧ (¬ 0 ≤ (J_17 40 x2.toNatClampNeg) → bX11_agrees_32_4 K r J0 (x1 + 1) (x2 + 1) J_17)))) ∧ (¬ v_17 = (J_17 40 x2.toNatClampNeg) → (r = some (.int 0) ∧ J0 = J_17)))))))) : bX11_agrees_32_4 K r J0 x1 x2 I := by
  refine cw_iload_n dX11_agrees_4 2 rfl rfl ?_
  refine cw_aload_n dX11_agrees_5 0 rfl rfl ?_
  refine cw_getf (C := RX11) (T := TX11) (N := 5) (ci := 11) inX11_agrees_RX11 32 (show 32 < 41 by decide) rfl rfl 1 (by decide) (by decide +kernel) rfl dX11_agrees_6 ?_
  refine cw_icmp_ge (tgt := 54) dX11_agrees_9 (by decide) (fun q => ?_) (fun q => ?_)
  · have h := h.1 q
    refine cw_iconst (v := 0) dX11_agrees_54 (by decide) ?_
    refine cw_istore_n dX11_agrees_55 rfl (by decide) rfl ?_
    refine cw_aload_n dX11_agrees_56 1 rfl rfl ?_
    refine cw_iconst (v := 0) dX11_agrees_57 (by decide) ?_
    refine cw_iconst (v := 0) dX11_agrees_58 (by decide) ?_
    obtain ⟨v_59, J_59, hc_59, h⟩ := h
    refine cw_callV (o := 32) (As := [.int 0, .int 0]) hc_59 okX11_worth rfl gX11_agrees_X11_worth (by decide) (show 32 < 41 by decide) rfl (ci := 11) rfl rfl (Nat.le_of_ble_eq_true rfl) dX11_agrees_59 ?_
    refine cw_istore_n dX11_agrees_62 rfl (by decide) rfl ?_
    refine cw_iconst (v := 0) dX11_agrees_63 (by decide) ?_
    refine cw_istore dX11_agrees_64 (by decide) rfl ?_
    refine cw_sub [3, 4, 2, 1, 0] rfl ?_
    exact h
  · have h := h.2 q
    refine cw_aload_n dX11_agrees_12 0 rfl rfl ?_
    refine cw_getf (C := RX11) (T := TX11) (N := 5) (ci := 11) inX11_agrees_RX11 32 (show 32 < 41 by decide) rfl rfl 0 (by decide) (by decide +kernel) rfl dX11_agrees_13 ?_
    refine cw_iload_n dX11_agrees_16 2 rfl rfl ?_
    obtain ⟨v_17, J_17, hc_17, h⟩ := h
    refine cw_callV (o := 0) (As := [.int x2]) hc_17 okX10_owner rfl gX11_agrees_X10_owner (by decide) (show 0 < 41 by decide) rfl (ci := 10) rfl rfl (Nat.le_of_ble_eq_true rfl) dX11_agrees_17 ?_
    refine cw_aload_n dX11_agrees_20 0 rfl rfl ?_
    refine cw_getf (C := RX11) (T := TX11) (N := 5) (ci := 11) inX11_agrees_RX11 32 (show 32 < 41 by decide) rfl rfl 4 (by decide) (by decide +kernel) rfl dX11_agrees_21 ?_
    refine cw_iload_n dX11_agrees_24 2 rfl rfl ?_
    obtain ⟨g_25, h⟩ := h
    refine cw_iald 40 (show 40 < 41 by decide) rfl 0 rfl dX11_agrees_25 g_25 ?_
    refine cw_icmp_eq (tgt := 31) dX11_agrees_26 (by decide) (fun q => ?_) (fun q => ?_)
    · have h := h.1 q
      refine cw_iload_n dX11_agrees_31 1 rfl rfl ?_
      refine cw_aload_n dX11_agrees_32 0 rfl rfl ?_
      refine cw_getf (C := RX11) (T := TX11) (N := 5) (ci := 11) inX11_agrees_RX11 32 (show 32 < 41 by decide) rfl rfl 4 (by decide) (by decide +kernel) rfl dX11_agrees_33 ?_
      refine cw_iload_n dX11_agrees_36 2 rfl rfl ?_
      obtain ⟨g_37, h⟩ := h
      refine cw_iald 40 (show 40 < 41 by decide) rfl 0 rfl dX11_agrees_37 g_37 ?_
      refine cw_if_ge (tgt := 45) dX11_agrees_38 (by decide) (fun q => ?_) (fun q => ?_)
      · have h := h.1 q
        refine cw_iconst (v := 0) dX11_agrees_45 (by decide) ?_
        refine cw_iadd dX11_agrees_46 ?_
        refine cw_istore_n dX11_agrees_47 rfl (by decide) rfl ?_
        refine cw_iinc (v := x2 + 1) dX11_agrees_48 (j := 2) rfl rfl (by decide) rfl ?_
        refine cw_goto (tgt := 4) dX11_agrees_51 (by decide) ?_
        refine cw_sub [2, 1, 0] rfl ?_
        exact h
      · have h := h.2 q
        refine cw_iconst (v := 1) dX11_agrees_41 (by decide) ?_
        refine cw_goto (tgt := 46) dX11_agrees_42 (by decide) ?_
        refine cw_iadd dX11_agrees_46 ?_
        refine cw_istore_n dX11_agrees_47 rfl (by decide) rfl ?_
        refine cw_iinc (v := x2 + 1) dX11_agrees_48 (j := 2) rfl rfl (by decide) rfl ?_
        refine cw_goto (tgt := 4) dX11_agrees_51 (by decide) ?_
        refine cw_sub [2, 1, 0] rfl ?_
        exact h
    · have h := h.2 q
      refine cw_iconst (v := 0) dX11_agrees_29 (by decide) ?_
      exact cw_bret rfl dX11_agrees_30 (by decide) h
set_option maxRecDepth 20000 in
set_option maxHeartbeats 4000000 in
theorem tbX11_agrees_32_66 {K : cw_K} {r : Option Value} {J0 I : cw_M} {x1 : Int32} {x2 : Int32} {x3 : Int32} {x4 : Int32} (h : (((I 32 2) ≤ x4 → (∃ (v_235 : Int32) (J_235 : cw_M), cw_C (cp_w K) mX10_freeCount [.ref (cw_a (cp_w K) 0)] I (some (.int v_235)) J_235 ∧ ((¬ v_235 = x1 → (r = some (.int 0) ∧ J0 = J_235)) ∧ (v_235 = x1 → (∃ (v_246 : Int32) (J_246 : cw_M), cw_C (cp_w K) mX10_totalWelfare [.ref (cw_a (cp_w K) 0)] J_235 (some (.int v_246)) J_246 ∧ ((¬ v_246 = x2 → (r = some (.int 0) ∧ J0 = J_246)) ∧ (v_246 = x2 → (∃ (v_257 : Int32) (J_257 : cw_M), cw_C (cp_w K) mX10_leastWelfare [.ref (cw_a (cp_w K) 0)] J_246 (some (.int v_257)) J_257 ∧ ((¬ v_257 = x3 → (r = some (.int 0) ∧ J0 = J_257)) ∧ (v_257 = x3 → (∃ (v_268 : Int32) (J_268 : cw_M), cw_C (cp_w K) mX10_inconsistencies [.ref (cw_a (cp_w K) 0)] J_257 (some (.int v_268)) J_268 ∧ ((¬ v_268 = 0 → (r = some (.int 0) ∧ J0 = J_268)) ∧ (v_268 = 0 → (r = some (.int 1) ∧ J0 = J_268)))))))))))))) ∧ (¬ (I 32 2) ≤ x4 → bX11_agrees_32_78 K r J0 x1 x2 x3 x4 0 I))) : bX11_agrees_32_66 K r J0 x1 x2 x3 x4 I := by
  refine cw_iload dX11_agrees_66 4 rfl ?_
  refine cw_aload_n dX11_agrees_68 0 rfl rfl ?_
  refine cw_getf (C := RX11) (T := TX11) (N := 5) (ci := 11) inX11_agrees_RX11 32 (show 32 < 41 by decide) rfl rfl 2 (by decide) (by decide +kernel) rfl dX11_agrees_69 ?_
  refine cw_icmp_ge (tgt := 231) dX11_agrees_72 (by decide) (fun q => ?_) (fun q => ?_)
  · have h := h.1 q
    refine cw_aload_n dX11_agrees_231 0 rfl rfl ?_
    refine cw_getf (C := RX11) (T := TX11) (N := 5) (ci := 11) inX11_agrees_RX11 32 (show 32 < 41 by decide) rfl rfl 0 (by decide) (by decide +kernel) rfl dX11_agrees_232 ?_
    obtain ⟨v_235, J_235, hc_235, h⟩ := h
    refine cw_callV (o := 0) (As := []) hc_235 okX10_freeCount rfl gX11_agrees_X10_freeCount (by decide) (show 0 < 41 by decide) rfl (ci := 10) rfl rfl (Nat.le_of_ble_eq_true rfl) dX11_agrees_235 ?_
    refine cw_iload_n dX11_agrees_238 1 rfl rfl ?_
    refine cw_icmp_ne (tgt := 278) dX11_agrees_239 (by decide) (fun q => ?_) (fun q => ?_)
    · have h := h.1 q
      refine cw_iconst (v := 0) dX11_agrees_278 (by decide) ?_
      exact cw_bret rfl dX11_agrees_279 (by decide) h
    · have h := h.2 q
      refine cw_aload_n dX11_agrees_242 0 rfl rfl ?_
      refine cw_getf (C := RX11) (T := TX11) (N := 5) (ci := 11) inX11_agrees_RX11 32 (show 32 < 41 by decide) rfl rfl 0 (by decide) (by decide +kernel) rfl dX11_agrees_243 ?_
      obtain ⟨v_246, J_246, hc_246, h⟩ := h
      refine cw_callV (o := 0) (As := []) hc_246 okX10_totalWelfare rfl gX11_agrees_X10_totalWelfare (by decide) (show 0 < 41 by decide) rfl (ci := 10) rfl rfl (Nat.le_of_ble_eq_true rfl) dX11_agrees_246 ?_
      refine cw_iload_n dX11_agrees_249 2 rfl rfl ?_
      refine cw_icmp_ne (tgt := 278) dX11_agrees_250 (by decide) (fun q => ?_) (fun q => ?_)
      · have h := h.1 q
        refine cw_iconst (v := 0) dX11_agrees_278 (by decide) ?_
        exact cw_bret rfl dX11_agrees_279 (by decide) h
      · have h := h.2 q
        refine cw_aload_n dX11_agrees_253 0 rfl rfl ?_
        refine cw_getf (C := RX11) (T := TX11) (N := 5) (ci := 11) inX11_agrees_RX11 32 (show 32 < 41 by decide) rfl rfl 0 (by decide) (by decide +kernel) rfl dX11_agrees_254 ?_
        obtain ⟨v_257, J_257, hc_257, h⟩ := h
        refine cw_callV (o := 0) (As := []) hc_257 okX10_leastWelfare rfl gX11_agrees_X10_leastWelfare (by decide) (show 0 < 41 by decide) rfl (ci := 10) rfl rfl (Nat.le_of_ble_eq_true rfl) dX11_agrees_257 ?_
        refine cw_iload_n dX11_agrees_260 3 rfl rfl ?_
        refine cw_icmp_ne (tgt := 278) dX11_agrees_261 (by decide) (fun q => ?_) (fun q => ?_)
        · have h := h.1 q
          refine cw_iconst (v := 0) dX11_agrees_278 (by decide) ?_
          exact cw_bret rfl dX11_agrees_279 (by decide) h
        · have h := h.2 q
          refine cw_aload_n dX11_agrees_264 0 rfl rfl ?_
          refine cw_getf (C := RX11) (T := TX11) (N := 5) (ci := 11) inX11_agrees_RX11 32 (show 32 < 41 by decide) rfl rfl 0 (by decide) (by decide +kernel) rfl dX11_agrees_265 ?_
          obtain ⟨v_268, J_268, hc_268, h⟩ := h
          refine cw_callV (o := 0) (As := []) hc_268 okX10_inconsistencies rfl gX11_agrees_X10_inconsistencies (by decide) (show 0 < 41 by decide) rfl (ci := 10) rfl rfl (Nat.le_of_ble_eq_true rfl) dX11_agrees_268 ?_
          refine cw_if_ne (tgt := 278) dX11_agrees_271 (by decide) (fun q => ?_) (fun q => ?_)
          · have h := h.1 q
            refine cw_iconst (v := 0) dX11_agrees_278 (by decide) ?_
            exact cw_bret rfl dX11_agrees_279 (by decide) h
          · have h := h.2 q
            refine cw_iconst (v := 1) dX11_agrees_274 (by decide) ?_
            refine cw_goto (tgt := 279) dX11_agrees_275 (by decide) ?_
            exact cw_bret rfl dX11_agrees_279 (by decide) h
  · have h := h.2 q
    refine cw_iconst (v := 0) dX11_agrees_75 (by decide) ?_
    refine cw_istore dX11_agrees_76 (by decide) rfl ?_
    refine cw_sub [1, 2, 3, 4, 5, 0] rfl ?_
    exact h
set_option maxRecDepth 20000 in
set_option maxHeartbeats 4000000 in
theorem tbX11_agrees_32_78 {K : cw_K} {r : Option Value} {J0 I : cw_M} {x1 : Int32} {x2 : Int32} {x3 : Int32} {x4 : Int32} {x5 : Int32} (h : (((I 32 2) ≤ x5 → (∃ (v_161 : Int32) (J_161 : cw_M), cw_C (cp_w K) mX10_isSatisfied [.ref (cw_a (cp_w K) 0), .int x4] I (some (.int v_161)) J_161 ∧ (∃ (v_169 : Int32) (J_169 : cw_M), cw_C (cp_w K) mX11_worth [.ref (cw_a (cp_w K) 32), .int x4, .int x4] J_161 (some (.int v_169)) J_169 ∧ (∃ (v_185 : Int32) (J_185 : cw_M), cw_C (cp_w K) mX11_sum [.ref (cw_a (cp_w K) 32), .int x4, .int 0, .int (J_169 32 1)] J_169 (some (.int v_185)) J_185 ∧ (((v_169 * (J_169 32 2)) < v_185 → ((v_161 = 0 → (∃ (v_207 : Int32) (J_207 : cw_M), cw_C (cp_w K) mX11_worth [.ref (cw_a (cp_w K) 32), .int x4, .int x4] J_185 (some (.int v_207)) J_207 ∧ (∃ (v_218 : Int32) (J_218 : cw_M), cw_C (cp_w K) mX11_worth [.ref (cw_a (cp_w K) 32), .int x4, .int x4] J_207 (some (.int v_218)) J_218 ∧ bX11_agrees_32_66 K r J0 x1 (x2 + v_207) (if v_218 < x3 then v_218 else x3) (x4 + 1) J_218))) ∧ (¬ v_161 = 0 → (r = some (.int 0) ∧ J0 = J_185)))) ∧ (¬ (v_169 * (J_169 32 2)) < v_185 → ((v_161 = 1 → (∃ (v_207 : Int32) (J_207 : cw_M), cw_C (cp_w K) mX11_worth [.ref (cw_a (cp_w K) 32), .int x4, .int x4] J_185 (some (.int v_207)) J_207 ∧ (∃ (v_218 : Int32) (J_218 : cw_M), cw_C (cp_w K) mX11_worth [.ref (cw_a (cp_w K) 32), .int x4, .int x4] J_207 (some (.int v_218)) J_218 ∧ bX11_agrees_32_66 K r J0 x1 (x2 + v_207) (if v_218 < x3 then v_218 else x3) (x4 + 1) J_218))) ∧ (¬ v_161 = 1 → (r = some (.int 0) ∧ J0 = J_185))))))))) ∧ (¬ (I 32 2) ≤ x5 → (∃ (v_95 : Int32) (J_95 : cw_M), cw_C (cp_w K) mX10_worthOfShare [.ref (cw_a (cp_w K) 0), .int x4, .int x5] I (some (.int v_95)) J_95 ∧ (∃ (v_103 : Int32) (J_103 : cw_M), cw_C (cp_w K) mX11_worth [.ref (cw_a (cp_w K) 32), .int x4, .int x5] J_95 (some (.int v_103)) J_103 ∧ ((¬ v_95 = v_103 → (r = some (.int 0) ∧ J0 = J_103)) ∧ (v_95 = v_103 → (∃ (v_117 : Int32) (J_117 : cw_M), cw_C (cp_w K) mX10_envies [.ref (cw_a (cp_w K) 0), .int x4, .int x5] J_103 (some (.int v_117)) J_117 ∧ (∃ (v_125 : Int32) (J_125 : cw_M), cw_C (cp_w K) mX11_worth [.ref (cw_a (cp_w K) 32), .int x4, .int x5] J_117 (some (.int v_125)) J_125 ∧ (∃ (v_133 : Int32) (J_133 : cw_M), cw_C (cp_w K) mX11_worth [.ref (cw_a (cp_w K) 32), .int x4, .int x4] J_125 (some (.int v_133)) J_133 ∧ ((v_125 ≤ v_133 → ((v_117 = 0 → bX11_agrees_32_78 K r J0 x1 x2 x3 x4 (x5 + 1) J_133) ∧ (¬ v_117 = 0 → (r = some (.int 0) ∧ J0 = J_133)))) ∧ (¬ v_125 ≤ v_133 → ((v_117 = 1 → bX11_agrees_32_78 K r J0 x1 x2 x3 x4 (x5 + 1) J_133) ∧ (¬ v_117 = 1 → (r = some (.int 0) ∧ J0 = J_133))))))))))))))) : bX11_agrees_32_78 K r J0 x1 x2 x3 x4 x5 I := by
  refine cw_iload dX11_agrees_78 5 rfl ?_
  refine cw_aload_n dX11_agrees_80 0 rfl rfl ?_
  refine cw_getf (C := RX11) (T := TX11) (N := 5) (ci := 11) inX11_agrees_RX11 32 (show 32 < 41 by decide) rfl rfl 2 (by decide) (by decide +kernel) rfl dX11_agrees_81 ?_
  refine cw_icmp_ge (tgt := 155) dX11_agrees_84 (by decide) (fun q => ?_) (fun q => ?_)
  · have h := h.1 q
    refine cw_aload_n dX11_agrees_155 0 rfl rfl ?_
    refine cw_getf (C := RX11) (T := TX11) (N := 5) (ci := 11) inX11_agrees_RX11 32 (show 32 < 41 by decide) rfl rfl 0 (by decide) (by decide +kernel) rfl dX11_agrees_156 ?_
    refine cw_iload dX11_agrees_159 4 rfl ?_
    obtain ⟨v_161, J_161, hc_161, h⟩ := h
    refine cw_callV (o := 0) (As := [.int x4]) hc_161 okX10_isSatisfied rfl gX11_agrees_X10_isSatisfied (by decide) (show 0 < 41 by decide) rfl (ci := 10) rfl rfl (Nat.le_of_ble_eq_true rfl) dX11_agrees_161 ?_
    refine cw_aload_n dX11_agrees_164 0 rfl rfl ?_
    refine cw_iload dX11_agrees_165 4 rfl ?_
    refine cw_iload dX11_agrees_167 4 rfl ?_
    obtain ⟨v_169, J_169, hc_169, h⟩ := h
    refine cw_callV (o := 32) (As := [.int x4, .int x4]) hc_169 okX11_worth rfl gX11_agrees_X11_worth (by decide) (show 32 < 41 by decide) rfl (ci := 11) rfl rfl (Nat.le_of_ble_eq_true rfl) dX11_agrees_169 ?_
    refine cw_aload_n dX11_agrees_172 0 rfl rfl ?_
    refine cw_getf (C := RX11) (T := TX11) (N := 5) (ci := 11) inX11_agrees_RX11 32 (show 32 < 41 by decide) rfl rfl 2 (by decide) (by decide +kernel) rfl dX11_agrees_173 ?_
    refine cw_imul dX11_agrees_176 ?_
    refine cw_aload_n dX11_agrees_177 0 rfl rfl ?_
    refine cw_iload dX11_agrees_178 4 rfl ?_
    refine cw_iconst (v := 0) dX11_agrees_180 (by decide) ?_
    refine cw_aload_n dX11_agrees_181 0 rfl rfl ?_
    refine cw_getf (C := RX11) (T := TX11) (N := 5) (ci := 11) inX11_agrees_RX11 32 (show 32 < 41 by decide) rfl rfl 1 (by decide) (by decide +kernel) rfl dX11_agrees_182 ?_
    obtain ⟨v_185, J_185, hc_185, h⟩ := h
    refine cw_callV (o := 32) (As := [.int x4, .int 0, .int (J_169 32 1)]) hc_185 okX11_sum rfl gX11_agrees_X11_sum (by decide) (show 32 < 41 by decide) rfl (ci := 11) rfl rfl (Nat.le_of_ble_eq_true rfl) dX11_agrees_185 ?_
    refine cw_icmp_lt (tgt := 195) dX11_agrees_188 (by decide) (fun q => ?_) (fun q => ?_)
    · have h := h.1 q
      refine cw_iconst (v := 0) dX11_agrees_195 (by decide) ?_
      refine cw_icmp_eq (tgt := 201) dX11_agrees_196 (by decide) (fun q => ?_) (fun q => ?_)
      · have h := h.1 q
        refine cw_iload_n dX11_agrees_201 2 rfl rfl ?_
        refine cw_aload_n dX11_agrees_202 0 rfl rfl ?_
        refine cw_iload dX11_agrees_203 4 rfl ?_
        refine cw_iload dX11_agrees_205 4 rfl ?_
        obtain ⟨v_207, J_207, hc_207, h⟩ := h
        refine cw_callV (o := 32) (As := [.int x4, .int x4]) hc_207 okX11_worth rfl gX11_agrees_X11_worth (by decide) (show 32 < 41 by decide) rfl (ci := 11) rfl rfl (Nat.le_of_ble_eq_true rfl) dX11_agrees_207 ?_
        refine cw_iadd dX11_agrees_210 ?_
        refine cw_istore_n dX11_agrees_211 rfl (by decide) rfl ?_
        refine cw_iload_n dX11_agrees_212 3 rfl rfl ?_
        refine cw_aload_n dX11_agrees_213 1 rfl rfl ?_
        refine cw_iload dX11_agrees_214 4 rfl ?_
        refine cw_iload dX11_agrees_216 4 rfl ?_
        obtain ⟨v_218, J_218, hc_218, h⟩ := h
        refine cw_callV (o := 32) (As := [.int x4, .int x4]) hc_218 okX11_worth rfl gX11_agrees_X11_worth (by decide) (show 32 < 41 by decide) rfl (ci := 11) rfl rfl (Nat.le_of_ble_eq_true rfl) dX11_agrees_218 ?_
        refine cw_mmin (by decide +kernel) (by decide +kernel) (by decide +kernel) (by decide +kernel) ⟨by decide, Nat.le_of_ble_eq_true rfl⟩ dX11_agrees_221 ?_
        refine cw_istore_n dX11_agrees_224 rfl (by decide) rfl ?_
        refine cw_iinc (v := x4 + 1) dX11_agrees_225 (j := 4) rfl rfl (by decide) rfl ?_
        refine cw_goto (tgt := 66) dX11_agrees_228 (by decide) ?_
        refine cw_sub [3, 4, 2, 1, 0] rfl ?_
        exact h
      · have h := h.2 q
        refine cw_iconst (v := 0) dX11_agrees_199 (by decide) ?_
        exact cw_bret rfl dX11_agrees_200 (by decide) h
    · have h := h.2 q
      refine cw_iconst (v := 1) dX11_agrees_191 (by decide) ?_
      refine cw_goto (tgt := 196) dX11_agrees_192 (by decide) ?_
      refine cw_icmp_eq (tgt := 201) dX11_agrees_196 (by decide) (fun q => ?_) (fun q => ?_)
      · have h := h.1 q
        refine cw_iload_n dX11_agrees_201 2 rfl rfl ?_
        refine cw_aload_n dX11_agrees_202 0 rfl rfl ?_
        refine cw_iload dX11_agrees_203 4 rfl ?_
        refine cw_iload dX11_agrees_205 4 rfl ?_
        obtain ⟨v_207, J_207, hc_207, h⟩ := h
        refine cw_callV (o := 32) (As := [.int x4, .int x4]) hc_207 okX11_worth rfl gX11_agrees_X11_worth (by decide) (show 32 < 41 by decide) rfl (ci := 11) rfl rfl (Nat.le_of_ble_eq_true rfl) dX11_agrees_207 ?_
        refine cw_iadd dX11_agrees_210 ?_
        refine cw_istore_n dX11_agrees_211 rfl (by decide) rfl ?_
        refine cw_iload_n dX11_agrees_212 3 rfl rfl ?_
        refine cw_aload_n dX11_agrees_213 1 rfl rfl ?_
        refine cw_iload dX11_agrees_214 4 rfl ?_
        refine cw_iload dX11_agrees_216 4 rfl ?_
        obtain ⟨v_218, J_218, hc_218, h⟩ := h
        refine cw_callV (o := 32) (As := [.int x4, .int x4]) hc_218 okX11_worth rfl gX11_agrees_X11_worth (by decide) (show 32 < 41 by decide) rfl (ci := 11) rfl rfl (Nat.le_of_ble_eq_true rfl) dX11_agrees_218 ?_
        refine cw_mmin (by decide +kernel) (by decide +kernel) (by decide +kernel) (by decide +kernel) ⟨by decide, Nat.le_of_ble_eq_true rfl⟩ dX11_agrees_221 ?_
        refine cw_istore_n dX11_agrees_224 rfl (by decide) rfl ?_
        refine cw_iinc (v := x4 + 1) dX11_agrees_225 (j := 4) rfl rfl (by decide) rfl ?_
        refine cw_goto (tgt := 66) dX11_agrees_228 (by decide) ?_
        refine cw_sub [3, 4, 2, 1, 0] rfl ?_
        exact h
      · have h := h.2 q
        refine cw_iconst (v := 0) dX11_agrees_199 (by decide) ?_
        exact cw_bret rfl dX11_agrees_200 (by decide) h
  · have h := h.2 q
    refine cw_aload_n dX11_agrees_87 0 rfl rfl ?_
    refine cw_getf (C := RX11) (T := TX11) (N := 5) (ci := 11) inX11_agrees_RX11 32 (show 32 < 41 by decide) rfl rfl 0 (by decide) (by decide +kernel) rfl dX11_agrees_88 ?_
    refine cw_iload dX11_agrees_91 4 rfl ?_
    refine cw_iload dX11_agrees_93 5 rfl ?_
    obtain ⟨v_95, J_95, hc_95, h⟩ := h
    refine cw_callV (o := 0) (As := [.int x4, .int x5]) hc_95 okX10_worthOfShare rfl gX11_agrees_X10_worthOfShare (by decide) (show 0 < 41 by decide) rfl (ci := 10) rfl rfl (Nat.le_of_ble_eq_true rfl) dX11_agrees_95 ?_
    refine cw_aload_n dX11_agrees_98 0 rfl rfl ?_
    refine cw_iload dX11_agrees_99 4 rfl ?_
    refine cw_iload dX11_agrees_101 5 rfl ?_
    obtain ⟨v_103, J_103, hc_103, h⟩ := h
    refine cw_callV (o := 32) (As := [.int x4, .int x5]) hc_103 okX11_worth rfl gX11_agrees_X11_worth (by decide) (show 32 < 41 by decide) rfl (ci := 11) rfl rfl (Nat.le_of_ble_eq_true rfl) dX11_agrees_103 ?_
    refine cw_icmp_ne (tgt := 147) dX11_agrees_106 (by decide) (fun q => ?_) (fun q => ?_)
    · have h := h.1 q
      refine cw_iconst (v := 0) dX11_agrees_147 (by decide) ?_
      exact cw_bret rfl dX11_agrees_148 (by decide) h
    · have h := h.2 q
      refine cw_aload_n dX11_agrees_109 0 rfl rfl ?_
      refine cw_getf (C := RX11) (T := TX11) (N := 5) (ci := 11) inX11_agrees_RX11 32 (show 32 < 41 by decide) rfl rfl 0 (by decide) (by decide +kernel) rfl dX11_agrees_110 ?_
      refine cw_iload dX11_agrees_113 4 rfl ?_
      refine cw_iload dX11_agrees_115 5 rfl ?_
      obtain ⟨v_117, J_117, hc_117, h⟩ := h
      refine cw_callV (o := 0) (As := [.int x4, .int x5]) hc_117 okX10_envies rfl gX11_agrees_X10_envies (by decide) (show 0 < 41 by decide) rfl (ci := 10) rfl rfl (Nat.le_of_ble_eq_true rfl) dX11_agrees_117 ?_
      refine cw_aload_n dX11_agrees_120 0 rfl rfl ?_
      refine cw_iload dX11_agrees_121 4 rfl ?_
      refine cw_iload dX11_agrees_123 5 rfl ?_
      obtain ⟨v_125, J_125, hc_125, h⟩ := h
      refine cw_callV (o := 32) (As := [.int x4, .int x5]) hc_125 okX11_worth rfl gX11_agrees_X11_worth (by decide) (show 32 < 41 by decide) rfl (ci := 11) rfl rfl (Nat.le_of_ble_eq_true rfl) dX11_agrees_125 ?_
      refine cw_aload_n dX11_agrees_128 0 rfl rfl ?_
      refine cw_iload dX11_agrees_129 4 rfl ?_
      refine cw_iload dX11_agrees_131 4 rfl ?_
      obtain ⟨v_133, J_133, hc_133, h⟩ := h
      refine cw_callV (o := 32) (As := [.int x4, .int x4]) hc_133 okX11_worth rfl gX11_agrees_X11_worth (by decide) (show 32 < 41 by decide) rfl (ci := 11) rfl rfl (Nat.le_of_ble_eq_true rfl) dX11_agrees_133 ?_
      refine cw_icmp_le (tgt := 143) dX11_agrees_136 (by decide) (fun q => ?_) (fun q => ?_)
      · have h := h.1 q
        refine cw_iconst (v := 0) dX11_agrees_143 (by decide) ?_
        refine cw_icmp_eq (tgt := 149) dX11_agrees_144 (by decide) (fun q => ?_) (fun q => ?_)
        · have h := h.1 q
          refine cw_iinc (v := x5 + 1) dX11_agrees_149 (j := 5) rfl rfl (by decide) rfl ?_
          refine cw_goto (tgt := 78) dX11_agrees_152 (by decide) ?_
          refine cw_sub [1, 2, 3, 4, 5, 0] rfl ?_
          exact h
        · have h := h.2 q
          refine cw_iconst (v := 0) dX11_agrees_147 (by decide) ?_
          exact cw_bret rfl dX11_agrees_148 (by decide) h
      · have h := h.2 q
        refine cw_iconst (v := 1) dX11_agrees_139 (by decide) ?_
        refine cw_goto (tgt := 144) dX11_agrees_140 (by decide) ?_
        refine cw_icmp_eq (tgt := 149) dX11_agrees_144 (by decide) (fun q => ?_) (fun q => ?_)
        · have h := h.1 q
          refine cw_iinc (v := x5 + 1) dX11_agrees_149 (j := 5) rfl rfl (by decide) rfl ?_
          refine cw_goto (tgt := 78) dX11_agrees_152 (by decide) ?_
          refine cw_sub [1, 2, 3, 4, 5, 0] rfl ?_
          exact h
        · have h := h.2 q
          refine cw_iconst (v := 0) dX11_agrees_147 (by decide) ?_
          exact cw_bret rfl dX11_agrees_148 (by decide) h
abbrev bX11_cut_32_7 (K : cw_K) (r : Option Value) (J0 : cw_M) (x1 : Int32) (x2 : Int32) (x3 : Int32) (I : cw_M) : Prop := cw_B (cp_w K) (cp_w K) mX11_cut (cw_Z (cp_w K) r J0) 0 0 0 0 I 7 [(0, .ref (cw_a (cp_w K) 32)), (1, .int x1), (2, .int x2), (3, .int x3)] []
set_option maxRecDepth 20000 in
set_option maxHeartbeats 4000000 in
theorem eX11_cut_32 {K : cw_K} {r : Option Value} {J0 I : cw_M} {x1 : Int32} (h : bX11_cut_32_7 K r J0 x1 0 (I 32 1) I) : cw_C (cp_w K) mX11_cut [.ref (cw_a (cp_w K) 32), .int x1] I r J0 := by
  refine cw_entry okX11_cut (Nat.le_of_ble_eq_true rfl) (show cw_B (cp_w K) (cp_w K) mX11_cut (cw_Z (cp_w K) r J0) 0 0 0 0 I 0 [(0, .ref (cw_a (cp_w K) 32)), (1, .int x1)] [] from ?_)
  refine cw_iconst (v := 0) dX11_cut_0 (by decide) ?_
  refine cw_istore_n dX11_cut_1 rfl (by decide) rfl ?_
  refine cw_aload_n dX11_cut_2 1 rfl rfl ?_
  refine cw_getf (C := RX11) (T := TX11) (N := 5) (ci := 11) inX11_cut_RX11 32 (show 32 < 41 by decide) rfl rfl 1 (by decide) (by decide +kernel) rfl dX11_cut_3 ?_
  refine cw_istore_n dX11_cut_6 rfl (by decide) rfl ?_
  refine cw_sub [2, 3, 1, 0] rfl ?_
  exact h
set_option maxRecDepth 20000 in
set_option maxHeartbeats 4000000 in
theorem tbX11_cut_32_7 {K : cw_K} {r : Option Value} {J0 I : cw_M} {x1 : Int32} {x2 : Int32} {x3 : Int32} (h : ((x3 < 0 → (r = some (.int x2) ∧ J0 = I)) ∧ (¬ x3 < 0 → (∃ (v_15 : Int32) (J_15 : cw_M), cw_C (cp_w K) mX11_sum [.ref (cw_a (cp_w K) 32), .int x1, .int 0, .int x3] I (some (.int v_15)) J_15 ∧ (∃ (v_25 : Int32) (J_25 : cw_M), cw_C (cp_w K) mX11_sum [.ref (cw_a (cp_w K) 32), .int x1, .int x3, .int (J_15 32 1)] J_15 (some (.int v_25)) J_25 ∧ (∃ (v_40 : Int32) (J_40 : cw_M), cw_C (cp_w K) mX11_sum [.ref (cw_a (cp_w K) 32), .int x1, .int 0, .int x2] J_25 (some (.int v_40)) J_40 ∧ (∃ (v_50 : Int32) (J_50 : cw_M), cw_C (cp_w K) mX11_sum [.ref (cw_a (cp_w K) 32), .int x1, .int x2, .int (J_40 32 1)] J_40 (some (.int v_50)) J_50 ∧ (((if 0 ≤ (v_40 - v_50) then (v_40 - v_50) else 0 - (v_40 - v_50)) < (if 0 ≤ (v_15 - v_25) then (v_15 - v_25) else 0 - (v_15 - v_25)) → bX11_cut_32_7 K r J0 x1 x2 (x3 + (-1)) J_50) ∧ (¬ (if 0 ≤ (v_40 - v_50) then (v_40 - v_50) else 0 - (v_40 - v_50)) < (if 0 ≤ (v_15 - v_25) then (v_15 - v_25) else 0 - (v_15 - v_25)) → (∃ (v_66 : Int32) (J_66 : cw_M), cw_C (cp_w K) mX11_sum [.ref (cw_a (cp_w K) 32), .int x1, .int 0, .int x2] J_50 (some (.int v_66)) J_66 ∧ (∃ (v_76 : Int32) (J_76 : cw_M), cw_C (cp_w K) mX11_sum [.ref (cw_a (cp_w K) 32), .int x1, .int x2, .int (J_66 32 1)] J_66 (some (.int v_76)) J_76 ∧ (((if 0 ≤ (v_15 - v_25) then (v_15 - v_25) else 0 - (v_15 - v_25)) < (if 0 ≤ (v_66 - v_76) then (v_66 - v_76) else 0 - (v_66 - v_76)) → bX11_cut_32_7 K r J0 x1 x3 (x3 + (-1)) J_76) ∧ (¬ (if 0 ≤ (v_15 - v_25) then (v_15 - v_25) else 0 - (v_15 - v_25)) < (if 0 ≤ (v_66 - v_76) then (v_66 - v_76) else 0 - (v_66 - v_76)) → ((x2 ≤ x3 → bX11_cut_32_7 K r J0 x1 x2 (x3 + (-1)) J_76) ∧ (¬ x2 ≤ x3 → bX11_cut_32_7 K r J0 x1 x3 (x3 + (-1)) J_76))))))))))))))) : bX11_cut_32_7 K r J0 x1 x2 x3 I := by
  refine cw_iload_n dX11_cut_7 3 rfl rfl ?_
  refine cw_if_lt (tgt := 99) dX11_cut_8 (by decide) (fun q => ?_) (fun q => ?_)
  · have h := h.1 q
    refine cw_iload_n dX11_cut_99 2 rfl rfl ?_
    exact cw_iret rfl dX11_cut_100 h
  · have h := h.2 q
    refine cw_aload_n dX11_cut_11 0 rfl rfl ?_
    refine cw_iload_n dX11_cut_12 1 rfl rfl ?_
    refine cw_iconst (v := 0) dX11_cut_13 (by decide) ?_
    refine cw_iload_n dX11_cut_14 3 rfl rfl ?_
    obtain ⟨v_15, J_15, hc_15, h⟩ := h
    refine cw_callV (o := 32) (As := [.int x1, .int 0, .int x3]) hc_15 okX11_sum rfl gX11_cut_X11_sum (by decide) (show 32 < 41 by decide) rfl (ci := 11) rfl rfl (Nat.le_of_ble_eq_true rfl) dX11_cut_15 ?_
    refine cw_aload_n dX11_cut_18 0 rfl rfl ?_
    refine cw_iload_n dX11_cut_19 1 rfl rfl ?_
    refine cw_iload_n dX11_cut_20 3 rfl rfl ?_
    refine cw_aload_n dX11_cut_21 0 rfl rfl ?_
    refine cw_getf (C := RX11) (T := TX11) (N := 5) (ci := 11) inX11_cut_RX11 32 (show 32 < 41 by decide) rfl rfl 1 (by decide) (by decide +kernel) rfl dX11_cut_22 ?_
    obtain ⟨v_25, J_25, hc_25, h⟩ := h
    refine cw_callV (o := 32) (As := [.int x1, .int x3, .int (J_15 32 1)]) hc_25 okX11_sum rfl gX11_cut_X11_sum (by decide) (show 32 < 41 by decide) rfl (ci := 11) rfl rfl (Nat.le_of_ble_eq_true rfl) dX11_cut_25 ?_
    refine cw_isub dX11_cut_28 ?_
    refine cw_mabs (by decide +kernel) (by decide +kernel) (by decide +kernel) (by decide +kernel) ⟨by decide, Nat.le_of_ble_eq_true rfl⟩ dX11_cut_29 ?_
    refine cw_istore dX11_cut_32 (by decide) rfl ?_
    refine cw_iload dX11_cut_34 0 rfl ?_
    refine cw_aload_n dX11_cut_36 1 rfl rfl ?_
    refine cw_iload_n dX11_cut_37 2 rfl rfl ?_
    refine cw_iconst (v := 0) dX11_cut_38 (by decide) ?_
    refine cw_iload_n dX11_cut_39 3 rfl rfl ?_
    obtain ⟨v_40, J_40, hc_40, h⟩ := h
    refine cw_callV (o := 32) (As := [.int x1, .int 0, .int x2]) hc_40 okX11_sum rfl gX11_cut_X11_sum (by decide) (show 32 < 41 by decide) rfl (ci := 11) rfl rfl (Nat.le_of_ble_eq_true rfl) dX11_cut_40 ?_
    refine cw_aload_n dX11_cut_43 1 rfl rfl ?_
    refine cw_iload_n dX11_cut_44 2 rfl rfl ?_
    refine cw_iload_n dX11_cut_45 3 rfl rfl ?_
    refine cw_aload_n dX11_cut_46 1 rfl rfl ?_
    refine cw_getf (C := RX11) (T := TX11) (N := 5) (ci := 11) inX11_cut_RX11 32 (show 32 < 41 by decide) rfl rfl 1 (by decide) (by decide +kernel) rfl dX11_cut_47 ?_
    obtain ⟨v_50, J_50, hc_50, h⟩ := h
    refine cw_callV (o := 32) (As := [.int x1, .int x2, .int (J_40 32 1)]) hc_50 okX11_sum rfl gX11_cut_X11_sum (by decide) (show 32 < 41 by decide) rfl (ci := 11) rfl rfl (Nat.le_of_ble_eq_true rfl) dX11_cut_50 ?_
    refine cw_isub dX11_cut_53 ?_
    refine cw_mabs (by decide +kernel) (by decide +kernel) (by decide +kernel) (by decide +kernel) ⟨by decide, Nat.le_of_ble_eq_true rfl⟩ dX11_cut_54 ?_
    refine cw_icmp_gt (tgt := 93) dX11_cut_57 (by decide) (fun q => ?_) (fun q => ?_)
    · have h := h.1 q
      refine cw_iinc (v := x3 + (-1)) dX11_cut_93 (j := 4) rfl rfl (by decide) rfl ?_
      refine cw_goto (tgt := 7) dX11_cut_96 (by decide) ?_
      refine cw_sub [2, 3, 4, 0] rfl ?_
      exact h
    · have h := h.2 q
      refine cw_iload dX11_cut_60 0 rfl ?_
      refine cw_aload_n dX11_cut_62 1 rfl rfl ?_
      refine cw_iload_n dX11_cut_63 2 rfl rfl ?_
      refine cw_iconst (v := 0) dX11_cut_64 (by decide) ?_
      refine cw_iload_n dX11_cut_65 3 rfl rfl ?_
      obtain ⟨v_66, J_66, hc_66, h⟩ := h
      refine cw_callV (o := 32) (As := [.int x1, .int 0, .int x2]) hc_66 okX11_sum rfl gX11_cut_X11_sum (by decide) (show 32 < 41 by decide) rfl (ci := 11) rfl rfl (Nat.le_of_ble_eq_true rfl) dX11_cut_66 ?_
      refine cw_aload_n dX11_cut_69 1 rfl rfl ?_
      refine cw_iload_n dX11_cut_70 2 rfl rfl ?_
      refine cw_iload_n dX11_cut_71 3 rfl rfl ?_
      refine cw_aload_n dX11_cut_72 1 rfl rfl ?_
      refine cw_getf (C := RX11) (T := TX11) (N := 5) (ci := 11) inX11_cut_RX11 32 (show 32 < 41 by decide) rfl rfl 1 (by decide) (by decide +kernel) rfl dX11_cut_73 ?_
      obtain ⟨v_76, J_76, hc_76, h⟩ := h
      refine cw_callV (o := 32) (As := [.int x1, .int x2, .int (J_66 32 1)]) hc_76 okX11_sum rfl gX11_cut_X11_sum (by decide) (show 32 < 41 by decide) rfl (ci := 11) rfl rfl (Nat.le_of_ble_eq_true rfl) dX11_cut_76 ?_
      refine cw_isub dX11_cut_79 ?_
      refine cw_mabs (by decide +kernel) (by decide +kernel) (by decide +kernel) (by decide +kernel) ⟨by decide, Nat.le_of_ble_eq_true rfl⟩ dX11_cut_80 ?_
      refine cw_icmp_lt (tgt := 91) dX11_cut_83 (by decide) (fun q => ?_) (fun q => ?_)
      · have h := h.1 q
        refine cw_iload_n dX11_cut_91 4 rfl rfl ?_
        refine cw_istore_n dX11_cut_92 rfl (by decide) rfl ?_
        refine cw_iinc (v := x3 + (-1)) dX11_cut_93 (j := 4) rfl rfl (by decide) rfl ?_
        refine cw_goto (tgt := 7) dX11_cut_96 (by decide) ?_
        refine cw_sub [3, 4, 1, 0] rfl ?_
        exact h
      · have h := h.2 q
        refine cw_iload_n dX11_cut_86 4 rfl rfl ?_
        refine cw_iload_n dX11_cut_87 3 rfl rfl ?_
        refine cw_icmp_ge (tgt := 93) dX11_cut_88 (by decide) (fun q => ?_) (fun q => ?_)
        · have h := h.1 q
          refine cw_iinc (v := x3 + (-1)) dX11_cut_93 (j := 4) rfl rfl (by decide) rfl ?_
          refine cw_goto (tgt := 7) dX11_cut_96 (by decide) ?_
          refine cw_sub [2, 3, 4, 0] rfl ?_
          exact h
        · have h := h.2 q
          refine cw_iload_n dX11_cut_91 4 rfl rfl ?_
          refine cw_istore_n dX11_cut_92 rfl (by decide) rfl ?_
          refine cw_iinc (v := x3 + (-1)) dX11_cut_93 (j := 4) rfl rfl (by decide) rfl ?_
          refine cw_goto (tgt := 7) dX11_cut_96 (by decide) ?_
          refine cw_sub [3, 4, 1, 0] rfl ?_
          exact h
set_option maxRecDepth 20000 in
set_option maxHeartbeats 4000000 in
theorem eX11_divide_32 {K : cw_K} {r : Option Value} {J0 I : cw_M} {x1 : Int32} {x2 : Int32} (h : (∃ (v_2 : Int32) (J_2 : cw_M), cw_C (cp_w K) mX11_cut [.ref (cw_a (cp_w K) 32), .int x1] I (some (.int v_2)) J_2 ∧ (∃ (v_10 : Int32) (J_10 : cw_M), cw_C (cp_w K) mX11_sum [.ref (cw_a (cp_w K) 32), .int x2, .int 0, .int v_2] J_2 (some (.int v_10)) J_10 ∧ (∃ (v_20 : Int32) (J_20 : cw_M), cw_C (cp_w K) mX11_sum [.ref (cw_a (cp_w K) 32), .int x2, .int v_2, .int (J_10 32 1)] J_10 (some (.int v_20)) J_20 ∧ ((v_10 < v_20 → (∃ J_46 : cw_M, cw_C (cp_w K) mX11_fill [.ref (cw_a (cp_w K) 32), .int x1, .int 0, .int v_2] J_20 none J_46 ∧ (∃ J_65 : cw_M, cw_C (cp_w K) mX11_fill [.ref (cw_a (cp_w K) 32), .int x2, .int v_2, .int (J_46 32 1)] J_46 none J_65 ∧ (r = some (.int v_2) ∧ J0 = J_65)))) ∧ (¬ v_10 < v_20 → (∃ J_46 : cw_M, cw_C (cp_w K) mX11_fill [.ref (cw_a (cp_w K) 32), .int x2, .int 0, .int v_2] J_20 none J_46 ∧ (∃ J_65 : cw_M, cw_C (cp_w K) mX11_fill [.ref (cw_a (cp_w K) 32), .int x1, .int v_2, .int (J_46 32 1)] J_46 none J_65 ∧ (r = some (.int v_2) ∧ J0 = J_65))))))))) : cw_C (cp_w K) mX11_divide [.ref (cw_a (cp_w K) 32), .int x1, .int x2] I r J0 := by
  refine cw_entry okX11_divide (Nat.le_of_ble_eq_true rfl) (show cw_B (cp_w K) (cp_w K) mX11_divide (cw_Z (cp_w K) r J0) 0 0 0 0 I 0 [(0, .ref (cw_a (cp_w K) 32)), (1, .int x1), (2, .int x2)] [] from ?_)
  refine cw_aload_n dX11_divide_0 0 rfl rfl ?_
  refine cw_iload_n dX11_divide_1 1 rfl rfl ?_
  obtain ⟨v_2, J_2, hc_2, h⟩ := h
  refine cw_callV (o := 32) (As := [.int x1]) hc_2 okX11_cut rfl gX11_divide_X11_cut (by decide) (show 32 < 41 by decide) rfl (ci := 11) rfl rfl (Nat.le_of_ble_eq_true rfl) dX11_divide_2 ?_
  refine cw_istore_n dX11_divide_5 rfl (by decide) rfl ?_
  refine cw_aload_n dX11_divide_6 1 rfl rfl ?_
  refine cw_iload_n dX11_divide_7 3 rfl rfl ?_
  refine cw_iconst (v := 0) dX11_divide_8 (by decide) ?_
  refine cw_iload_n dX11_divide_9 0 rfl rfl ?_
  obtain ⟨v_10, J_10, hc_10, h⟩ := h
  refine cw_callV (o := 32) (As := [.int x2, .int 0, .int v_2]) hc_10 okX11_sum rfl gX11_divide_X11_sum (by decide) (show 32 < 41 by decide) rfl (ci := 11) rfl rfl (Nat.le_of_ble_eq_true rfl) dX11_divide_10 ?_
  refine cw_aload_n dX11_divide_13 1 rfl rfl ?_
  refine cw_iload_n dX11_divide_14 3 rfl rfl ?_
  refine cw_iload_n dX11_divide_15 0 rfl rfl ?_
  refine cw_aload_n dX11_divide_16 1 rfl rfl ?_
  refine cw_getf (C := RX11) (T := TX11) (N := 5) (ci := 11) inX11_divide_RX11 32 (show 32 < 41 by decide) rfl rfl 1 (by decide) (by decide +kernel) rfl dX11_divide_17 ?_
  obtain ⟨v_20, J_20, hc_20, h⟩ := h
  refine cw_callV (o := 32) (As := [.int x2, .int v_2, .int (J_10 32 1)]) hc_20 okX11_sum rfl gX11_divide_X11_sum (by decide) (show 32 < 41 by decide) rfl (ci := 11) rfl rfl (Nat.le_of_ble_eq_true rfl) dX11_divide_20 ?_
  refine cw_icmp_lt (tgt := 30) dX11_divide_23 (by decide) (fun q => ?_) (fun q => ?_)
  · have h := h.1 q
    refine cw_iconst (v := 0) dX11_divide_30 (by decide) ?_
    refine cw_istore dX11_divide_31 (by decide) rfl ?_
    refine cw_aload_n dX11_divide_33 2 rfl rfl ?_
    refine cw_iload dX11_divide_34 0 rfl ?_
    refine cw_if_eq (tgt := 43) dX11_divide_36 (by decide) (fun _ => ?_) (fun q => absurd q (by decide))
    refine cw_iload_n dX11_divide_43 3 rfl rfl ?_
    refine cw_iconst (v := 0) dX11_divide_44 (by decide) ?_
    refine cw_iload_n dX11_divide_45 1 rfl rfl ?_
    obtain ⟨J_46, hc_46, h⟩ := h
    refine cw_callV (o := 32) (As := [.int x1, .int 0, .int v_2]) hc_46 okX11_fill rfl gX11_divide_X11_fill (by decide) (show 32 < 41 by decide) rfl (ci := 11) rfl rfl (Nat.le_of_ble_eq_true rfl) dX11_divide_46 ?_
    refine cw_aload_n dX11_divide_49 2 rfl rfl ?_
    refine cw_iload dX11_divide_50 0 rfl ?_
    refine cw_if_eq (tgt := 59) dX11_divide_52 (by decide) (fun _ => ?_) (fun q => absurd q (by decide))
    refine cw_iload_n dX11_divide_59 4 rfl rfl ?_
    refine cw_iload_n dX11_divide_60 1 rfl rfl ?_
    refine cw_aload_n dX11_divide_61 2 rfl rfl ?_
    refine cw_getf (C := RX11) (T := TX11) (N := 5) (ci := 11) inX11_divide_RX11 32 (show 32 < 41 by decide) rfl rfl 1 (by decide) (by decide +kernel) rfl dX11_divide_62 ?_
    obtain ⟨J_65, hc_65, h⟩ := h
    refine cw_callV (o := 32) (As := [.int x2, .int v_2, .int (J_46 32 1)]) hc_65 okX11_fill rfl gX11_divide_X11_fill (by decide) (show 32 < 41 by decide) rfl (ci := 11) rfl rfl (Nat.le_of_ble_eq_true rfl) dX11_divide_65 ?_
    refine cw_iload_n dX11_divide_68 1 rfl rfl ?_
    exact cw_iret rfl dX11_divide_69 h
  · have h := h.2 q
    refine cw_iconst (v := 1) dX11_divide_26 (by decide) ?_
    refine cw_goto (tgt := 31) dX11_divide_27 (by decide) ?_
    refine cw_istore dX11_divide_31 (by decide) rfl ?_
    refine cw_aload_n dX11_divide_33 2 rfl rfl ?_
    refine cw_iload dX11_divide_34 0 rfl ?_
    refine cw_if_eq (tgt := 43) dX11_divide_36 (by decide) (fun q => absurd q (by decide)) (fun _ => ?_)
    refine cw_iload_n dX11_divide_39 4 rfl rfl ?_
    refine cw_goto (tgt := 44) dX11_divide_40 (by decide) ?_
    refine cw_iconst (v := 0) dX11_divide_44 (by decide) ?_
    refine cw_iload_n dX11_divide_45 1 rfl rfl ?_
    obtain ⟨J_46, hc_46, h⟩ := h
    refine cw_callV (o := 32) (As := [.int x2, .int 0, .int v_2]) hc_46 okX11_fill rfl gX11_divide_X11_fill (by decide) (show 32 < 41 by decide) rfl (ci := 11) rfl rfl (Nat.le_of_ble_eq_true rfl) dX11_divide_46 ?_
    refine cw_aload_n dX11_divide_49 2 rfl rfl ?_
    refine cw_iload dX11_divide_50 0 rfl ?_
    refine cw_if_eq (tgt := 59) dX11_divide_52 (by decide) (fun q => absurd q (by decide)) (fun _ => ?_)
    refine cw_iload_n dX11_divide_55 3 rfl rfl ?_
    refine cw_goto (tgt := 60) dX11_divide_56 (by decide) ?_
    refine cw_iload_n dX11_divide_60 1 rfl rfl ?_
    refine cw_aload_n dX11_divide_61 2 rfl rfl ?_
    refine cw_getf (C := RX11) (T := TX11) (N := 5) (ci := 11) inX11_divide_RX11 32 (show 32 < 41 by decide) rfl rfl 1 (by decide) (by decide +kernel) rfl dX11_divide_62 ?_
    obtain ⟨J_65, hc_65, h⟩ := h
    refine cw_callV (o := 32) (As := [.int x1, .int v_2, .int (J_46 32 1)]) hc_65 okX11_fill rfl gX11_divide_X11_fill (by decide) (show 32 < 41 by decide) rfl (ci := 11) rfl rfl (Nat.le_of_ble_eq_true rfl) dX11_divide_65 ?_
    refine cw_iload_n dX11_divide_68 1 rfl rfl ?_
    exact cw_iret rfl dX11_divide_69 h
abbrev bX11_fill_32_3 (K : cw_K) (r : Option Value) (J0 : cw_M) (x1 : Int32) (x3 : Int32) (x4 : Int32) (I : cw_M) : Prop := cw_B (cp_w K) (cp_w K) mX11_fill (cw_Z (cp_w K) r J0) 0 0 0 0 I 3 [(0, .ref (cw_a (cp_w K) 32)), (1, .int x1), (3, .int x3), (4, .int x4)] []
set_option maxRecDepth 20000 in
set_option maxHeartbeats 4000000 in
theorem eX11_fill_32 {K : cw_K} {r : Option Value} {J0 I : cw_M} {x1 : Int32} {x2 : Int32} {x3 : Int32} (h : bX11_fill_32_3 K r J0 x1 x3 x2 I) : cw_C (cp_w K) mX11_fill [.ref (cw_a (cp_w K) 32), .int x1, .int x2, .int x3] I r J0 := by
  refine cw_entry okX11_fill (Nat.le_of_ble_eq_true rfl) (show cw_B (cp_w K) (cp_w K) mX11_fill (cw_Z (cp_w K) r J0) 0 0 0 0 I 0 [(0, .ref (cw_a (cp_w K) 32)), (1, .int x1), (2, .int x2), (3, .int x3)] [] from ?_)
  refine cw_iload_n dX11_fill_0 2 rfl rfl ?_
  refine cw_istore dX11_fill_1 (by decide) rfl ?_
  refine cw_sub [1, 2, 4, 0] rfl ?_
  exact h
set_option maxRecDepth 20000 in
set_option maxHeartbeats 4000000 in
theorem tbX11_fill_32_3 {K : cw_K} {r : Option Value} {J0 I : cw_M} {x1 : Int32} {x3 : Int32} {x4 : Int32} (h : ((x3 ≤ x4 → (r = none ∧ J0 = I)) ∧ (¬ x3 ≤ x4 → (vp_in x4 24 ∧ bX11_fill_32_3 K r J0 x1 x3 (x4 + 1) (cw_st I 40 x4.toNatClampNeg x1))))) : bX11_fill_32_3 K r J0 x1 x3 x4 I := by
  refine cw_iload dX11_fill_3 3 rfl ?_
  refine cw_iload_n dX11_fill_5 2 rfl rfl ?_
  refine cw_icmp_ge (tgt := 23) dX11_fill_6 (by decide) (fun q => ?_) (fun q => ?_)
  · have h := h.1 q
    exact cw_vret rfl dX11_fill_23 h
  · have h := h.2 q
    refine cw_aload_n dX11_fill_9 0 rfl rfl ?_
    refine cw_getf (C := RX11) (T := TX11) (N := 5) (ci := 11) inX11_fill_RX11 32 (show 32 < 41 by decide) rfl rfl 4 (by decide) (by decide +kernel) rfl dX11_fill_10 ?_
    refine cw_iload dX11_fill_13 3 rfl ?_
    refine cw_iload_n dX11_fill_15 1 rfl rfl ?_
    obtain ⟨g_16, h⟩ := h
    refine cw_iast 40 (show 40 < 41 by decide) (fun _ => rfl) 0 rfl dX11_fill_16 g_16 ?_
    refine cw_iinc (v := x4 + 1) dX11_fill_17 (j := 3) rfl rfl (by decide) rfl ?_
    refine cw_goto (tgt := 3) dX11_fill_20 (by decide) ?_
    refine cw_sub [1, 2, 3, 0] rfl ?_
    exact h
abbrev bX11_knife_32_22 (K : cw_K) (K0 : cw_K) (r : Option Value) (J0 : cw_M) (x2 : Int32) (x3 : Int32) (I : cw_M) : Prop := cw_B (ck_w K) (cp_w K0) mX11_knife (cw_ZN 1 6 (cp_w K0) r J0) 1 6 1 6 I 22 [(0, .ref (cw_a (ck_w K) 32)), (1, .ref (cw_a (ck_w K) 41)), (2, .int x2), (3, .int x3)] []
abbrev bX11_knife_32_40 (K : cw_K) (K0 : cw_K) (r : Option Value) (J0 : cw_M) (x2 : Int32) (x3 : Int32) (x4 : Int32) (x5 : Int32) (I : cw_M) : Prop := cw_B (ck_w K) (cp_w K0) mX11_knife (cw_ZN 1 6 (cp_w K0) r J0) 1 6 1 6 I 40 [(0, .ref (cw_a (ck_w K) 32)), (1, .ref (cw_a (ck_w K) 41)), (2, .int x2), (3, .int x3), (4, .int x4), (5, .int x5)] []
abbrev bX11_knife_32_56 (K : cw_K) (K0 : cw_K) (r : Option Value) (J0 : cw_M) (x2 : Int32) (x3 : Int32) (x4 : Int32) (x5 : Int32) (x6 : Int32) (I : cw_M) : Prop := cw_B (ck_w K) (cp_w K0) mX11_knife (cw_ZN 1 6 (cp_w K0) r J0) 1 6 1 6 I 56 [(0, .ref (cw_a (ck_w K) 32)), (1, .ref (cw_a (ck_w K) 41)), (2, .int x2), (3, .int x3), (4, .int x4), (5, .int x5), (6, .int x6)] []
set_option maxRecDepth 20000 in
set_option maxHeartbeats 4000000 in
theorem eX11_knife_32 {K : cw_K} {r : Option Value} {J0 I : cw_M} (h : (∀ q_2 : Nat, (∃ J_12 : cw_M, cw_C (ck_w (kset K 41 q_2)) mX11_fill [.ref (cw_a (ck_w (kset K 41 q_2)) 32), .int (-1), .int 0, .int ((cw_up I 41 (fun _ => 0)) 32 1)] (cw_up I 41 (fun _ => 0)) none J_12 ∧ bX11_knife_32_22 (kset K 41 q_2) K r J0 0 (J_12 32 2) J_12))) : cw_CN 1 6 (cp_w K) mX11_knife [.ref (cw_a (cp_w K) 32)] I r J0 := by
  refine cw_entryN okX11_knife (Nat.le_of_ble_eq_true rfl) (show cw_B (cp_w K) (cp_w K) mX11_knife (cw_ZN 1 6 (cp_w K) r J0) 1 6 0 0 I 0 [(0, .ref (cw_a (cp_w K) 32))] [] from ?_)
  refine cw_bipush (v := 6) dX11_knife_0 (by decide) ?_
  refine cw_newz (w' := fun q_2 => ck_w (kset K 41 q_2)) (N := 6) (cA := K.2.2.1 1) (fun q_2 => xk_ext _ q_2) 1 rfl (by decide +kernel) rfl (by decide) ⟨by decide, by decide⟩ dX11_knife_2 (fun q_2 => ?_)
  have h := h q_2
  refine cw_astore_n dX11_knife_4 rfl (by decide) rfl ?_
  refine cw_aload_n dX11_knife_5 1 rfl rfl ?_
  refine cw_iconst (v := (-1)) dX11_knife_6 (by decide) ?_
  refine cw_iconst (v := 0) dX11_knife_7 (by decide) ?_
  refine cw_aload_n dX11_knife_8 1 rfl rfl ?_
  refine cw_getf (C := RX11) (T := TX11) (N := 5) (ci := 11) inX11_knife_RX11 32 (show 32 < 42 by decide) rfl rfl 1 (by decide) (by decide +kernel) rfl dX11_knife_9 ?_
  obtain ⟨J_12, hc_12, h⟩ := h
  refine cw_callV (o := 32) (As := [.int (-1), .int 0, .int ((cw_up I 41 (fun _ => 0)) 32 1)]) hc_12 okX11_fill rfl gX11_knife_X11_fill (by decide) (show 32 < 42 by decide) rfl (ci := 11) rfl rfl (Nat.le_of_ble_eq_true rfl) dX11_knife_12 ?_
  refine cw_iconst (v := 0) dX11_knife_15 (by decide) ?_
  refine cw_istore_n dX11_knife_16 rfl (by decide) rfl ?_
  refine cw_aload_n dX11_knife_17 2 rfl rfl ?_
  refine cw_getf (C := RX11) (T := TX11) (N := 5) (ci := 11) inX11_knife_RX11 32 (show 32 < 42 by decide) rfl rfl 2 (by decide) (by decide +kernel) rfl dX11_knife_18 ?_
  refine cw_istore_n dX11_knife_21 rfl (by decide) rfl ?_
  refine cw_sub [3, 2, 1, 0] rfl ?_
  exact h
set_option maxRecDepth 20000 in
set_option maxHeartbeats 4000000 in
theorem tbX11_knife_32_22 {K : cw_K} {K0 : cw_K} {r : Option Value} {J0 I : cw_M} {x2 : Int32} {x3 : Int32} (hle : cw_le (cp_w K0) (ck_w K)) (h : ((x3 ≤ 0 → (r = none ∧ J0 = I)) ∧ (¬ x3 ≤ 0 → (((I 32 1) ≤ x2 → (r = none ∧ J0 = I)) ∧ (¬ (I 32 1) ≤ x2 → bX11_knife_32_40 K K0 r J0 x2 x3 (-1) x2 I))))) : bX11_knife_32_22 K K0 r J0 x2 x3 I := by
  refine cw_iload_n dX11_knife_22 3 rfl rfl ?_
  refine cw_if_le (tgt := 163) dX11_knife_23 (by decide) (fun q => ?_) (fun q => ?_)
  · have h := h.1 q
    exact cw_vretX hle rfl dX11_knife_163 h
  · have h := h.2 q
    refine cw_iload_n dX11_knife_26 2 rfl rfl ?_
    refine cw_aload_n dX11_knife_27 0 rfl rfl ?_
    refine cw_getf (C := RX11) (T := TX11) (N := 5) (ci := 11) inX11_knife_RX11 32 (show 32 < 42 by decide) rfl rfl 1 (by decide) (by decide +kernel) rfl dX11_knife_28 ?_
    refine cw_icmp_ge (tgt := 163) dX11_knife_31 (by decide) (fun q => ?_) (fun q => ?_)
    · have h := h.1 q
      exact cw_vretX hle rfl dX11_knife_163 h
    · have h := h.2 q
      refine cw_iconst (v := (-1)) dX11_knife_34 (by decide) ?_
      refine cw_istore dX11_knife_35 (by decide) rfl ?_
      refine cw_iload_n dX11_knife_37 3 rfl rfl ?_
      refine cw_istore dX11_knife_38 (by decide) rfl ?_
      refine cw_sub [2, 3, 4, 5, 1, 0] rfl ?_
      exact h
set_option maxRecDepth 20000 in
set_option maxHeartbeats 4000000 in
theorem tbX11_knife_32_40 {K : cw_K} {K0 : cw_K} {r : Option Value} {J0 I : cw_M} {x2 : Int32} {x3 : Int32} {x4 : Int32} {x5 : Int32} (h : ((0 ≤ x4 → (vp_in x4 6 ∧ (∃ J_151 : cw_M, cw_C (ck_w K) mX11_fill [.ref (cw_a (ck_w K) 32), .int x4, .int x2, .int x5] (cw_st I 41 x4.toNatClampNeg (vp_nar .boolean 1)) none J_151 ∧ bX11_knife_32_22 K K0 r J0 x5 (x3 + (-1)) J_151))) ∧ (¬ 0 ≤ x4 → bX11_knife_32_56 K K0 r J0 x2 x3 x4 (x5 + 1) ((I 32 2) - 1) I))) : bX11_knife_32_40 K K0 r J0 x2 x3 x4 x5 I := by
  refine cw_iload dX11_knife_40 4 rfl ?_
  refine cw_if_ge (tgt := 140) dX11_knife_42 (by decide) (fun q => ?_) (fun q => ?_)
  · have h := h.1 q
    refine cw_aload_n dX11_knife_140 1 rfl rfl ?_
    refine cw_iload dX11_knife_141 4 rfl ?_
    refine cw_iconst (v := 1) dX11_knife_143 (by decide) ?_
    obtain ⟨g_144, h⟩ := h
    refine cw_zast 41 (show 41 < 42 by decide) (fun _ => rfl) 1 rfl dX11_knife_144 g_144 ?_
    refine cw_aload_n dX11_knife_145 0 rfl rfl ?_
    refine cw_iload dX11_knife_146 4 rfl ?_
    refine cw_iload_n dX11_knife_148 2 rfl rfl ?_
    refine cw_iload dX11_knife_149 5 rfl ?_
    obtain ⟨J_151, hc_151, h⟩ := h
    refine cw_callV (o := 32) (As := [.int x4, .int x2, .int x5]) hc_151 okX11_fill rfl gX11_knife_X11_fill (by decide) (show 32 < 42 by decide) rfl (ci := 11) rfl rfl (Nat.le_of_ble_eq_true rfl) dX11_knife_151 ?_
    refine cw_iload dX11_knife_154 5 rfl ?_
    refine cw_istore_n dX11_knife_156 rfl (by decide) rfl ?_
    refine cw_iinc (v := x3 + (-1)) dX11_knife_157 (j := 3) rfl rfl (by decide) rfl ?_
    refine cw_goto (tgt := 22) dX11_knife_160 (by decide) ?_
    refine cw_sub [2, 3, 1, 0] rfl ?_
    exact h
  · have h := h.2 q
    refine cw_iinc (v := x5 + 1) dX11_knife_45 (j := 5) rfl rfl (by decide) rfl ?_
    refine cw_aload_n dX11_knife_48 1 rfl rfl ?_
    refine cw_getf (C := RX11) (T := TX11) (N := 5) (ci := 11) inX11_knife_RX11 32 (show 32 < 42 by decide) rfl rfl 2 (by decide) (by decide +kernel) rfl dX11_knife_49 ?_
    refine cw_iconst (v := 1) dX11_knife_52 (by decide) ?_
    refine cw_isub dX11_knife_53 ?_
    refine cw_istore dX11_knife_54 (by decide) rfl ?_
    refine cw_sub [2, 3, 4, 5, 6, 1, 0] rfl ?_
    exact h
set_option maxRecDepth 20000 in
set_option maxHeartbeats 4000000 in
theorem tbX11_knife_32_56 {K : cw_K} {K0 : cw_K} {r : Option Value} {J0 I : cw_M} {x2 : Int32} {x3 : Int32} {x4 : Int32} {x5 : Int32} {x6 : Int32} (h : ((x6 < 0 → bX11_knife_32_40 K K0 r J0 x2 x3 x4 x5 I) ∧ (¬ x6 < 0 → ((¬ x3 = 1 → (∃ (v_89 : Int32) (J_89 : cw_M), cw_C (ck_w K) mX11_sum [.ref (cw_a (ck_w K) 32), .int x6, .int x2, .int x5] I (some (.int v_89)) J_89 ∧ (∃ (v_102 : Int32) (J_102 : cw_M), cw_C (ck_w K) mX11_sum [.ref (cw_a (ck_w K) 32), .int x6, .int x2, .int (J_89 32 1)] J_89 (some (.int v_102)) J_102 ∧ (((v_89 * x3) < v_102 → (vp_in x6 6 ∧ ((¬ (J_102 41 x6.toNatClampNeg) = 0 → bX11_knife_32_56 K K0 r J0 x2 x3 x4 x5 (x6 + (-1)) J_102) ∧ ((J_102 41 x6.toNatClampNeg) = 0 → bX11_knife_32_56 K K0 r J0 x2 x3 x4 x5 (x6 + (-1)) J_102)))) ∧ (¬ (v_89 * x3) < v_102 → (vp_in x6 6 ∧ ((¬ (J_102 41 x6.toNatClampNeg) = 0 → bX11_knife_32_56 K K0 r J0 x2 x3 x4 x5 (x6 + (-1)) J_102) ∧ ((J_102 41 x6.toNatClampNeg) = 0 → bX11_knife_32_56 K K0 r J0 x2 x3 x6 x5 (x6 + (-1)) J_102)))))))) ∧ (x3 = 1 → ((¬ x5 = (I 32 1) → (vp_in x6 6 ∧ ((¬ (I 41 x6.toNatClampNeg) = 0 → bX11_knife_32_56 K K0 r J0 x2 x3 x4 x5 (x6 + (-1)) I) ∧ ((I 41 x6.toNatClampNeg) = 0 → bX11_knife_32_56 K K0 r J0 x2 x3 x4 x5 (x6 + (-1)) I)))) ∧ (x5 = (I 32 1) → (vp_in x6 6 ∧ ((¬ (I 41 x6.toNatClampNeg) = 0 → bX11_knife_32_56 K K0 r J0 x2 x3 x4 x5 (x6 + (-1)) I) ∧ ((I 41 x6.toNatClampNeg) = 0 → bX11_knife_32_56 K K0 r J0 x2 x3 x6 x5 (x6 + (-1)) I)))))))))) : bX11_knife_32_56 K K0 r J0 x2 x3 x4 x5 x6 I := by
  refine cw_iload dX11_knife_56 6 rfl ?_
  refine cw_if_lt (tgt := 137) dX11_knife_58 (by decide) (fun q => ?_) (fun q => ?_)
  · have h := h.1 q
    refine cw_goto (tgt := 40) dX11_knife_137 (by decide) ?_
    refine cw_sub [0, 1, 2, 3, 4, 5] rfl ?_
    exact h
  · have h := h.2 q
    refine cw_iload_n dX11_knife_61 3 rfl rfl ?_
    refine cw_iconst (v := 1) dX11_knife_62 (by decide) ?_
    refine cw_icmp_ne (tgt := 83) dX11_knife_63 (by decide) (fun q => ?_) (fun q => ?_)
    · have h := h.1 q
      refine cw_aload_n dX11_knife_83 0 rfl rfl ?_
      refine cw_iload dX11_knife_84 6 rfl ?_
      refine cw_iload_n dX11_knife_86 2 rfl rfl ?_
      refine cw_iload dX11_knife_87 5 rfl ?_
      obtain ⟨v_89, J_89, hc_89, h⟩ := h
      refine cw_callV (o := 32) (As := [.int x6, .int x2, .int x5]) hc_89 okX11_sum rfl gX11_knife_X11_sum (by decide) (show 32 < 42 by decide) rfl (ci := 11) rfl rfl (Nat.le_of_ble_eq_true rfl) dX11_knife_89 ?_
      refine cw_iload_n dX11_knife_92 3 rfl rfl ?_
      refine cw_imul dX11_knife_93 ?_
      refine cw_aload_n dX11_knife_94 0 rfl rfl ?_
      refine cw_iload dX11_knife_95 6 rfl ?_
      refine cw_iload_n dX11_knife_97 2 rfl rfl ?_
      refine cw_aload_n dX11_knife_98 0 rfl rfl ?_
      refine cw_getf (C := RX11) (T := TX11) (N := 5) (ci := 11) inX11_knife_RX11 32 (show 32 < 42 by decide) rfl rfl 1 (by decide) (by decide +kernel) rfl dX11_knife_99 ?_
      obtain ⟨v_102, J_102, hc_102, h⟩ := h
      refine cw_callV (o := 32) (As := [.int x6, .int x2, .int (J_89 32 1)]) hc_102 okX11_sum rfl gX11_knife_X11_sum (by decide) (show 32 < 42 by decide) rfl (ci := 11) rfl rfl (Nat.le_of_ble_eq_true rfl) dX11_knife_102 ?_
      refine cw_icmp_lt (tgt := 112) dX11_knife_105 (by decide) (fun q => ?_) (fun q => ?_)
      · have h := h.1 q
        refine cw_iconst (v := 0) dX11_knife_112 (by decide) ?_
        refine cw_istore dX11_knife_113 (by decide) rfl ?_
        refine cw_aload_n dX11_knife_115 2 rfl rfl ?_
        refine cw_iload dX11_knife_116 7 rfl ?_
        obtain ⟨g_118, h⟩ := h
        refine cw_zald 41 (show 41 < 42 by decide) rfl 1 rfl dX11_knife_118 g_118 ?_
        refine cw_if_ne (tgt := 131) dX11_knife_119 (by decide) (fun q => ?_) (fun q => ?_)
        · have h := h.1 q
          refine cw_iinc (v := x6 + (-1)) dX11_knife_131 (j := 7) rfl rfl (by decide) rfl ?_
          refine cw_goto (tgt := 56) dX11_knife_134 (by decide) ?_
          refine cw_sub [2, 3, 4, 5, 6, 7, 0] rfl ?_
          exact h
        · have h := h.2 q
          refine cw_iload dX11_knife_122 0 rfl ?_
          refine cw_if_eq (tgt := 131) dX11_knife_124 (by decide) (fun _ => ?_) (fun q => absurd q (by decide))
          refine cw_iinc (v := x6 + (-1)) dX11_knife_131 (j := 7) rfl rfl (by decide) rfl ?_
          refine cw_goto (tgt := 56) dX11_knife_134 (by decide) ?_
          refine cw_sub [2, 3, 4, 5, 6, 7, 0] rfl ?_
          exact h
      · have h := h.2 q
        refine cw_iconst (v := 1) dX11_knife_108 (by decide) ?_
        refine cw_goto (tgt := 113) dX11_knife_109 (by decide) ?_
        refine cw_istore dX11_knife_113 (by decide) rfl ?_
        refine cw_aload_n dX11_knife_115 2 rfl rfl ?_
        refine cw_iload dX11_knife_116 7 rfl ?_
        obtain ⟨g_118, h⟩ := h
        refine cw_zald 41 (show 41 < 42 by decide) rfl 1 rfl dX11_knife_118 g_118 ?_
        refine cw_if_ne (tgt := 131) dX11_knife_119 (by decide) (fun q => ?_) (fun q => ?_)
        · have h := h.1 q
          refine cw_iinc (v := x6 + (-1)) dX11_knife_131 (j := 7) rfl rfl (by decide) rfl ?_
          refine cw_goto (tgt := 56) dX11_knife_134 (by decide) ?_
          refine cw_sub [2, 3, 4, 5, 6, 7, 0] rfl ?_
          exact h
        · have h := h.2 q
          refine cw_iload dX11_knife_122 0 rfl ?_
          refine cw_if_eq (tgt := 131) dX11_knife_124 (by decide) (fun q => absurd q (by decide)) (fun _ => ?_)
          refine cw_iload dX11_knife_127 7 rfl ?_
          refine cw_istore dX11_knife_129 (by decide) rfl ?_
          refine cw_iinc (v := x6 + (-1)) dX11_knife_131 (j := 7) rfl rfl (by decide) rfl ?_
          refine cw_goto (tgt := 56) dX11_knife_134 (by decide) ?_
          refine cw_sub [3, 4, 5, 6, 1, 7, 0] rfl ?_
          exact h
    · have h := h.2 q
      refine cw_iload dX11_knife_66 5 rfl ?_
      refine cw_aload_n dX11_knife_68 0 rfl rfl ?_
      refine cw_getf (C := RX11) (T := TX11) (N := 5) (ci := 11) inX11_knife_RX11 32 (show 32 < 42 by decide) rfl rfl 1 (by decide) (by decide +kernel) rfl dX11_knife_69 ?_
      refine cw_icmp_ne (tgt := 79) dX11_knife_72 (by decide) (fun q => ?_) (fun q => ?_)
      · have h := h.1 q
        refine cw_iconst (v := 0) dX11_knife_79 (by decide) ?_
        refine cw_goto (tgt := 113) dX11_knife_80 (by decide) ?_
        refine cw_istore dX11_knife_113 (by decide) rfl ?_
        refine cw_aload_n dX11_knife_115 2 rfl rfl ?_
        refine cw_iload dX11_knife_116 7 rfl ?_
        obtain ⟨g_118, h⟩ := h
        refine cw_zald 41 (show 41 < 42 by decide) rfl 1 rfl dX11_knife_118 g_118 ?_
        refine cw_if_ne (tgt := 131) dX11_knife_119 (by decide) (fun q => ?_) (fun q => ?_)
        · have h := h.1 q
          refine cw_iinc (v := x6 + (-1)) dX11_knife_131 (j := 7) rfl rfl (by decide) rfl ?_
          refine cw_goto (tgt := 56) dX11_knife_134 (by decide) ?_
          refine cw_sub [2, 3, 4, 5, 6, 7, 0] rfl ?_
          exact h
        · have h := h.2 q
          refine cw_iload dX11_knife_122 0 rfl ?_
          refine cw_if_eq (tgt := 131) dX11_knife_124 (by decide) (fun _ => ?_) (fun q => absurd q (by decide))
          refine cw_iinc (v := x6 + (-1)) dX11_knife_131 (j := 7) rfl rfl (by decide) rfl ?_
          refine cw_goto (tgt := 56) dX11_knife_134 (by decide) ?_
          refine cw_sub [2, 3, 4, 5, 6, 7, 0] rfl ?_
          exact h
      · have h := h.2 q
        refine cw_iconst (v := 1) dX11_knife_75 (by decide) ?_
        refine cw_goto (tgt := 113) dX11_knife_76 (by decide) ?_
        refine cw_istore dX11_knife_113 (by decide) rfl ?_
        refine cw_aload_n dX11_knife_115 2 rfl rfl ?_
        refine cw_iload dX11_knife_116 7 rfl ?_
        obtain ⟨g_118, h⟩ := h
        refine cw_zald 41 (show 41 < 42 by decide) rfl 1 rfl dX11_knife_118 g_118 ?_
        refine cw_if_ne (tgt := 131) dX11_knife_119 (by decide) (fun q => ?_) (fun q => ?_)
        · have h := h.1 q
          refine cw_iinc (v := x6 + (-1)) dX11_knife_131 (j := 7) rfl rfl (by decide) rfl ?_
          refine cw_goto (tgt := 56) dX11_knife_134 (by decide) ?_
          refine cw_sub [2, 3, 4, 5, 6, 7, 0] rfl ?_
          exact h
        · have h := h.2 q
          refine cw_iload dX11_knife_122 0 rfl ?_
          refine cw_if_eq (tgt := 131) dX11_knife_124 (by decide) (fun q => absurd q (by decide)) (fun _ => ?_)
          refine cw_iload dX11_knife_127 7 rfl ?_
          refine cw_istore dX11_knife_129 (by decide) rfl ?_
          refine cw_iinc (v := x6 + (-1)) dX11_knife_131 (j := 7) rfl rfl (by decide) rfl ?_
          refine cw_goto (tgt := 56) dX11_knife_134 (by decide) ?_
          refine cw_sub [3, 4, 5, 6, 1, 7, 0] rfl ?_
          exact h
abbrev bX11_read_32_2 (K : cw_K) (r : Option Value) (J0 : cw_M) (x1 : Int32) (I : cw_M) : Prop := cw_B (cp_w K) (cp_w K) mX11_read (cw_Z (cp_w K) r J0) 0 0 0 0 I 2 [(0, .ref (cw_a (cp_w K) 32)), (1, .int x1)] []
abbrev bX11_read_32_26 (K : cw_K) (r : Option Value) (J0 : cw_M) (x1 : Int32) (x2 : Int32) (I : cw_M) : Prop := cw_B (cp_w K) (cp_w K) mX11_read (cw_Z (cp_w K) r J0) 0 0 0 0 I 26 [(0, .ref (cw_a (cp_w K) 32)), (1, .int x1), (2, .int x2)] []
set_option maxRecDepth 20000 in
set_option maxHeartbeats 4000000 in
theorem eX11_read_32 {K : cw_K} {r : Option Value} {J0 I : cw_M} (h : bX11_read_32_2 K r J0 0 I) : cw_C (cp_w K) mX11_read [.ref (cw_a (cp_w K) 32)] I r J0 := by
  refine cw_entry okX11_read (Nat.le_of_ble_eq_true rfl) (show cw_B (cp_w K) (cp_w K) mX11_read (cw_Z (cp_w K) r J0) 0 0 0 0 I 0 [(0, .ref (cw_a (cp_w K) 32))] [] from ?_)
  refine cw_iconst (v := 0) dX11_read_0 (by decide) ?_
  refine cw_istore_n dX11_read_1 rfl (by decide) rfl ?_
  refine cw_sub [1, 0] rfl ?_
  exact h
set_option maxRecDepth 20000 in
set_option maxHeartbeats 4000000 in
theorem tbX11_read_32_2 {K : cw_K} {r : Option Value} {J0 I : cw_M} {x1 : Int32} (h : (((I 32 1) ≤ x1 → (r = none ∧ J0 = I)) ∧ (¬ (I 32 1) ≤ x1 → (∃ (v_20 : Int32) (J_20 : cw_M), cw_C (cp_w K) mX10_owner [.ref (cw_a (cp_w K) 0), .int x1] I (some (.int v_20)) J_20 ∧ (vp_in x1 24 ∧ bX11_read_32_26 K r J0 x1 0 (cw_st J_20 40 x1.toNatClampNeg v_20)))))) : bX11_read_32_2 K r J0 x1 I := by
  refine cw_iload_n dX11_read_2 1 rfl rfl ?_
  refine cw_aload_n dX11_read_3 0 rfl rfl ?_
  refine cw_getf (C := RX11) (T := TX11) (N := 5) (ci := 11) inX11_read_RX11 32 (show 32 < 41 by decide) rfl rfl 1 (by decide) (by decide +kernel) rfl dX11_read_4 ?_
  refine cw_icmp_ge (tgt := 63) dX11_read_7 (by decide) (fun q => ?_) (fun q => ?_)
  · have h := h.1 q
    exact cw_vret rfl dX11_read_63 h
  · have h := h.2 q
    refine cw_aload_n dX11_read_10 0 rfl rfl ?_
    refine cw_getf (C := RX11) (T := TX11) (N := 5) (ci := 11) inX11_read_RX11 32 (show 32 < 41 by decide) rfl rfl 4 (by decide) (by decide +kernel) rfl dX11_read_11 ?_
    refine cw_iload_n dX11_read_14 1 rfl rfl ?_
    refine cw_aload_n dX11_read_15 0 rfl rfl ?_
    refine cw_getf (C := RX11) (T := TX11) (N := 5) (ci := 11) inX11_read_RX11 32 (show 32 < 41 by decide) rfl rfl 0 (by decide) (by decide +kernel) rfl dX11_read_16 ?_
    refine cw_iload_n dX11_read_19 1 rfl rfl ?_
    obtain ⟨v_20, J_20, hc_20, h⟩ := h
    refine cw_callV (o := 0) (As := [.int x1]) hc_20 okX10_owner rfl gX11_read_X10_owner (by decide) (show 0 < 41 by decide) rfl (ci := 10) rfl rfl (Nat.le_of_ble_eq_true rfl) dX11_read_20 ?_
    obtain ⟨g_23, h⟩ := h
    refine cw_iast 40 (show 40 < 41 by decide) (fun _ => rfl) 0 rfl dX11_read_23 g_23 ?_
    refine cw_iconst (v := 0) dX11_read_24 (by decide) ?_
    refine cw_istore_n dX11_read_25 rfl (by decide) rfl ?_
    refine cw_sub [1, 2, 0] rfl ?_
    exact h
set_option maxRecDepth 20000 in
set_option maxHeartbeats 4000000 in
theorem tbX11_read_32_26 {K : cw_K} {r : Option Value} {J0 I : cw_M} {x1 : Int32} {x2 : Int32} (h : (((I 32 2) ≤ x2 → bX11_read_32_2 K r J0 (x1 + 1) I) ∧ (¬ (I 32 2) ≤ x2 → (vp_in x2 6 ∧ (∃ (v_47 : Int32) (J_47 : cw_M), cw_C (cp_w K) mX10_value [.ref (cw_a (cp_w K) 0), .int x2, .int x1] I (some (.int v_47)) J_47 ∧ (vp_in x1 24 ∧ bX11_read_32_26 K r J0 x1 (x2 + 1) (cw_st J_47 (34 + x2.toNatClampNeg) x1.toNatClampNeg v_47))))))) : bX11_read_32_26 K r J0 x1 x2 I := by
  refine cw_iload_n dX11_read_26 2 rfl rfl ?_
  refine cw_aload_n dX11_read_27 0 rfl rfl ?_
  refine cw_getf (C := RX11) (T := TX11) (N := 5) (ci := 11) inX11_read_RX11 32 (show 32 < 41 by decide) rfl rfl 2 (by decide) (by decide +kernel) rfl dX11_read_28 ?_
  refine cw_icmp_ge (tgt := 57) dX11_read_31 (by decide) (fun q => ?_) (fun q => ?_)
  · have h := h.1 q
    refine cw_iinc (v := x1 + 1) dX11_read_57 (j := 1) rfl rfl (by decide) rfl ?_
    refine cw_goto (tgt := 2) dX11_read_60 (by decide) ?_
    refine cw_sub [1, 0] rfl ?_
    exact h
  · have h := h.2 q
    refine cw_aload_n dX11_read_34 0 rfl rfl ?_
    refine cw_getf (C := RX11) (T := TX11) (N := 5) (ci := 11) inX11_read_RX11 32 (show 32 < 41 by decide) rfl rfl 3 (by decide) (by decide +kernel) rfl dX11_read_35 ?_
    refine cw_iload_n dX11_read_38 2 rfl rfl ?_
    obtain ⟨g_39, h⟩ := h
    refine cw_aldr 33 (show 33 < 41 by decide) rfl 3 rfl dX11_read_39 g_39 ?_
    refine cw_iload_n dX11_read_40 1 rfl rfl ?_
    refine cw_aload_n dX11_read_41 0 rfl rfl ?_
    refine cw_getf (C := RX11) (T := TX11) (N := 5) (ci := 11) inX11_read_RX11 32 (show 32 < 41 by decide) rfl rfl 0 (by decide) (by decide +kernel) rfl dX11_read_42 ?_
    refine cw_iload_n dX11_read_45 2 rfl rfl ?_
    refine cw_iload_n dX11_read_46 1 rfl rfl ?_
    obtain ⟨v_47, J_47, hc_47, h⟩ := h
    refine cw_callV (o := 0) (As := [.int x2, .int x1]) hc_47 okX10_value rfl gX11_read_X10_value (by decide) (show 0 < 41 by decide) rfl (ci := 10) rfl rfl (Nat.le_of_ble_eq_true rfl) dX11_read_47 ?_
    obtain ⟨g_50, h⟩ := h
    refine cw_iast (34 + x2.toNatClampNeg) (xP_lt g_39) (fun _ => xP_row g_39) 0 rfl dX11_read_50 g_50 ?_
    refine cw_iinc (v := x2 + 1) dX11_read_51 (j := 2) rfl rfl (by decide) rfl ?_
    refine cw_goto (tgt := 26) dX11_read_54 (by decide) ?_
    refine cw_sub [1, 2, 0] rfl ?_
    exact h
abbrev bX11_robin_32_4 (K : cw_K) (r : Option Value) (J0 : cw_M) (x2 : Int32) (x3 : Int32) (I : cw_M) : Prop := cw_B (cp_w K) (cp_w K) mX11_robin (cw_Z (cp_w K) r J0) 0 0 0 0 I 4 [(0, .ref (cw_a (cp_w K) 32)), (2, .int x2), (3, .int x3)] []
abbrev bX11_robin_32_23 (K : cw_K) (r : Option Value) (J0 : cw_M) (x2 : Int32) (x3 : Int32) (x4 : Int32) (x5 : Int32) (x6 : Int32) (I : cw_M) : Prop := cw_B (cp_w K) (cp_w K) mX11_robin (cw_Z (cp_w K) r J0) 0 0 0 0 I 23 [(0, .ref (cw_a (cp_w K) 32)), (2, .int x2), (3, .int x3), (4, .int x4), (5, .int x5), (6, .int x6)] []
set_option maxRecDepth 20000 in
set_option maxHeartbeats 4000000 in
theorem eX11_robin_32 {K : cw_K} {r : Option Value} {J0 I : cw_M} {x1 : Int32} (h : bX11_robin_32_4 K r J0 0 x1 I) : cw_C (cp_w K) mX11_robin [.ref (cw_a (cp_w K) 32), .int x1] I r J0 := by
  refine cw_entry okX11_robin (Nat.le_of_ble_eq_true rfl) (show cw_B (cp_w K) (cp_w K) mX11_robin (cw_Z (cp_w K) r J0) 0 0 0 0 I 0 [(0, .ref (cw_a (cp_w K) 32)), (1, .int x1)] [] from ?_)
  refine cw_iconst (v := 0) dX11_robin_0 (by decide) ?_
  refine cw_istore_n dX11_robin_1 rfl (by decide) rfl ?_
  refine cw_iload_n dX11_robin_2 2 rfl rfl ?_
  refine cw_istore_n dX11_robin_3 rfl (by decide) rfl ?_
  refine cw_sub [2, 1, 0] rfl ?_
  exact h
set_option maxRecDepth 20000 in
set_option maxHeartbeats 4000000 in
theorem tbX11_robin_32_4 {K : cw_K} {r : Option Value} {J0 I : cw_M} {x2 : Int32} {x3 : Int32} (h : (¬ (I 32 2) = 0 ∧ bX11_robin_32_23 K r J0 x2 x3 (-1) (x3 - x3 / (I 32 2) * (I 32 2)) ((I 32 1) - 1) I)) : bX11_robin_32_4 K r J0 x2 x3 I := by
  refine cw_iconst (v := (-1)) dX11_robin_4 (by decide) ?_
  refine cw_istore dX11_robin_5 (by decide) rfl ?_
  refine cw_iload_n dX11_robin_7 3 rfl rfl ?_
  refine cw_aload_n dX11_robin_8 1 rfl rfl ?_
  refine cw_getf (C := RX11) (T := TX11) (N := 5) (ci := 11) inX11_robin_RX11 32 (show 32 < 41 by decide) rfl rfl 2 (by decide) (by decide +kernel) rfl dX11_robin_9 ?_
  obtain ⟨g0_12, h⟩ := h
  refine cw_irem dX11_robin_12 g0_12 ?_
  refine cw_istore dX11_robin_13 (by decide) rfl ?_
  refine cw_aload_n dX11_robin_15 2 rfl rfl ?_
  refine cw_getf (C := RX11) (T := TX11) (N := 5) (ci := 11) inX11_robin_RX11 32 (show 32 < 41 by decide) rfl rfl 1 (by decide) (by decide +kernel) rfl dX11_robin_16 ?_
  refine cw_iconst (v := 1) dX11_robin_19 (by decide) ?_
  refine cw_isub dX11_robin_20 ?_
  refine cw_istore dX11_robin_21 (by decide) rfl ?_
  refine cw_sub [3, 4, 5, 2, 1, 0] rfl ?_
  exact h
set_option maxRecDepth 20000 in
set_option maxHeartbeats 4000000 in
theorem tbX11_robin_32_23 {K : cw_K} {r : Option Value} {J0 I : cw_M} {x2 : Int32} {x3 : Int32} {x4 : Int32} {x5 : Int32} {x6 : Int32} (h : ((x6 < 0 → ((0 ≤ x4 → (vp_in x4 24 ∧ bX11_robin_32_4 K r J0 (x2 + 1) (x3 + 1) (cw_st I 40 x4.toNatClampNeg x5))) ∧ (¬ 0 ≤ x4 → (r = some (.int x2) ∧ J0 = I)))) ∧ (¬ x6 < 0 → (vp_in x6 24 ∧ ((0 ≤ (I 40 x6.toNatClampNeg) → bX11_robin_32_23 K r J0 x2 x3 x4 x5 (x6 + (-1)) I) ∧ (¬ 0 ≤ (I 40 x6.toNatClampNeg) → ((x4 < 0 → bX11_robin_32_23 K r J0 x2 x3 x6 x5 (x6 + (-1)) I) ∧ (¬ x4 < 0 → (vp_in x5 6 ∧ (vp_in x6 24 ∧ (vp_in x5 6 ∧ (vp_in x4 24 ∧ (((I (34 + x5.toNatClampNeg) x6.toNatClampNeg) < (I (34 + x5.toNatClampNeg) x4.toNatClampNeg) → bX11_robin_32_23 K r J0 x2 x3 x4 x5 (x6 + (-1)) I) ∧ (¬ (I (34 + x5.toNatClampNeg) x6.toNatClampNeg) < (I (34 + x5.toNatClampNeg) x4.toNatClampNeg) → bX11_robin_32_23 K r J0 x2 x3 x6 x5 (x6 + (-1)) I)))))))))))))) : bX11_robin_32_23 K r J0 x2 x3 x4 x5 x6 I := by
  refine cw_iload dX11_robin_23 5 rfl ?_
  refine cw_if_lt (tgt := 76) dX11_robin_25 (by decide) (fun q => ?_) (fun q => ?_)
  · have h := h.1 q
    refine cw_iload dX11_robin_76 3 rfl ?_
    refine cw_if_ge (tgt := 83) dX11_robin_78 (by decide) (fun q => ?_) (fun q => ?_)
    · have h := h.1 q
      refine cw_aload_n dX11_robin_83 0 rfl rfl ?_
      refine cw_getf (C := RX11) (T := TX11) (N := 5) (ci := 11) inX11_robin_RX11 32 (show 32 < 41 by decide) rfl rfl 4 (by decide) (by decide +kernel) rfl dX11_robin_84 ?_
      refine cw_iload dX11_robin_87 3 rfl ?_
      refine cw_iload dX11_robin_89 4 rfl ?_
      obtain ⟨g_91, h⟩ := h
      refine cw_iast 40 (show 40 < 41 by decide) (fun _ => rfl) 0 rfl dX11_robin_91 g_91 ?_
      refine cw_iinc (v := x2 + 1) dX11_robin_92 (j := 1) rfl rfl (by decide) rfl ?_
      refine cw_iinc (v := x3 + 1) dX11_robin_95 (j := 2) rfl rfl (by decide) rfl ?_
      refine cw_goto (tgt := 4) dX11_robin_98 (by decide) ?_
      refine cw_sub [2, 1, 0] rfl ?_
      exact h
    · have h := h.2 q
      refine cw_iload_n dX11_robin_81 1 rfl rfl ?_
      exact cw_iret rfl dX11_robin_82 h
  · have h := h.2 q
    refine cw_aload_n dX11_robin_28 0 rfl rfl ?_
    refine cw_getf (C := RX11) (T := TX11) (N := 5) (ci := 11) inX11_robin_RX11 32 (show 32 < 41 by decide) rfl rfl 4 (by decide) (by decide +kernel) rfl dX11_robin_29 ?_
    refine cw_iload dX11_robin_32 5 rfl ?_
    obtain ⟨g_34, h⟩ := h
    refine cw_iald 40 (show 40 < 41 by decide) rfl 0 rfl dX11_robin_34 g_34 ?_
    refine cw_if_ge (tgt := 70) dX11_robin_35 (by decide) (fun q => ?_) (fun q => ?_)
    · have h := h.1 q
      refine cw_iinc (v := x6 + (-1)) dX11_robin_70 (j := 5) rfl rfl (by decide) rfl ?_
      refine cw_goto (tgt := 23) dX11_robin_73 (by decide) ?_
      refine cw_sub [1, 2, 3, 4, 5, 0] rfl ?_
      exact h
    · have h := h.2 q
      refine cw_iload dX11_robin_38 3 rfl ?_
      refine cw_if_lt (tgt := 66) dX11_robin_40 (by decide) (fun q => ?_) (fun q => ?_)
      · have h := h.1 q
        refine cw_iload dX11_robin_66 5 rfl ?_
        refine cw_istore dX11_robin_68 (by decide) rfl ?_
        refine cw_iinc (v := x6 + (-1)) dX11_robin_70 (j := 5) rfl rfl (by decide) rfl ?_
        refine cw_goto (tgt := 23) dX11_robin_73 (by decide) ?_
        refine cw_sub [2, 3, 4, 1, 5, 0] rfl ?_
        exact h
      · have h := h.2 q
        refine cw_aload_n dX11_robin_43 0 rfl rfl ?_
        refine cw_getf (C := RX11) (T := TX11) (N := 5) (ci := 11) inX11_robin_RX11 32 (show 32 < 41 by decide) rfl rfl 3 (by decide) (by decide +kernel) rfl dX11_robin_44 ?_
        refine cw_iload dX11_robin_47 4 rfl ?_
        obtain ⟨g_49, h⟩ := h
        refine cw_aldr 33 (show 33 < 41 by decide) rfl 3 rfl dX11_robin_49 g_49 ?_
        refine cw_iload dX11_robin_50 5 rfl ?_
        obtain ⟨g_52, h⟩ := h
        refine cw_iald (34 + x5.toNatClampNeg) (xP_lt g_49) (xP_row g_49) 0 rfl dX11_robin_52 g_52 ?_
        refine cw_aload_n dX11_robin_53 0 rfl rfl ?_
        refine cw_getf (C := RX11) (T := TX11) (N := 5) (ci := 11) inX11_robin_RX11 32 (show 32 < 41 by decide) rfl rfl 3 (by decide) (by decide +kernel) rfl dX11_robin_54 ?_
        refine cw_iload dX11_robin_57 4 rfl ?_
        obtain ⟨g_59, h⟩ := h
        refine cw_aldr 33 (show 33 < 41 by decide) rfl 3 rfl dX11_robin_59 g_59 ?_
        refine cw_iload dX11_robin_60 3 rfl ?_
        obtain ⟨g_62, h⟩ := h
        refine cw_iald (34 + x5.toNatClampNeg) (xP_lt g_59) (xP_row g_59) 0 rfl dX11_robin_62 g_62 ?_
        refine cw_icmp_lt (tgt := 70) dX11_robin_63 (by decide) (fun q => ?_) (fun q => ?_)
        · have h := h.1 q
          refine cw_iinc (v := x6 + (-1)) dX11_robin_70 (j := 5) rfl rfl (by decide) rfl ?_
          refine cw_goto (tgt := 23) dX11_robin_73 (by decide) ?_
          refine cw_sub [1, 2, 3, 4, 5, 0] rfl ?_
          exact h
        · have h := h.2 q
          refine cw_iload dX11_robin_66 5 rfl ?_
          refine cw_istore dX11_robin_68 (by decide) rfl ?_
          refine cw_iinc (v := x6 + (-1)) dX11_robin_70 (j := 5) rfl rfl (by decide) rfl ?_
          refine cw_goto (tgt := 23) dX11_robin_73 (by decide) ?_
          refine cw_sub [2, 3, 4, 1, 5, 0] rfl ?_
          exact h
abbrev bX11_satisfied_32_4 (K : cw_K) (r : Option Value) (J0 : cw_M) (x1 : Int32) (x2 : Int32) (I : cw_M) : Prop := cw_B (cp_w K) (cp_w K) mX11_satisfied (cw_Z (cp_w K) r J0) 0 0 0 0 I 4 [(0, .ref (cw_a (cp_w K) 32)), (1, .int x1), (2, .int x2)] []
set_option maxRecDepth 20000 in
set_option maxHeartbeats 4000000 in
theorem eX11_satisfied_32 {K : cw_K} {r : Option Value} {J0 I : cw_M} (h : bX11_satisfied_32_4 K r J0 0 0 I) : cw_C (cp_w K) mX11_satisfied [.ref (cw_a (cp_w K) 32)] I r J0 := by
  refine cw_entry okX11_satisfied (Nat.le_of_ble_eq_true rfl) (show cw_B (cp_w K) (cp_w K) mX11_satisfied (cw_Z (cp_w K) r J0) 0 0 0 0 I 0 [(0, .ref (cw_a (cp_w K) 32))] [] from ?_)
  refine cw_iconst (v := 0) dX11_satisfied_0 (by decide) ?_
  refine cw_istore_n dX11_satisfied_1 rfl (by decide) rfl ?_
  refine cw_iconst (v := 0) dX11_satisfied_2 (by decide) ?_
  refine cw_istore_n dX11_satisfied_3 rfl (by decide) rfl ?_
  refine cw_sub [2, 1, 0] rfl ?_
  exact h
set_option maxRecDepth 20000 in
set_option maxHeartbeats 4000000 in
theorem tbX11_satisfied_32_4 {K : cw_K} {r : Option Value} {J0 I : cw_M} {x1 : Int32} {x2 : Int32} (h : (((I 32 2) ≤ x2 → (r = some (.int x1) ∧ J0 = I)) ∧ (¬ (I 32 2) ≤ x2 → (∃ (v_16 : Int32) (J_16 : cw_M), cw_C (cp_w K) mX11_worth [.ref (cw_a (cp_w K) 32), .int x2, .int x2] I (some (.int v_16)) J_16 ∧ (∃ (v_31 : Int32) (J_31 : cw_M), cw_C (cp_w K) mX11_sum [.ref (cw_a (cp_w K) 32), .int x2, .int 0, .int (J_16 32 1)] J_16 (some (.int v_31)) J_31 ∧ (((v_16 * (J_16 32 2)) < v_31 → bX11_satisfied_32_4 K r J0 (x1 + 0) (x2 + 1) J_31) ∧ (¬ (v_16 * (J_16 32 2)) < v_31 → bX11_satisfied_32_4 K r J0 (x1 + 1) (x2 + 1) J_31))))))) : bX11_satisfied_32_4 K r J0 x1 x2 I := by
  refine cw_iload_n dX11_satisfied_4 2 rfl rfl ?_
  refine cw_aload_n dX11_satisfied_5 0 rfl rfl ?_
  refine cw_getf (C := RX11) (T := TX11) (N := 5) (ci := 11) inX11_satisfied_RX11 32 (show 32 < 41 by decide) rfl rfl 2 (by decide) (by decide +kernel) rfl dX11_satisfied_6 ?_
  refine cw_icmp_ge (tgt := 50) dX11_satisfied_9 (by decide) (fun q => ?_) (fun q => ?_)
  · have h := h.1 q
    refine cw_iload_n dX11_satisfied_50 1 rfl rfl ?_
    exact cw_iret rfl dX11_satisfied_51 h
  · have h := h.2 q
    refine cw_iload_n dX11_satisfied_12 1 rfl rfl ?_
    refine cw_aload_n dX11_satisfied_13 0 rfl rfl ?_
    refine cw_iload_n dX11_satisfied_14 2 rfl rfl ?_
    refine cw_iload_n dX11_satisfied_15 2 rfl rfl ?_
    obtain ⟨v_16, J_16, hc_16, h⟩ := h
    refine cw_callV (o := 32) (As := [.int x2, .int x2]) hc_16 okX11_worth rfl gX11_satisfied_X11_worth (by decide) (show 32 < 41 by decide) rfl (ci := 11) rfl rfl (Nat.le_of_ble_eq_true rfl) dX11_satisfied_16 ?_
    refine cw_aload_n dX11_satisfied_19 0 rfl rfl ?_
    refine cw_getf (C := RX11) (T := TX11) (N := 5) (ci := 11) inX11_satisfied_RX11 32 (show 32 < 41 by decide) rfl rfl 2 (by decide) (by decide +kernel) rfl dX11_satisfied_20 ?_
    refine cw_imul dX11_satisfied_23 ?_
    refine cw_aload_n dX11_satisfied_24 0 rfl rfl ?_
    refine cw_iload_n dX11_satisfied_25 2 rfl rfl ?_
    refine cw_iconst (v := 0) dX11_satisfied_26 (by decide) ?_
    refine cw_aload_n dX11_satisfied_27 0 rfl rfl ?_
    refine cw_getf (C := RX11) (T := TX11) (N := 5) (ci := 11) inX11_satisfied_RX11 32 (show 32 < 41 by decide) rfl rfl 1 (by decide) (by decide +kernel) rfl dX11_satisfied_28 ?_
    obtain ⟨v_31, J_31, hc_31, h⟩ := h
    refine cw_callV (o := 32) (As := [.int x2, .int 0, .int (J_16 32 1)]) hc_31 okX11_sum rfl gX11_satisfied_X11_sum (by decide) (show 32 < 41 by decide) rfl (ci := 11) rfl rfl (Nat.le_of_ble_eq_true rfl) dX11_satisfied_31 ?_
    refine cw_icmp_lt (tgt := 41) dX11_satisfied_34 (by decide) (fun q => ?_) (fun q => ?_)
    · have h := h.1 q
      refine cw_iconst (v := 0) dX11_satisfied_41 (by decide) ?_
      refine cw_iadd dX11_satisfied_42 ?_
      refine cw_istore_n dX11_satisfied_43 rfl (by decide) rfl ?_
      refine cw_iinc (v := x2 + 1) dX11_satisfied_44 (j := 2) rfl rfl (by decide) rfl ?_
      refine cw_goto (tgt := 4) dX11_satisfied_47 (by decide) ?_
      refine cw_sub [2, 1, 0] rfl ?_
      exact h
    · have h := h.2 q
      refine cw_iconst (v := 1) dX11_satisfied_37 (by decide) ?_
      refine cw_goto (tgt := 42) dX11_satisfied_38 (by decide) ?_
      refine cw_iadd dX11_satisfied_42 ?_
      refine cw_istore_n dX11_satisfied_43 rfl (by decide) rfl ?_
      refine cw_iinc (v := x2 + 1) dX11_satisfied_44 (j := 2) rfl rfl (by decide) rfl ?_
      refine cw_goto (tgt := 4) dX11_satisfied_47 (by decide) ?_
      refine cw_sub [2, 1, 0] rfl ?_
      exact h
abbrev bX11_sum_32_6 (K : cw_K) (r : Option Value) (J0 : cw_M) (x1 : Int32) (x3 : Int32) (x4 : Int32) (x5 : Int32) (I : cw_M) : Prop := cw_B (cp_w K) (cp_w K) mX11_sum (cw_Z (cp_w K) r J0) 0 0 0 0 I 6 [(0, .ref (cw_a (cp_w K) 32)), (1, .int x1), (3, .int x3), (4, .int x4), (5, .int x5)] []
set_option maxRecDepth 20000 in
set_option maxHeartbeats 4000000 in
theorem eX11_sum_32 {K : cw_K} {r : Option Value} {J0 I : cw_M} {x1 : Int32} {x2 : Int32} {x3 : Int32} (h : bX11_sum_32_6 K r J0 x1 x3 0 x2 I) : cw_C (cp_w K) mX11_sum [.ref (cw_a (cp_w K) 32), .int x1, .int x2, .int x3] I r J0 := by
  refine cw_entry okX11_sum (Nat.le_of_ble_eq_true rfl) (show cw_B (cp_w K) (cp_w K) mX11_sum (cw_Z (cp_w K) r J0) 0 0 0 0 I 0 [(0, .ref (cw_a (cp_w K) 32)), (1, .int x1), (2, .int x2), (3, .int x3)] [] from ?_)
  refine cw_iconst (v := 0) dX11_sum_0 (by decide) ?_
  refine cw_istore dX11_sum_1 (by decide) rfl ?_
  refine cw_iload_n dX11_sum_3 3 rfl rfl ?_
  refine cw_istore dX11_sum_4 (by decide) rfl ?_
  refine cw_sub [2, 3, 5, 1, 0] rfl ?_
  exact h
set_option maxRecDepth 20000 in
set_option maxHeartbeats 4000000 in
theorem tbX11_sum_32_6 {K : cw_K} {r : Option Value} {J0 I : cw_M} {x1 : Int32} {x3 : Int32} {x4 : Int32} {x5 : Int32} (h : ((x3 ≤ x5 → (r = some (.int x4) ∧ J0 = I)) ∧ (¬ x3 ≤ x5 → (vp_in x1 6 ∧ (vp_in x5 24 ∧ bX11_sum_32_6 K r J0 x1 x3 (x4 + (I (34 + x1.toNatClampNeg) x5.toNatClampNeg)) (x5 + 1) I))))) : bX11_sum_32_6 K r J0 x1 x3 x4 x5 I := by
  refine cw_iload dX11_sum_6 4 rfl ?_
  refine cw_iload_n dX11_sum_8 2 rfl rfl ?_
  refine cw_icmp_ge (tgt := 32) dX11_sum_9 (by decide) (fun q => ?_) (fun q => ?_)
  · have h := h.1 q
    refine cw_iload dX11_sum_32 3 rfl ?_
    exact cw_iret rfl dX11_sum_34 h
  · have h := h.2 q
    refine cw_iload dX11_sum_12 3 rfl ?_
    refine cw_aload_n dX11_sum_14 0 rfl rfl ?_
    refine cw_getf (C := RX11) (T := TX11) (N := 5) (ci := 11) inX11_sum_RX11 32 (show 32 < 41 by decide) rfl rfl 3 (by decide) (by decide +kernel) rfl dX11_sum_15 ?_
    refine cw_iload_n dX11_sum_18 1 rfl rfl ?_
    obtain ⟨g_19, h⟩ := h
    refine cw_aldr 33 (show 33 < 41 by decide) rfl 3 rfl dX11_sum_19 g_19 ?_
    refine cw_iload dX11_sum_20 4 rfl ?_
    obtain ⟨g_22, h⟩ := h
    refine cw_iald (34 + x1.toNatClampNeg) (xP_lt g_19) (xP_row g_19) 0 rfl dX11_sum_22 g_22 ?_
    refine cw_iadd dX11_sum_23 ?_
    refine cw_istore dX11_sum_24 (by decide) rfl ?_
    refine cw_iinc (v := x5 + 1) dX11_sum_26 (j := 4) rfl rfl (by decide) rfl ?_
    refine cw_goto (tgt := 6) dX11_sum_29 (by decide) ?_
    refine cw_sub [2, 3, 4, 1, 0] rfl ?_
    exact h
abbrev bX11_worth_32_5 (K : cw_K) (r : Option Value) (J0 : cw_M) (x1 : Int32) (x2 : Int32) (x3 : Int32) (x4 : Int32) (I : cw_M) : Prop := cw_B (cp_w K) (cp_w K) mX11_worth (cw_Z (cp_w K) r J0) 0 0 0 0 I 5 [(0, .ref (cw_a (cp_w K) 32)), (1, .int x1), (2, .int x2), (3, .int x3), (4, .int x4)] []
set_option maxRecDepth 20000 in
set_option maxHeartbeats 4000000 in
theorem eX11_worth_32 {K : cw_K} {r : Option Value} {J0 I : cw_M} {x1 : Int32} {x2 : Int32} (h : bX11_worth_32_5 K r J0 x1 x2 0 0 I) : cw_C (cp_w K) mX11_worth [.ref (cw_a (cp_w K) 32), .int x1, .int x2] I r J0 := by
  refine cw_entry okX11_worth (Nat.le_of_ble_eq_true rfl) (show cw_B (cp_w K) (cp_w K) mX11_worth (cw_Z (cp_w K) r J0) 0 0 0 0 I 0 [(0, .ref (cw_a (cp_w K) 32)), (1, .int x1), (2, .int x2)] [] from ?_)
  refine cw_iconst (v := 0) dX11_worth_0 (by decide) ?_
  refine cw_istore_n dX11_worth_1 rfl (by decide) rfl ?_
  refine cw_iconst (v := 0) dX11_worth_2 (by decide) ?_
  refine cw_istore dX11_worth_3 (by decide) rfl ?_
  refine cw_sub [2, 3, 4, 1, 0] rfl ?_
  exact h
set_option maxRecDepth 20000 in
set_option maxHeartbeats 4000000 in
theorem tbX11_worth_32_5 {K : cw_K} {r : Option Value} {J0 I : cw_M} {x1 : Int32} {x2 : Int32} {x3 : Int32} {x4 : Int32} (h : (((I 32 1) ≤ x4 → (r = some (.int x3) ∧ J0 = I)) ∧ (¬ (I 32 1) ≤ x4 → (vp_in x4 24 ∧ ((¬ (I 40 x4.toNatClampNeg) = x2 → bX11_worth_32_5 K r J0 x1 x2 (x3 + 0) (x4 + 1) I) ∧ ((I 40 x4.toNatClampNeg) = x2 → (vp_in x1 6 ∧ (vp_in x4 24 ∧ bX11_worth_32_5 K r J0 x1 x2 (x3 + (I (34 + x1.toNatClampNeg) x4.toNatClampNeg)) (x4 + 1) I)))))))) : bX11_worth_32_5 K r J0 x1 x2 x3 x4 I := by
  refine cw_iload dX11_worth_5 4 rfl ?_
  refine cw_aload_n dX11_worth_7 0 rfl rfl ?_
  refine cw_getf (C := RX11) (T := TX11) (N := 5) (ci := 11) inX11_worth_RX11 32 (show 32 < 41 by decide) rfl rfl 1 (by decide) (by decide +kernel) rfl dX11_worth_8 ?_
  refine cw_icmp_ge (tgt := 47) dX11_worth_11 (by decide) (fun q => ?_) (fun q => ?_)
  · have h := h.1 q
    refine cw_iload_n dX11_worth_47 3 rfl rfl ?_
    exact cw_iret rfl dX11_worth_48 h
  · have h := h.2 q
    refine cw_iload_n dX11_worth_14 3 rfl rfl ?_
    refine cw_aload_n dX11_worth_15 0 rfl rfl ?_
    refine cw_getf (C := RX11) (T := TX11) (N := 5) (ci := 11) inX11_worth_RX11 32 (show 32 < 41 by decide) rfl rfl 4 (by decide) (by decide +kernel) rfl dX11_worth_16 ?_
    refine cw_iload dX11_worth_19 4 rfl ?_
    obtain ⟨g_21, h⟩ := h
    refine cw_iald 40 (show 40 < 41 by decide) rfl 0 rfl dX11_worth_21 g_21 ?_
    refine cw_iload_n dX11_worth_22 2 rfl rfl ?_
    refine cw_icmp_ne (tgt := 38) dX11_worth_23 (by decide) (fun q => ?_) (fun q => ?_)
    · have h := h.1 q
      refine cw_iconst (v := 0) dX11_worth_38 (by decide) ?_
      refine cw_iadd dX11_worth_39 ?_
      refine cw_istore_n dX11_worth_40 rfl (by decide) rfl ?_
      refine cw_iinc (v := x4 + 1) dX11_worth_41 (j := 4) rfl rfl (by decide) rfl ?_
      refine cw_goto (tgt := 5) dX11_worth_44 (by decide) ?_
      refine cw_sub [2, 3, 4, 1, 0] rfl ?_
      exact h
    · have h := h.2 q
      refine cw_aload_n dX11_worth_26 0 rfl rfl ?_
      refine cw_getf (C := RX11) (T := TX11) (N := 5) (ci := 11) inX11_worth_RX11 32 (show 32 < 41 by decide) rfl rfl 3 (by decide) (by decide +kernel) rfl dX11_worth_27 ?_
      refine cw_iload_n dX11_worth_30 1 rfl rfl ?_
      obtain ⟨g_31, h⟩ := h
      refine cw_aldr 33 (show 33 < 41 by decide) rfl 3 rfl dX11_worth_31 g_31 ?_
      refine cw_iload dX11_worth_32 4 rfl ?_
      obtain ⟨g_34, h⟩ := h
      refine cw_iald (34 + x1.toNatClampNeg) (xP_lt g_31) (xP_row g_31) 0 rfl dX11_worth_34 g_34 ?_
      refine cw_goto (tgt := 39) dX11_worth_35 (by decide) ?_
      refine cw_iadd dX11_worth_39 ?_
      refine cw_istore_n dX11_worth_40 rfl (by decide) rfl ?_
      refine cw_iinc (v := x4 + 1) dX11_worth_41 (j := 4) rfl rfl (by decide) rfl ?_
      refine cw_goto (tgt := 5) dX11_worth_44 (by decide) ?_
      refine cw_sub [2, 3, 4, 1, 0] rfl ?_
      exact h
set_option maxRecDepth 20000 in
set_option maxHeartbeats 4000000 in
theorem eL_pick {K : cw_K} {sa sn : Nat} {sf : Nat → Int32} {r : Option Value} {J0 I : cw_M} {x1 : Int32} {x2 : Int32} (hFz : cw_Fsc (cw_Fc K) sa sn sf) (h : (((nI sn) ≤ x1 → (r = some (.int 0) ∧ J0 = I)) ∧ (¬ (nI sn) ≤ x1 → (vp_in x1 sn ∧ (¬ x2 = 0 ∧ (r = some (.int (((sf x1.toNatClampNeg) &&& 2147483647) - ((sf x1.toNatClampNeg) &&& 2147483647) / x2 * x2)) ∧ J0 = I)))))) : cw_C (ce_w K) mL_pick [.ref sa, .int x1, .int x2] I r J0 := by
  refine cw_entry okL_pick (Nat.le_of_ble_eq_true rfl) (show cw_B (ce_w K) (ce_w K) mL_pick (cw_Z (ce_w K) r J0) 0 0 0 0 I 0 [(0, .ref sa), (1, .int x1), (2, .int x2)] [] from ?_)
  refine cw_iload_n dL_pick_0 1 rfl rfl ?_
  refine cw_aload_n dL_pick_1 0 rfl rfl ?_
  refine cw_tlen (v := nI sn) (fun A U H q => hFz A U H q) rfl dL_pick_2 ?_
  refine cw_icmp_ge (tgt := 17) dL_pick_3 (by decide) (fun q => ?_) (fun q => ?_)
  · have h := h.1 q
    refine cw_iconst (v := 0) dL_pick_17 (by decide) ?_
    exact cw_iret rfl dL_pick_18 h
  · have h := h.2 q
    refine cw_aload_n dL_pick_6 0 rfl rfl ?_
    refine cw_iload_n dL_pick_7 1 rfl rfl ?_
    obtain ⟨g_8, h⟩ := h
    refine cw_ti (fun A U H q => hFz A U H q) g_8 rfl dL_pick_8 ?_
    refine cw_ldcI (v := 2147483647) (by decide +kernel) dL_pick_9 ?_
    refine cw_iand dL_pick_11 ?_
    refine cw_iload_n dL_pick_12 2 rfl rfl ?_
    obtain ⟨g0_13, h⟩ := h
    refine cw_irem dL_pick_13 g0_13 ?_
    refine cw_goto (tgt := 18) dL_pick_14 (by decide) ?_
    exact cw_iret rfl dL_pick_18 h
