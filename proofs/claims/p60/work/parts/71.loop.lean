/-! The law's loop, its blocks; laid by lawgen.py. -/
def mL_law : cw_Me := (yL_law, lw_tbl, cL_law, 15, (some .boolean), 16, 628)
abbrev bL_law_63 (K : cw_K) (sa : Nat) (Z : cw_Zt) (u v : Nat) (x2 : Int32) (x3 : Int32) (x5 : Int32) (I : cw_M) : Prop := cw_B (cp_w K) (ce_w K) mL_law Z 600086 7301442 u v I 63 [(0, .ref sa), (1, .ref (cw_a (cp_w K) 0)), (2, .int x2), (3, .int x3), (4, .ref (cw_a (cp_w K) 32)), (5, .int x5)] []
abbrev bL_law_626 (K : cw_K) (sa : Nat) (Z : cw_Zt) (u v : Nat) (I : cw_M) : Prop := cw_B (cp_w K) (ce_w K) mL_law Z 600086 7301442 u v I 626 [] []
abbrev bL_law_104 (K : cw_K) (sa : Nat) (Z : cw_Zt) (u v : Nat) (x2 : Int32) (x3 : Int32) (x5 : Int32) (x6 : Int32) (I : cw_M) : Prop := cw_B (cp_w K) (ce_w K) mL_law Z 600086 7301442 u v I 104 [(0, .ref sa), (1, .ref (cw_a (cp_w K) 0)), (2, .int x2), (3, .int x3), (4, .ref (cw_a (cp_w K) 32)), (5, .int x5), (6, .int x6)] []
abbrev bL_law_620 (K : cw_K) (sa : Nat) (Z : cw_Zt) (u v : Nat) (x2 : Int32) (x3 : Int32) (x5 : Int32) (I : cw_M) : Prop := cw_B (cp_w K) (ce_w K) mL_law Z 600086 7301442 u v I 620 [(0, .ref sa), (1, .ref (cw_a (cp_w K) 0)), (2, .int x2), (3, .int x3), (4, .ref (cw_a (cp_w K) 32)), (5, .int x5)] []
abbrev bL_law_400 (K : cw_K) (sa : Nat) (Z : cw_Zt) (u v : Nat) (x2 : Int32) (x3 : Int32) (x5 : Int32) (x7 : Int32) (x9 : Int32) (x12 : Int32) (I : cw_M) : Prop := cw_B (cb_w K) (ce_w K) mL_law Z 600086 7301442 u v I 400 [(0, .ref sa), (1, .ref (cw_a (cb_w K) 0)), (2, .int x2), (3, .int x3), (4, .ref (cw_a (cb_w K) 32)), (5, .int x5), (7, .int x7), (9, .int x9), (10, .ref (cw_a (cb_w K) 41)), (11, .ref (cw_a (cb_w K) 42)), (12, .int x12)] []
abbrev bL_law_429 (K : cw_K) (sa : Nat) (Z : cw_Zt) (u v : Nat) (x2 : Int32) (x3 : Int32) (x5 : Int32) (x7 : Int32) (x9 : Int32) (x12 : Int32) (I : cw_M) : Prop := cw_B (cb_w K) (ce_w K) mL_law Z 600086 7301442 u v I 429 [(0, .ref sa), (1, .ref (cw_a (cb_w K) 0)), (2, .int x2), (3, .int x3), (4, .ref (cw_a (cb_w K) 32)), (5, .int x5), (7, .int x7), (9, .int x9), (10, .ref (cw_a (cb_w K) 41)), (11, .ref (cw_a (cb_w K) 42)), (12, .int x12)] []
abbrev bL_law_471 (K : cw_K) (sa : Nat) (Z : cw_Zt) (u v : Nat) (x2 : Int32) (x3 : Int32) (x5 : Int32) (x7 : Int32) (x9 : Int32) (x13 : Int32) (I : cw_M) : Prop := cw_B (cd_w K) (ce_w K) mL_law Z 600086 7301442 u v I 471 [(0, .ref sa), (1, .ref (cw_a (cd_w K) 0)), (2, .int x2), (3, .int x3), (4, .ref (cw_a (cd_w K) 32)), (5, .int x5), (7, .int x7), (9, .int x9), (10, .ref (cw_a (cd_w K) 41)), (11, .ref (cw_a (cd_w K) 42)), (12, .ref (cw_a (cd_w K) 43)), (13, .int x13)] []
abbrev bL_law_499 (K : cw_K) (sa : Nat) (Z : cw_Zt) (u v : Nat) (x2 : Int32) (x3 : Int32) (x5 : Int32) (x7 : Int32) (x9 : Int32) (x13 : Int32) (I : cw_M) : Prop := cw_B (cd_w K) (ce_w K) mL_law Z 600086 7301442 u v I 499 [(0, .ref sa), (1, .ref (cw_a (cd_w K) 0)), (2, .int x2), (3, .int x3), (4, .ref (cw_a (cd_w K) 32)), (5, .int x5), (7, .int x7), (9, .int x9), (10, .ref (cw_a (cd_w K) 41)), (11, .ref (cw_a (cd_w K) 42)), (12, .ref (cw_a (cd_w K) 43)), (13, .int x13)] []
abbrev bL_law_582 (K : cw_K) (sa : Nat) (Z : cw_Zt) (u v : Nat) (x2 : Int32) (x3 : Int32) (x5 : Int32) (x9 : Int32) (x13 : Int32) (I : cw_M) : Prop := cw_B (cd_w K) (ce_w K) mL_law Z 600086 7301442 u v I 582 [(0, .ref sa), (1, .ref (cw_a (cd_w K) 0)), (2, .int x2), (3, .int x3), (4, .ref (cw_a (cd_w K) 32)), (5, .int x5), (9, .int x9), (10, .ref (cw_a (cd_w K) 41)), (11, .ref (cw_a (cd_w K) 42)), (13, .int x13)] []
abbrev bL_law_508 (K : cw_K) (sa : Nat) (Z : cw_Zt) (u v : Nat) (x2 : Int32) (x3 : Int32) (x5 : Int32) (x7 : Int32) (x9 : Int32) (x13 : Int32) (x14 : Int32) (I : cw_M) : Prop := cw_B (cd_w K) (ce_w K) mL_law Z 600086 7301442 u v I 508 [(0, .ref sa), (1, .ref (cw_a (cd_w K) 0)), (2, .int x2), (3, .int x3), (4, .ref (cw_a (cd_w K) 32)), (5, .int x5), (7, .int x7), (9, .int x9), (10, .ref (cw_a (cd_w K) 41)), (11, .ref (cw_a (cd_w K) 42)), (12, .ref (cw_a (cd_w K) 43)), (13, .int x13), (14, .int x14)] []
set_option maxRecDepth 20000 in
set_option maxHeartbeats 4000000 in
theorem tbL_law_63 {K : cw_K} {sa u v : Nat} {Z : cw_Zt} {I : cw_M} {x2 : Int32} {x3 : Int32} {x5 : Int32} (h : ((20 ≤ x5 → bL_law_626 K sa Z u v  I) ∧ (¬ 20 ≤ x5 → (∃ (v_78 : Int32) (J_78 : cw_M), cw_C (cp_w K) mL_pick [.ref sa, .int (14 + x5), .int 268435456] I (some (.int v_78)) J_78 ∧ (∃ J_86 : cw_M, cw_C (cp_w K) mL_act [.ref (cw_a (cp_w K) 0), .int v_78] J_78 none J_86 ∧ (∃ J_91 : cw_M, cw_C (cp_w K) mX11_read [.ref (cw_a (cp_w K) 32)] J_86 none J_91 ∧ (∃ (v_96 : Int32) (J_96 : cw_M), cw_C (cp_w K) mX11_agrees [.ref (cw_a (cp_w K) 32)] J_91 (some (.int v_96)) J_96 ∧ ((¬ v_96 = 0 → bL_law_104 K sa Z u v x2 x3 x5 v_78 J_96) ∧ (v_96 = 0 → False))))))))) : bL_law_63 K sa Z u v x2 x3 x5 I := by
  refine cw_iload dL_law_63 5 rfl ?_
  refine cw_bipush (v := 20) dL_law_65 (by decide) ?_
  refine cw_icmp_ge (tgt := 626) dL_law_67 (by decide) (fun q => ?_) (fun q => ?_)
  · have h := h.1 q
    refine cw_sub [] rfl ?_
    exact h
  · have h := h.2 q
    refine cw_aload_n dL_law_70 0 rfl rfl ?_
    refine cw_bipush (v := 14) dL_law_71 (by decide) ?_
    refine cw_iload dL_law_73 5 rfl ?_
    refine cw_iadd dL_law_75 ?_
    refine cw_ldcI (v := 268435456) lwm_c52 dL_law_76 ?_
    obtain ⟨v_78, J_78, hc_78, h⟩ := h
    refine cw_callA (As := [.ref sa, .int (14 + x5), .int 268435456]) hc_78 okL_pick rfl gT_L_pick ⟨Nat.le_of_ble_eq_true rfl, Nat.le_of_ble_eq_true rfl⟩ rfl (Nat.le_of_ble_eq_true rfl) dL_law_78 ?_
    refine cw_istore dL_law_81 (by decide) rfl ?_
    refine cw_aload_n dL_law_83 2 rfl rfl ?_
    refine cw_iload dL_law_84 0 rfl ?_
    obtain ⟨J_86, hc_86, h⟩ := h
    refine cw_callA (As := [.ref (cw_a (cp_w K) 0), .int v_78]) hc_86 okL_act rfl gT_L_act ⟨Nat.le_of_ble_eq_true rfl, Nat.le_of_ble_eq_true rfl⟩ rfl (Nat.le_of_ble_eq_true rfl) dL_law_86 ?_
    refine cw_aload dL_law_89 5 rfl ?_
    obtain ⟨J_91, hc_91, h⟩ := h
    refine cw_callV (o := 32) (As := []) hc_91 okX11_read rfl gT_X11_read ⟨Nat.le_of_ble_eq_true rfl, Nat.le_of_ble_eq_true rfl⟩ (show 32 < 41 by decide) rfl (ci := 11) rfl rfl (Nat.le_of_ble_eq_true rfl) dL_law_91 ?_
    refine cw_aload dL_law_94 5 rfl ?_
    obtain ⟨v_96, J_96, hc_96, h⟩ := h
    refine cw_callV (o := 32) (As := []) hc_96 okX11_agrees rfl gT_X11_agrees ⟨Nat.le_of_ble_eq_true rfl, Nat.le_of_ble_eq_true rfl⟩ (show 32 < 41 by decide) rfl (ci := 11) rfl rfl (Nat.le_of_ble_eq_true rfl) dL_law_96 ?_
    refine cw_if_ne (tgt := 104) dL_law_99 (by decide) (fun q => ?_) (fun q => ?_)
    · have h := h.1 q
      refine cw_sub [1, 2, 3, 4, 5, 6, 0] rfl ?_
      exact h
    · have h := h.2 q
      refine cw_iconst (v := 0) dL_law_102 (by decide) ?_
      exact h.elim
set_option maxRecDepth 20000 in
set_option maxHeartbeats 4000000 in
theorem tbL_law_104 {K : cw_K} {sa u v : Nat} {Z : cw_Zt} {I : cw_M} {x2 : Int32} {x3 : Int32} {x5 : Int32} {x6 : Int32} (h : (¬ x3 = 0 ∧ (¬ x3 = 0 ∧ ((¬ (x6 - x6 / 5 * 5) = 0 → ((¬ (x6 - x6 / 5 * 5) = 1 → ((¬ (x6 - x6 / 5 * 5) = 2 → ((¬ (x6 - x6 / 5 * 5) = 3 → (∃ (v_371 : Int32) (J_371 : cw_M), cw_C (cp_w K) mX10_envyCycleLength [.ref (cw_a (cp_w K) 0), .int ((x6 / 16) - (x6 / 16) / x3 * x3)] I (some (.int v_371)) J_371 ∧ ((v_371 ≤ 0 → bL_law_620 K sa Z u v x2 x3 x5 J_371) ∧ (¬ v_371 ≤ 0 → (∃ (v_380 : Int32) (J_380 : cw_M), cw_C (cp_w K) mX10_envyCycleLength [.ref (cw_a (cp_w K) 0), .int ((x6 / 16) - (x6 / 16) / x3 * x3)] J_371 (some (.int v_380)) J_380 ∧ ((u + 1 ≤ 600086 ∧ v + 6 ≤ 7301442) ∧ ∀ q_387 : Nat, ((u + 1 + 1 ≤ 600086 ∧ v + 6 + 6 ≤ 7301442) ∧ ∀ q_393 : Nat, bL_law_400 (kset (kset K 41 q_387) 42 q_393) sa Z (u + 1 + 1) (v + 6 + 6) x2 x3 x5 ((x6 / 16) - (x6 / 16) / x3 * x3) v_380 0 (cw_up (cw_up J_380 41 (fun _ => 0)) 42 (fun _ => 0))))))))) ∧ ((x6 - x6 / 5 * 5) = 3 → (∃ J_308 : cw_M, cw_C (cp_w K) mX11_fill [.ref (cw_a (cp_w K) 32), .int (-1), .int 0, .int x2] I none J_308 ∧ (∃ (v_316 : Int32) (J_316 : cw_M), cw_C (cp_w K) mX10_release [.ref (cw_a (cp_w K) 0), .int 0, .int (x2 - 1)] J_308 (some (.int v_316)) J_316 ∧ ((¬ v_316 = x2 → False) ∧ (v_316 = x2 → (∃ (v_325 : Int32) (J_325 : cw_M), cw_C (cp_w K) mX11_agrees [.ref (cw_a (cp_w K) 32)] J_316 (some (.int v_325)) J_325 ∧ ((¬ v_325 = 0 → (∃ (v_337 : Int32) (J_337 : cw_M), cw_C (cp_w K) mX11_robin [.ref (cw_a (cp_w K) 32), .int ((x6 / 128) - (x6 / 128) / x3 * x3)] J_325 (some (.int v_337)) J_337 ∧ (∃ (v_344 : Int32) (J_344 : cw_M), cw_C (cp_w K) mX10_roundRobin [.ref (cw_a (cp_w K) 0), .int ((x6 / 128) - (x6 / 128) / x3 * x3)] J_337 (some (.int v_344)) J_344 ∧ ((¬ v_344 = x2 → False) ∧ (v_344 = x2 → (∃ (v_353 : Int32) (J_353 : cw_M), cw_C (cp_w K) mX11_agrees [.ref (cw_a (cp_w K) 32)] J_344 (some (.int v_353)) J_353 ∧ ((v_353 = 0 → False) ∧ (¬ v_353 = 0 → (∃ (v_360 : Int32) (J_360 : cw_M), cw_C (cp_w K) mL_isMildAll [.ref (cw_a (cp_w K) 0)] J_353 (some (.int v_360)) J_360 ∧ ((¬ v_360 = 0 → bL_law_620 K sa Z u v x2 x3 x5 J_360) ∧ (v_360 = 0 → False))))))))))) ∧ (v_325 = 0 → False)))))))))) ∧ ((x6 - x6 / 5 * 5) = 2 → (∃ (v_229 : Int32) (J_229 : cw_M), cw_C (cp_w K) mX10_freeCount [.ref (cw_a (cp_w K) 0)] I (some (.int v_229)) J_229 ∧ ((¬ v_229 = x2 → (∃ (v_247 : Int32) (J_247 : cw_M), cw_C (cp_w K) mX11_robin [.ref (cw_a (cp_w K) 32), .int ((x6 / 16) - (x6 / 16) / x3 * x3)] J_229 (some (.int v_247)) J_247 ∧ (∃ (v_255 : Int32) (J_255 : cw_M), cw_C (cp_w K) mX10_roundRobin [.ref (cw_a (cp_w K) 0), .int ((x6 / 16) - (x6 / 16) / x3 * x3)] J_247 (some (.int v_255)) J_255 ∧ ((¬ v_255 = v_247 → False) ∧ (v_255 = v_247 → (∃ (v_265 : Int32) (J_265 : cw_M), cw_C (cp_w K) mX11_agrees [.ref (cw_a (cp_w K) 32)] J_255 (some (.int v_265)) J_265 ∧ ((v_265 = 0 → False) ∧ (¬ v_265 = 0 → (∃ (v_272 : Int32) (J_272 : cw_M), cw_C (cp_w K) mX10_freeCount [.ref (cw_a (cp_w K) 0)] J_265 (some (.int v_272)) J_272 ∧ ((¬ v_272 = 0 → False) ∧ (v_272 = 0 → bL_law_620 K sa Z u v x2 x3 x5 J_272))))))))))) ∧ (v_229 = x2 → (∃ (v_247 : Int32) (J_247 : cw_M), cw_C (cp_w K) mX11_robin [.ref (cw_a (cp_w K) 32), .int ((x6 / 16) - (x6 / 16) / x3 * x3)] J_229 (some (.int v_247)) J_247 ∧ (∃ (v_255 : Int32) (J_255 : cw_M), cw_C (cp_w K) mX10_roundRobin [.ref (cw_a (cp_w K) 0), .int ((x6 / 16) - (x6 / 16) / x3 * x3)] J_247 (some (.int v_255)) J_255 ∧ ((¬ v_255 = v_247 → False) ∧ (v_255 = v_247 → (∃ (v_265 : Int32) (J_265 : cw_M), cw_C (cp_w K) mX11_agrees [.ref (cw_a (cp_w K) 32)] J_255 (some (.int v_265)) J_265 ∧ ((v_265 = 0 → False) ∧ (¬ v_265 = 0 → (∃ (v_272 : Int32) (J_272 : cw_M), cw_C (cp_w K) mX10_freeCount [.ref (cw_a (cp_w K) 0)] J_265 (some (.int v_272)) J_272 ∧ ((¬ v_272 = 0 → False) ∧ (v_272 = 0 → (∃ (v_284 : Int32) (J_284 : cw_M), cw_C (cp_w K) mL_isMildAll [.ref (cw_a (cp_w K) 0)] J_272 (some (.int v_284)) J_284 ∧ ((¬ v_284 = 0 → bL_law_620 K sa Z u v x2 x3 x5 J_284) ∧ (v_284 = 0 → False))))))))))))))))))) ∧ ((x6 - x6 / 5 * 5) = 1 → ((u + 1 ≤ 600086 ∧ v + 6 ≤ 7301442) ∧ (∃ J_195 : cw_M, cw_CN 1 6 (cp_w K) mX11_knife [.ref (cw_a (cp_w K) 32)] I none J_195 ∧ (∃ (v_199 : Int32) (J_199 : cw_M), cw_C (cp_w K) mX10_movingKnife [.ref (cw_a (cp_w K) 0)] J_195 (some (.int v_199)) J_199 ∧ (∃ (v_204 : Int32) (J_204 : cw_M), cw_C (cp_w K) mX11_satisfied [.ref (cw_a (cp_w K) 32)] J_199 (some (.int v_204)) J_204 ∧ ((¬ v_199 = v_204 → False) ∧ (v_199 = v_204 → (∃ (v_212 : Int32) (J_212 : cw_M), cw_C (cp_w K) mX11_agrees [.ref (cw_a (cp_w K) 32)] J_204 (some (.int v_212)) J_212 ∧ ((¬ v_212 = 0 → bL_law_620 K sa Z (u + 1) (v + 6) x2 x3 x5 J_212) ∧ (v_212 = 0 → False)))))))))))) ∧ ((x6 - x6 / 5 * 5) = 0 → ((((x6 / 16) - (x6 / 16) / x3 * x3) = ((x6 / 128) - (x6 / 128) / x3 * x3) → ((¬ (x6 - x6 / 5 * 5) = 1 → ((¬ (x6 - x6 / 5 * 5) = 2 → ((¬ (x6 - x6 / 5 * 5) = 3 → (∃ (v_371 : Int32) (J_371 : cw_M), cw_C (cp_w K) mX10_envyCycleLength [.ref (cw_a (cp_w K) 0), .int ((x6 / 16) - (x6 / 16) / x3 * x3)] I (some (.int v_371)) J_371 ∧ ((v_371 ≤ 0 → bL_law_620 K sa Z u v x2 x3 x5 J_371) ∧ (¬ v_371 ≤ 0 → (∃ (v_380 : Int32) (J_380 : cw_M), cw_C (cp_w K) mX10_envyCycleLength [.ref (cw_a (cp_w K) 0), .int ((x6 / 16) - (x6 / 16) / x3 * x3)] J_371 (some (.int v_380)) J_380 ∧ ((u + 1 ≤ 600086 ∧ v + 6 ≤ 7301442) ∧ ∀ q_387 : Nat, ((u + 1 + 1 ≤ 600086 ∧ v + 6 + 6 ≤ 7301442) ∧ ∀ q_393 : Nat, bL_law_400 (kset (kset K 41 q_387) 42 q_393) sa Z (u + 1 + 1) (v + 6 + 6) x2 x3 x5 ((x6 / 16) - (x6 / 16) / x3 * x3) v_380 0 (cw_up (cw_up J_380 41 (fun _ => 0)) 42 (fun _ => 0))))))))) ∧ ((x6 - x6 / 5 * 5) = 3 → (∃ J_308 : cw_M, cw_C (cp_w K) mX11_fill [.ref (cw_a (cp_w K) 32), .int (-1), .int 0, .int x2] I none J_308 ∧ (∃ (v_316 : Int32) (J_316 : cw_M), cw_C (cp_w K) mX10_release [.ref (cw_a (cp_w K) 0), .int 0, .int (x2 - 1)] J_308 (some (.int v_316)) J_316 ∧ ((¬ v_316 = x2 → False) ∧ (v_316 = x2 → (∃ (v_325 : Int32) (J_325 : cw_M), cw_C (cp_w K) mX11_agrees [.ref (cw_a (cp_w K) 32)] J_316 (some (.int v_325)) J_325 ∧ ((¬ v_325 = 0 → (∃ (v_337 : Int32) (J_337 : cw_M), cw_C (cp_w K) mX11_robin [.ref (cw_a (cp_w K) 32), .int ((x6 / 128) - (x6 / 128) / x3 * x3)] J_325 (some (.int v_337)) J_337 ∧ (∃ (v_344 : Int32) (J_344 : cw_M), cw_C (cp_w K) mX10_roundRobin [.ref (cw_a (cp_w K) 0), .int ((x6 / 128) - (x6 / 128) / x3 * x3)] J_337 (some (.int v_344)) J_344 ∧ ((¬ v_344 = x2 → False) ∧ (v_344 = x2 → (∃ (v_353 : Int32) (J_353 : cw_M), cw_C (cp_w K) mX11_agrees [.ref (cw_a (cp_w K) 32)] J_344 (some (.int v_353)) J_353 ∧ ((v_353 = 0 → False) ∧ (¬ v_353 = 0 → (∃ (v_360 : Int32) (J_360 : cw_M), cw_C (cp_w K) mL_isMildAll [.ref (cw_a (cp_w K) 0)] J_353 (some (.int v_360)) J_360 ∧ ((¬ v_360 = 0 → bL_law_620 K sa Z u v x2 x3 x5 J_360) ∧ (v_360 = 0 → False))))))))))) ∧ (v_325 = 0 → False)))))))))) ∧ ((x6 - x6 / 5 * 5) = 2 → (∃ (v_229 : Int32) (J_229 : cw_M), cw_C (cp_w K) mX10_freeCount [.ref (cw_a (cp_w K) 0)] I (some (.int v_229)) J_229 ∧ ((¬ v_229 = x2 → (∃ (v_247 : Int32) (J_247 : cw_M), cw_C (cp_w K) mX11_robin [.ref (cw_a (cp_w K) 32), .int ((x6 / 16) - (x6 / 16) / x3 * x3)] J_229 (some (.int v_247)) J_247 ∧ (∃ (v_255 : Int32) (J_255 : cw_M), cw_C (cp_w K) mX10_roundRobin [.ref (cw_a (cp_w K) 0), .int ((x6 / 16) - (x6 / 16) / x3 * x3)] J_247 (some (.int v_255)) J_255 ∧ ((¬ v_255 = v_247 → False) ∧ (v_255 = v_247 → (∃ (v_265 : Int32) (J_265 : cw_M), cw_C (cp_w K) mX11_agrees [.ref (cw_a (cp_w K) 32)] J_255 (some (.int v_265)) J_265 ∧ ((v_265 = 0 → False) ∧ (¬ v_265 = 0 → (∃ (v_272 : Int32) (J_272 : cw_M), cw_C (cp_w K) mX10_freeCount [.ref (cw_a (cp_w K) 0)] J_265 (some (.int v_272)) J_272 ∧ ((¬ v_272 = 0 → False) ∧ (v_272 = 0 → bL_law_620 K sa Z u v x2 x3 x5 J_272))))))))))) ∧ (v_229 = x2 → (∃ (v_247 : Int32) (J_247 : cw_M), cw_C (cp_w K) mX11_robin [.ref (cw_a (cp_w K) 32), .int ((x6 / 16) - (x6 / 16) / x3 * x3)] J_229 (some (.int v_247)) J_247 ∧ (∃ (v_255 : Int32) (J_255 : cw_M), cw_C (cp_w K) mX10_roundRobin [.ref (cw_a (cp_w K) 0), .int ((x6 / 16) - (x6 / 16) / x3 * x3)] J_247 (some (.int v_255)) J_255 ∧ ((¬ v_255 = v_247 → False) ∧ (v_255 = v_247 → (∃ (v_265 : Int32) (J_265 : cw_M), cw_C (cp_w K) mX11_agrees [.ref (cw_a (cp_w K) 32)] J_255 (some (.int v_265)) J_265 ∧ ((v_265 = 0 → False) ∧ (¬ v_265 = 0 → (∃ (v_272 : Int32) (J_272 : cw_M), cw_C (cp_w K) mX10_freeCount [.ref (cw_a (cp_w K) 0)] J_265 (some (.int v_272)) J_272 ∧ ((¬ v_272 = 0 → False) ∧ (v_272 = 0 → (∃ (v_284 : Int32) (J_284 : cw_M), cw_C (cp_w K) mL_isMildAll [.ref (cw_a (cp_w K) 0)] J_272 (some (.int v_284)) J_284 ∧ ((¬ v_284 = 0 → bL_law_620 K sa Z u v x2 x3 x5 J_284) ∧ (v_284 = 0 → False))))))))))))))))))) ∧ ((x6 - x6 / 5 * 5) = 1 → ((u + 1 ≤ 600086 ∧ v + 6 ≤ 7301442) ∧ (∃ J_195 : cw_M, cw_CN 1 6 (cp_w K) mX11_knife [.ref (cw_a (cp_w K) 32)] I none J_195 ∧ (∃ (v_199 : Int32) (J_199 : cw_M), cw_C (cp_w K) mX10_movingKnife [.ref (cw_a (cp_w K) 0)] J_195 (some (.int v_199)) J_199 ∧ (∃ (v_204 : Int32) (J_204 : cw_M), cw_C (cp_w K) mX11_satisfied [.ref (cw_a (cp_w K) 32)] J_199 (some (.int v_204)) J_204 ∧ ((¬ v_199 = v_204 → False) ∧ (v_199 = v_204 → (∃ (v_212 : Int32) (J_212 : cw_M), cw_C (cp_w K) mX11_agrees [.ref (cw_a (cp_w K) 32)] J_204 (some (.int v_212)) J_212 ∧ ((¬ v_212 = 0 → bL_law_620 K sa Z (u + 1) (v + 6) x2 x3 x5 J_212) ∧ (v_212 = 0 → False)))))))))))) ∧ (¬ ((x6 / 16) - (x6 / 16) / x3 * x3) = ((x6 / 128) - (x6 / 128) / x3 * x3) → (∃ (v_143 : Int32) (J_143 : cw_M), cw_C (cp_w K) mX11_divide [.ref (cw_a (cp_w K) 32), .int ((x6 / 16) - (x6 / 16) / x3 * x3), .int ((x6 / 128) - (x6 / 128) / x3 * x3)] I (some (.int v_143)) J_143 ∧ (∃ (v_153 : Int32) (J_153 : cw_M), cw_C (cp_w K) mX10_divideAndChoose [.ref (cw_a (cp_w K) 0), .int ((x6 / 16) - (x6 / 16) / x3 * x3), .int ((x6 / 128) - (x6 / 128) / x3 * x3)] J_143 (some (.int v_153)) J_153 ∧ ((¬ v_153 = v_143 → False) ∧ (v_153 = v_143 → (∃ (v_163 : Int32) (J_163 : cw_M), cw_C (cp_w K) mX11_agrees [.ref (cw_a (cp_w K) 32)] J_153 (some (.int v_163)) J_163 ∧ ((v_163 = 0 → False) ∧ (¬ v_163 = 0 → (∃ (v_174 : Int32) (J_174 : cw_M), cw_C (cp_w K) mX10_envies [.ref (cw_a (cp_w K) 0), .int ((x6 / 128) - (x6 / 128) / x3 * x3), .int ((x6 / 16) - (x6 / 16) / x3 * x3)] J_163 (some (.int v_174)) J_174 ∧ ((v_174 = 0 → bL_law_620 K sa Z u v x2 x3 x5 J_174) ∧ (¬ v_174 = 0 → False))))))))))))))))) : bL_law_104 K sa Z u v x2 x3 x5 x6 I := by
  refine cw_iload dL_law_104 6 rfl ?_
  refine cw_bipush (v := 16) dL_law_106 (by decide) ?_
  refine cw_idiv dL_law_108 (by decide) ?_
  refine cw_iload_n dL_law_109 3 rfl rfl ?_
  obtain ⟨g0_110, h⟩ := h
  refine cw_irem dL_law_110 g0_110 ?_
  refine cw_istore dL_law_111 (by decide) rfl ?_
  refine cw_iload dL_law_113 7 rfl ?_
  refine cw_sipush (v := 128) dL_law_115 (by decide) ?_
  refine cw_idiv dL_law_118 (by decide) ?_
  refine cw_iload_n dL_law_119 4 rfl rfl ?_
  obtain ⟨g0_120, h⟩ := h
  refine cw_irem dL_law_120 g0_120 ?_
  refine cw_istore dL_law_121 (by decide) rfl ?_
  refine cw_iload dL_law_123 8 rfl ?_
  refine cw_iconst (v := 5) dL_law_125 (by decide) ?_
  refine cw_irem dL_law_126 (by decide) ?_
  refine cw_if_ne (tgt := 185) dL_law_127 (by decide) (fun q => ?_) (fun q => ?_)
  · have h := h.1 q
    refine cw_iload dL_law_185 8 rfl ?_
    refine cw_iconst (v := 5) dL_law_187 (by decide) ?_
    refine cw_irem dL_law_188 (by decide) ?_
    refine cw_iconst (v := 1) dL_law_189 (by decide) ?_
    refine cw_icmp_ne (tgt := 220) dL_law_190 (by decide) (fun q => ?_) (fun q => ?_)
    · have h := h.1 q
      refine cw_iload dL_law_220 8 rfl ?_
      refine cw_iconst (v := 5) dL_law_222 (by decide) ?_
      refine cw_irem dL_law_223 (by decide) ?_
      refine cw_iconst (v := 2) dL_law_224 (by decide) ?_
      refine cw_icmp_ne (tgt := 295) dL_law_225 (by decide) (fun q => ?_) (fun q => ?_)
      · have h := h.1 q
        refine cw_iload dL_law_295 8 rfl ?_
        refine cw_iconst (v := 5) dL_law_297 (by decide) ?_
        refine cw_irem dL_law_298 (by decide) ?_
        refine cw_iconst (v := 3) dL_law_299 (by decide) ?_
        refine cw_icmp_ne (tgt := 368) dL_law_300 (by decide) (fun q => ?_) (fun q => ?_)
        · have h := h.1 q
          refine cw_aload_n dL_law_368 3 rfl rfl ?_
          refine cw_iload dL_law_369 1 rfl ?_
          obtain ⟨v_371, J_371, hc_371, h⟩ := h
          refine cw_callV (o := 0) (As := [.int ((x6 / 16) - (x6 / 16) / x3 * x3)]) hc_371 okX10_envyCycleLength rfl gT_X10_envyCycleLength ⟨Nat.le_of_ble_eq_true rfl, Nat.le_of_ble_eq_true rfl⟩ (show 0 < 41 by decide) rfl (ci := 10) rfl rfl (Nat.le_of_ble_eq_true rfl) dL_law_371 ?_
          refine cw_if_le (tgt := 620) dL_law_374 (by decide) (fun q => ?_) (fun q => ?_)
          · have h := h.1 q
            refine cw_sub [2, 3, 4, 5, 6, 7] rfl ?_
            exact h
          · have h := h.2 q
            refine cw_aload_n dL_law_377 3 rfl rfl ?_
            refine cw_iload dL_law_378 1 rfl ?_
            obtain ⟨v_380, J_380, hc_380, h⟩ := h
            refine cw_callV (o := 0) (As := [.int ((x6 / 16) - (x6 / 16) / x3 * x3)]) hc_380 okX10_envyCycleLength rfl gT_X10_envyCycleLength ⟨Nat.le_of_ble_eq_true rfl, Nat.le_of_ble_eq_true rfl⟩ (show 0 < 41 by decide) rfl (ci := 10) rfl rfl (Nat.le_of_ble_eq_true rfl) dL_law_380 ?_
            refine cw_istore dL_law_383 (by decide) rfl ?_
            refine cw_bipush (v := 6) dL_law_385 (by decide) ?_
            obtain ⟨g_387, h⟩ := h
            refine cw_newi (w' := fun q_387 => ca_w (kset K 41 q_387)) (N := 6) (cA := K.2.2.1 0) (fun q_387 => xa_ext _ q_387) 0 rfl lwm_ai rfl (by decide) g_387 dL_law_387 (fun q_387 => ?_)
            have h := h q_387
            refine cw_astore dL_law_389 (by decide) rfl ?_
            refine cw_bipush (v := 6) dL_law_391 (by decide) ?_
            obtain ⟨g_393, h⟩ := h
            refine cw_newi (w' := fun q_393 => cb_w (kset (kset K 41 q_387) 42 q_393)) (N := 6) (cA := K.2.2.1 0) (fun q_393 => xb_ext _ q_393) 0 rfl lwm_ai rfl (by decide) g_393 dL_law_393 (fun q_393 => ?_)
            have h := h q_393
            refine cw_astore dL_law_395 (by decide) rfl ?_
            refine cw_iconst (v := 0) dL_law_397 (by decide) ?_
            refine cw_istore dL_law_398 (by decide) rfl ?_
            refine cw_sub [6, 7, 8, 9, 10, 11, 5, 3, 2, 1, 0] rfl ?_
            exact h
        · have h := h.2 q
          refine cw_aload dL_law_303 6 rfl ?_
          refine cw_iconst (v := (-1)) dL_law_305 (by decide) ?_
          refine cw_iconst (v := 0) dL_law_306 (by decide) ?_
          refine cw_iload_n dL_law_307 4 rfl rfl ?_
          obtain ⟨J_308, hc_308, h⟩ := h
          refine cw_callV (o := 32) (As := [.int (-1), .int 0, .int x2]) hc_308 okX11_fill rfl gT_X11_fill ⟨Nat.le_of_ble_eq_true rfl, Nat.le_of_ble_eq_true rfl⟩ (show 32 < 41 by decide) rfl (ci := 11) rfl rfl (Nat.le_of_ble_eq_true rfl) dL_law_308 ?_
          refine cw_aload_n dL_law_311 3 rfl rfl ?_
          refine cw_iconst (v := 0) dL_law_312 (by decide) ?_
          refine cw_iload_n dL_law_313 4 rfl rfl ?_
          refine cw_iconst (v := 1) dL_law_314 (by decide) ?_
          refine cw_isub dL_law_315 ?_
          obtain ⟨v_316, J_316, hc_316, h⟩ := h
          refine cw_callV (o := 0) (As := [.int 0, .int (x2 - 1)]) hc_316 okX10_release rfl gT_X10_release ⟨Nat.le_of_ble_eq_true rfl, Nat.le_of_ble_eq_true rfl⟩ (show 0 < 41 by decide) rfl (ci := 10) rfl rfl (Nat.le_of_ble_eq_true rfl) dL_law_316 ?_
          refine cw_iload_n dL_law_319 4 rfl rfl ?_
          refine cw_icmp_ne (tgt := 331) dL_law_320 (by decide) (fun q => ?_) (fun q => ?_)
          · have h := h.1 q
            refine cw_iconst (v := 0) dL_law_331 (by decide) ?_
            exact h.elim
          · have h := h.2 q
            refine cw_aload dL_law_323 6 rfl ?_
            obtain ⟨v_325, J_325, hc_325, h⟩ := h
            refine cw_callV (o := 32) (As := []) hc_325 okX11_agrees rfl gT_X11_agrees ⟨Nat.le_of_ble_eq_true rfl, Nat.le_of_ble_eq_true rfl⟩ (show 32 < 41 by decide) rfl (ci := 11) rfl rfl (Nat.le_of_ble_eq_true rfl) dL_law_325 ?_
            refine cw_if_ne (tgt := 333) dL_law_328 (by decide) (fun q => ?_) (fun q => ?_)
            · have h := h.1 q
              refine cw_aload dL_law_333 6 rfl ?_
              refine cw_iload dL_law_335 0 rfl ?_
              obtain ⟨v_337, J_337, hc_337, h⟩ := h
              refine cw_callV (o := 32) (As := [.int ((x6 / 128) - (x6 / 128) / x3 * x3)]) hc_337 okX11_robin rfl gT_X11_robin ⟨Nat.le_of_ble_eq_true rfl, Nat.le_of_ble_eq_true rfl⟩ (show 32 < 41 by decide) rfl (ci := 11) rfl rfl (Nat.le_of_ble_eq_true rfl) dL_law_337 ?_
              refine cw_pop dL_law_340 rfl ?_
              refine cw_aload_n dL_law_341 3 rfl rfl ?_
              refine cw_iload dL_law_342 0 rfl ?_
              obtain ⟨v_344, J_344, hc_344, h⟩ := h
              refine cw_callV (o := 0) (As := [.int ((x6 / 128) - (x6 / 128) / x3 * x3)]) hc_344 okX10_roundRobin rfl gT_X10_roundRobin ⟨Nat.le_of_ble_eq_true rfl, Nat.le_of_ble_eq_true rfl⟩ (show 0 < 41 by decide) rfl (ci := 10) rfl rfl (Nat.le_of_ble_eq_true rfl) dL_law_344 ?_
              refine cw_iload_n dL_law_347 4 rfl rfl ?_
              refine cw_icmp_ne (tgt := 366) dL_law_348 (by decide) (fun q => ?_) (fun q => ?_)
              · have h := h.1 q
                refine cw_iconst (v := 0) dL_law_366 (by decide) ?_
                exact h.elim
              · have h := h.2 q
                refine cw_aload dL_law_351 6 rfl ?_
                obtain ⟨v_353, J_353, hc_353, h⟩ := h
                refine cw_callV (o := 32) (As := []) hc_353 okX11_agrees rfl gT_X11_agrees ⟨Nat.le_of_ble_eq_true rfl, Nat.le_of_ble_eq_true rfl⟩ (show 32 < 41 by decide) rfl (ci := 11) rfl rfl (Nat.le_of_ble_eq_true rfl) dL_law_353 ?_
                refine cw_if_eq (tgt := 366) dL_law_356 (by decide) (fun q => ?_) (fun q => ?_)
                · have h := h.1 q
                  refine cw_iconst (v := 0) dL_law_366 (by decide) ?_
                  exact h.elim
                · have h := h.2 q
                  refine cw_aload_n dL_law_359 3 rfl rfl ?_
                  obtain ⟨v_360, J_360, hc_360, h⟩ := h
                  refine cw_callA (As := [.ref (cw_a (cp_w K) 0)]) hc_360 okL_isMildAll rfl gT_L_isMildAll ⟨Nat.le_of_ble_eq_true rfl, Nat.le_of_ble_eq_true rfl⟩ rfl (Nat.le_of_ble_eq_true rfl) dL_law_360 ?_
                  refine cw_if_ne (tgt := 620) dL_law_363 (by decide) (fun q => ?_) (fun q => ?_)
                  · have h := h.1 q
                    refine cw_sub [2, 3, 4, 5, 6, 7] rfl ?_
                    exact h
                  · have h := h.2 q
                    refine cw_iconst (v := 0) dL_law_366 (by decide) ?_
                    exact h.elim
            · have h := h.2 q
              refine cw_iconst (v := 0) dL_law_331 (by decide) ?_
              exact h.elim
      · have h := h.2 q
        refine cw_aload_n dL_law_228 3 rfl rfl ?_
        obtain ⟨v_229, J_229, hc_229, h⟩ := h
        refine cw_callV (o := 0) (As := []) hc_229 okX10_freeCount rfl gT_X10_freeCount ⟨Nat.le_of_ble_eq_true rfl, Nat.le_of_ble_eq_true rfl⟩ (show 0 < 41 by decide) rfl (ci := 10) rfl rfl (Nat.le_of_ble_eq_true rfl) dL_law_229 ?_
        refine cw_iload_n dL_law_232 4 rfl rfl ?_
        refine cw_icmp_ne (tgt := 240) dL_law_233 (by decide) (fun q => ?_) (fun q => ?_)
        · have h := h.1 q
          refine cw_iconst (v := 0) dL_law_240 (by decide) ?_
          refine cw_istore dL_law_241 (by decide) rfl ?_
          refine cw_aload dL_law_243 7 rfl ?_
          refine cw_iload dL_law_245 2 rfl ?_
          obtain ⟨v_247, J_247, hc_247, h⟩ := h
          refine cw_callV (o := 32) (As := [.int ((x6 / 16) - (x6 / 16) / x3 * x3)]) hc_247 okX11_robin rfl gT_X11_robin ⟨Nat.le_of_ble_eq_true rfl, Nat.le_of_ble_eq_true rfl⟩ (show 32 < 41 by decide) rfl (ci := 11) rfl rfl (Nat.le_of_ble_eq_true rfl) dL_law_247 ?_
          refine cw_istore dL_law_250 (by decide) rfl ?_
          refine cw_aload_n dL_law_252 5 rfl rfl ?_
          refine cw_iload dL_law_253 3 rfl ?_
          obtain ⟨v_255, J_255, hc_255, h⟩ := h
          refine cw_callV (o := 0) (As := [.int ((x6 / 16) - (x6 / 16) / x3 * x3)]) hc_255 okX10_roundRobin rfl gT_X10_roundRobin ⟨Nat.le_of_ble_eq_true rfl, Nat.le_of_ble_eq_true rfl⟩ (show 0 < 41 by decide) rfl (ci := 10) rfl rfl (Nat.le_of_ble_eq_true rfl) dL_law_255 ?_
          refine cw_iload dL_law_258 0 rfl ?_
          refine cw_icmp_ne (tgt := 290) dL_law_260 (by decide) (fun q => ?_) (fun q => ?_)
          · have h := h.1 q
            refine cw_iconst (v := 0) dL_law_290 (by decide) ?_
            exact h.elim
          · have h := h.2 q
            refine cw_aload dL_law_263 8 rfl ?_
            obtain ⟨v_265, J_265, hc_265, h⟩ := h
            refine cw_callV (o := 32) (As := []) hc_265 okX11_agrees rfl gT_X11_agrees ⟨Nat.le_of_ble_eq_true rfl, Nat.le_of_ble_eq_true rfl⟩ (show 32 < 41 by decide) rfl (ci := 11) rfl rfl (Nat.le_of_ble_eq_true rfl) dL_law_265 ?_
            refine cw_if_eq (tgt := 290) dL_law_268 (by decide) (fun q => ?_) (fun q => ?_)
            · have h := h.1 q
              refine cw_iconst (v := 0) dL_law_290 (by decide) ?_
              exact h.elim
            · have h := h.2 q
              refine cw_aload_n dL_law_271 5 rfl rfl ?_
              obtain ⟨v_272, J_272, hc_272, h⟩ := h
              refine cw_callV (o := 0) (As := []) hc_272 okX10_freeCount rfl gT_X10_freeCount ⟨Nat.le_of_ble_eq_true rfl, Nat.le_of_ble_eq_true rfl⟩ (show 0 < 41 by decide) rfl (ci := 10) rfl rfl (Nat.le_of_ble_eq_true rfl) dL_law_272 ?_
              refine cw_if_ne (tgt := 290) dL_law_275 (by decide) (fun q => ?_) (fun q => ?_)
              · have h := h.1 q
                refine cw_iconst (v := 0) dL_law_290 (by decide) ?_
                exact h.elim
              · have h := h.2 q
                refine cw_iload dL_law_278 1 rfl ?_
                refine cw_if_eq (tgt := 292) dL_law_280 (by decide) (fun _ => ?_) (fun q => absurd q (by decide))
                refine cw_goto (tgt := 620) dL_law_292 (by decide) ?_
                refine cw_sub [4, 5, 6, 7, 8, 9] rfl ?_
                exact h
        · have h := h.2 q
          refine cw_iconst (v := 1) dL_law_236 (by decide) ?_
          refine cw_goto (tgt := 241) dL_law_237 (by decide) ?_
          refine cw_istore dL_law_241 (by decide) rfl ?_
          refine cw_aload dL_law_243 7 rfl ?_
          refine cw_iload dL_law_245 2 rfl ?_
          obtain ⟨v_247, J_247, hc_247, h⟩ := h
          refine cw_callV (o := 32) (As := [.int ((x6 / 16) - (x6 / 16) / x3 * x3)]) hc_247 okX11_robin rfl gT_X11_robin ⟨Nat.le_of_ble_eq_true rfl, Nat.le_of_ble_eq_true rfl⟩ (show 32 < 41 by decide) rfl (ci := 11) rfl rfl (Nat.le_of_ble_eq_true rfl) dL_law_247 ?_
          refine cw_istore dL_law_250 (by decide) rfl ?_
          refine cw_aload_n dL_law_252 5 rfl rfl ?_
          refine cw_iload dL_law_253 3 rfl ?_
          obtain ⟨v_255, J_255, hc_255, h⟩ := h
          refine cw_callV (o := 0) (As := [.int ((x6 / 16) - (x6 / 16) / x3 * x3)]) hc_255 okX10_roundRobin rfl gT_X10_roundRobin ⟨Nat.le_of_ble_eq_true rfl, Nat.le_of_ble_eq_true rfl⟩ (show 0 < 41 by decide) rfl (ci := 10) rfl rfl (Nat.le_of_ble_eq_true rfl) dL_law_255 ?_
          refine cw_iload dL_law_258 0 rfl ?_
          refine cw_icmp_ne (tgt := 290) dL_law_260 (by decide) (fun q => ?_) (fun q => ?_)
          · have h := h.1 q
            refine cw_iconst (v := 0) dL_law_290 (by decide) ?_
            exact h.elim
          · have h := h.2 q
            refine cw_aload dL_law_263 8 rfl ?_
            obtain ⟨v_265, J_265, hc_265, h⟩ := h
            refine cw_callV (o := 32) (As := []) hc_265 okX11_agrees rfl gT_X11_agrees ⟨Nat.le_of_ble_eq_true rfl, Nat.le_of_ble_eq_true rfl⟩ (show 32 < 41 by decide) rfl (ci := 11) rfl rfl (Nat.le_of_ble_eq_true rfl) dL_law_265 ?_
            refine cw_if_eq (tgt := 290) dL_law_268 (by decide) (fun q => ?_) (fun q => ?_)
            · have h := h.1 q
              refine cw_iconst (v := 0) dL_law_290 (by decide) ?_
              exact h.elim
            · have h := h.2 q
              refine cw_aload_n dL_law_271 5 rfl rfl ?_
              obtain ⟨v_272, J_272, hc_272, h⟩ := h
              refine cw_callV (o := 0) (As := []) hc_272 okX10_freeCount rfl gT_X10_freeCount ⟨Nat.le_of_ble_eq_true rfl, Nat.le_of_ble_eq_true rfl⟩ (show 0 < 41 by decide) rfl (ci := 10) rfl rfl (Nat.le_of_ble_eq_true rfl) dL_law_272 ?_
              refine cw_if_ne (tgt := 290) dL_law_275 (by decide) (fun q => ?_) (fun q => ?_)
              · have h := h.1 q
                refine cw_iconst (v := 0) dL_law_290 (by decide) ?_
                exact h.elim
              · have h := h.2 q
                refine cw_iload dL_law_278 1 rfl ?_
                refine cw_if_eq (tgt := 292) dL_law_280 (by decide) (fun q => absurd q (by decide)) (fun _ => ?_)
                refine cw_aload_n dL_law_283 5 rfl rfl ?_
                obtain ⟨v_284, J_284, hc_284, h⟩ := h
                refine cw_callA (As := [.ref (cw_a (cp_w K) 0)]) hc_284 okL_isMildAll rfl gT_L_isMildAll ⟨Nat.le_of_ble_eq_true rfl, Nat.le_of_ble_eq_true rfl⟩ rfl (Nat.le_of_ble_eq_true rfl) dL_law_284 ?_
                refine cw_if_ne (tgt := 292) dL_law_287 (by decide) (fun q => ?_) (fun q => ?_)
                · have h := h.1 q
                  refine cw_goto (tgt := 620) dL_law_292 (by decide) ?_
                  refine cw_sub [4, 5, 6, 7, 8, 9] rfl ?_
                  exact h
                · have h := h.2 q
                  refine cw_iconst (v := 0) dL_law_290 (by decide) ?_
                  exact h.elim
    · have h := h.2 q
      refine cw_aload dL_law_193 6 rfl ?_
      obtain ⟨g_195, h⟩ := h
      obtain ⟨J_195, hc_195, h⟩ := h
      refine cw_callVN g_195 (o := 32) (As := []) hc_195 okX11_knife rfl gT_X11_knife ⟨Nat.le_of_ble_eq_true rfl, Nat.le_of_ble_eq_true rfl⟩ (show 32 < 41 by decide) rfl (ci := 11) rfl rfl (Nat.le_of_ble_eq_true rfl) dL_law_195 ?_
      refine cw_aload_n dL_law_198 3 rfl rfl ?_
      obtain ⟨v_199, J_199, hc_199, h⟩ := h
      refine cw_callV (o := 0) (As := []) hc_199 okX10_movingKnife rfl gT_X10_movingKnife ⟨Nat.le_of_ble_eq_true rfl, Nat.le_of_ble_eq_true rfl⟩ (show 0 < 41 by decide) rfl (ci := 10) rfl rfl (Nat.le_of_ble_eq_true rfl) dL_law_199 ?_
      refine cw_aload dL_law_202 6 rfl ?_
      obtain ⟨v_204, J_204, hc_204, h⟩ := h
      refine cw_callV (o := 32) (As := []) hc_204 okX11_satisfied rfl gT_X11_satisfied ⟨Nat.le_of_ble_eq_true rfl, Nat.le_of_ble_eq_true rfl⟩ (show 32 < 41 by decide) rfl (ci := 11) rfl rfl (Nat.le_of_ble_eq_true rfl) dL_law_204 ?_
      refine cw_icmp_ne (tgt := 218) dL_law_207 (by decide) (fun q => ?_) (fun q => ?_)
      · have h := h.1 q
        refine cw_iconst (v := 0) dL_law_218 (by decide) ?_
        exact h.elim
      · have h := h.2 q
        refine cw_aload dL_law_210 6 rfl ?_
        obtain ⟨v_212, J_212, hc_212, h⟩ := h
        refine cw_callV (o := 32) (As := []) hc_212 okX11_agrees rfl gT_X11_agrees ⟨Nat.le_of_ble_eq_true rfl, Nat.le_of_ble_eq_true rfl⟩ (show 32 < 41 by decide) rfl (ci := 11) rfl rfl (Nat.le_of_ble_eq_true rfl) dL_law_212 ?_
        refine cw_if_ne (tgt := 620) dL_law_215 (by decide) (fun q => ?_) (fun q => ?_)
        · have h := h.1 q
          refine cw_sub [2, 3, 4, 5, 6, 7] rfl ?_
          exact h
        · have h := h.2 q
          refine cw_iconst (v := 0) dL_law_218 (by decide) ?_
          exact h.elim
  · have h := h.2 q
    refine cw_iload dL_law_130 1 rfl ?_
    refine cw_iload dL_law_132 0 rfl ?_
    refine cw_icmp_eq (tgt := 185) dL_law_134 (by decide) (fun q => ?_) (fun q => ?_)
    · have h := h.1 q
      refine cw_iload dL_law_185 8 rfl ?_
      refine cw_iconst (v := 5) dL_law_187 (by decide) ?_
      refine cw_irem dL_law_188 (by decide) ?_
      refine cw_iconst (v := 1) dL_law_189 (by decide) ?_
      refine cw_icmp_ne (tgt := 220) dL_law_190 (by decide) (fun q => ?_) (fun q => ?_)
      · have h := h.1 q
        refine cw_iload dL_law_220 8 rfl ?_
        refine cw_iconst (v := 5) dL_law_222 (by decide) ?_
        refine cw_irem dL_law_223 (by decide) ?_
        refine cw_iconst (v := 2) dL_law_224 (by decide) ?_
        refine cw_icmp_ne (tgt := 295) dL_law_225 (by decide) (fun q => ?_) (fun q => ?_)
        · have h := h.1 q
          refine cw_iload dL_law_295 8 rfl ?_
          refine cw_iconst (v := 5) dL_law_297 (by decide) ?_
          refine cw_irem dL_law_298 (by decide) ?_
          refine cw_iconst (v := 3) dL_law_299 (by decide) ?_
          refine cw_icmp_ne (tgt := 368) dL_law_300 (by decide) (fun q => ?_) (fun q => ?_)
          · have h := h.1 q
            refine cw_aload_n dL_law_368 3 rfl rfl ?_
            refine cw_iload dL_law_369 1 rfl ?_
            obtain ⟨v_371, J_371, hc_371, h⟩ := h
            refine cw_callV (o := 0) (As := [.int ((x6 / 16) - (x6 / 16) / x3 * x3)]) hc_371 okX10_envyCycleLength rfl gT_X10_envyCycleLength ⟨Nat.le_of_ble_eq_true rfl, Nat.le_of_ble_eq_true rfl⟩ (show 0 < 41 by decide) rfl (ci := 10) rfl rfl (Nat.le_of_ble_eq_true rfl) dL_law_371 ?_
            refine cw_if_le (tgt := 620) dL_law_374 (by decide) (fun q => ?_) (fun q => ?_)
            · have h := h.1 q
              refine cw_sub [2, 3, 4, 5, 6, 7] rfl ?_
              exact h
            · have h := h.2 q
              refine cw_aload_n dL_law_377 3 rfl rfl ?_
              refine cw_iload dL_law_378 1 rfl ?_
              obtain ⟨v_380, J_380, hc_380, h⟩ := h
              refine cw_callV (o := 0) (As := [.int ((x6 / 16) - (x6 / 16) / x3 * x3)]) hc_380 okX10_envyCycleLength rfl gT_X10_envyCycleLength ⟨Nat.le_of_ble_eq_true rfl, Nat.le_of_ble_eq_true rfl⟩ (show 0 < 41 by decide) rfl (ci := 10) rfl rfl (Nat.le_of_ble_eq_true rfl) dL_law_380 ?_
              refine cw_istore dL_law_383 (by decide) rfl ?_
              refine cw_bipush (v := 6) dL_law_385 (by decide) ?_
              obtain ⟨g_387, h⟩ := h
              refine cw_newi (w' := fun q_387 => ca_w (kset K 41 q_387)) (N := 6) (cA := K.2.2.1 0) (fun q_387 => xa_ext _ q_387) 0 rfl lwm_ai rfl (by decide) g_387 dL_law_387 (fun q_387 => ?_)
              have h := h q_387
              refine cw_astore dL_law_389 (by decide) rfl ?_
              refine cw_bipush (v := 6) dL_law_391 (by decide) ?_
              obtain ⟨g_393, h⟩ := h
              refine cw_newi (w' := fun q_393 => cb_w (kset (kset K 41 q_387) 42 q_393)) (N := 6) (cA := K.2.2.1 0) (fun q_393 => xb_ext _ q_393) 0 rfl lwm_ai rfl (by decide) g_393 dL_law_393 (fun q_393 => ?_)
              have h := h q_393
              refine cw_astore dL_law_395 (by decide) rfl ?_
              refine cw_iconst (v := 0) dL_law_397 (by decide) ?_
              refine cw_istore dL_law_398 (by decide) rfl ?_
              refine cw_sub [6, 7, 8, 9, 10, 11, 5, 3, 2, 1, 0] rfl ?_
              exact h
          · have h := h.2 q
            refine cw_aload dL_law_303 6 rfl ?_
            refine cw_iconst (v := (-1)) dL_law_305 (by decide) ?_
            refine cw_iconst (v := 0) dL_law_306 (by decide) ?_
            refine cw_iload_n dL_law_307 4 rfl rfl ?_
            obtain ⟨J_308, hc_308, h⟩ := h
            refine cw_callV (o := 32) (As := [.int (-1), .int 0, .int x2]) hc_308 okX11_fill rfl gT_X11_fill ⟨Nat.le_of_ble_eq_true rfl, Nat.le_of_ble_eq_true rfl⟩ (show 32 < 41 by decide) rfl (ci := 11) rfl rfl (Nat.le_of_ble_eq_true rfl) dL_law_308 ?_
            refine cw_aload_n dL_law_311 3 rfl rfl ?_
            refine cw_iconst (v := 0) dL_law_312 (by decide) ?_
            refine cw_iload_n dL_law_313 4 rfl rfl ?_
            refine cw_iconst (v := 1) dL_law_314 (by decide) ?_
            refine cw_isub dL_law_315 ?_
            obtain ⟨v_316, J_316, hc_316, h⟩ := h
            refine cw_callV (o := 0) (As := [.int 0, .int (x2 - 1)]) hc_316 okX10_release rfl gT_X10_release ⟨Nat.le_of_ble_eq_true rfl, Nat.le_of_ble_eq_true rfl⟩ (show 0 < 41 by decide) rfl (ci := 10) rfl rfl (Nat.le_of_ble_eq_true rfl) dL_law_316 ?_
            refine cw_iload_n dL_law_319 4 rfl rfl ?_
            refine cw_icmp_ne (tgt := 331) dL_law_320 (by decide) (fun q => ?_) (fun q => ?_)
            · have h := h.1 q
              refine cw_iconst (v := 0) dL_law_331 (by decide) ?_
              exact h.elim
            · have h := h.2 q
              refine cw_aload dL_law_323 6 rfl ?_
              obtain ⟨v_325, J_325, hc_325, h⟩ := h
              refine cw_callV (o := 32) (As := []) hc_325 okX11_agrees rfl gT_X11_agrees ⟨Nat.le_of_ble_eq_true rfl, Nat.le_of_ble_eq_true rfl⟩ (show 32 < 41 by decide) rfl (ci := 11) rfl rfl (Nat.le_of_ble_eq_true rfl) dL_law_325 ?_
              refine cw_if_ne (tgt := 333) dL_law_328 (by decide) (fun q => ?_) (fun q => ?_)
              · have h := h.1 q
                refine cw_aload dL_law_333 6 rfl ?_
                refine cw_iload dL_law_335 0 rfl ?_
                obtain ⟨v_337, J_337, hc_337, h⟩ := h
                refine cw_callV (o := 32) (As := [.int ((x6 / 128) - (x6 / 128) / x3 * x3)]) hc_337 okX11_robin rfl gT_X11_robin ⟨Nat.le_of_ble_eq_true rfl, Nat.le_of_ble_eq_true rfl⟩ (show 32 < 41 by decide) rfl (ci := 11) rfl rfl (Nat.le_of_ble_eq_true rfl) dL_law_337 ?_
                refine cw_pop dL_law_340 rfl ?_
                refine cw_aload_n dL_law_341 3 rfl rfl ?_
                refine cw_iload dL_law_342 0 rfl ?_
                obtain ⟨v_344, J_344, hc_344, h⟩ := h
                refine cw_callV (o := 0) (As := [.int ((x6 / 128) - (x6 / 128) / x3 * x3)]) hc_344 okX10_roundRobin rfl gT_X10_roundRobin ⟨Nat.le_of_ble_eq_true rfl, Nat.le_of_ble_eq_true rfl⟩ (show 0 < 41 by decide) rfl (ci := 10) rfl rfl (Nat.le_of_ble_eq_true rfl) dL_law_344 ?_
                refine cw_iload_n dL_law_347 4 rfl rfl ?_
                refine cw_icmp_ne (tgt := 366) dL_law_348 (by decide) (fun q => ?_) (fun q => ?_)
                · have h := h.1 q
                  refine cw_iconst (v := 0) dL_law_366 (by decide) ?_
                  exact h.elim
                · have h := h.2 q
                  refine cw_aload dL_law_351 6 rfl ?_
                  obtain ⟨v_353, J_353, hc_353, h⟩ := h
                  refine cw_callV (o := 32) (As := []) hc_353 okX11_agrees rfl gT_X11_agrees ⟨Nat.le_of_ble_eq_true rfl, Nat.le_of_ble_eq_true rfl⟩ (show 32 < 41 by decide) rfl (ci := 11) rfl rfl (Nat.le_of_ble_eq_true rfl) dL_law_353 ?_
                  refine cw_if_eq (tgt := 366) dL_law_356 (by decide) (fun q => ?_) (fun q => ?_)
                  · have h := h.1 q
                    refine cw_iconst (v := 0) dL_law_366 (by decide) ?_
                    exact h.elim
                  · have h := h.2 q
                    refine cw_aload_n dL_law_359 3 rfl rfl ?_
                    obtain ⟨v_360, J_360, hc_360, h⟩ := h
                    refine cw_callA (As := [.ref (cw_a (cp_w K) 0)]) hc_360 okL_isMildAll rfl gT_L_isMildAll ⟨Nat.le_of_ble_eq_true rfl, Nat.le_of_ble_eq_true rfl⟩ rfl (Nat.le_of_ble_eq_true rfl) dL_law_360 ?_
                    refine cw_if_ne (tgt := 620) dL_law_363 (by decide) (fun q => ?_) (fun q => ?_)
                    · have h := h.1 q
                      refine cw_sub [2, 3, 4, 5, 6, 7] rfl ?_
                      exact h
                    · have h := h.2 q
                      refine cw_iconst (v := 0) dL_law_366 (by decide) ?_
                      exact h.elim
              · have h := h.2 q
                refine cw_iconst (v := 0) dL_law_331 (by decide) ?_
                exact h.elim
        · have h := h.2 q
          refine cw_aload_n dL_law_228 3 rfl rfl ?_
          obtain ⟨v_229, J_229, hc_229, h⟩ := h
          refine cw_callV (o := 0) (As := []) hc_229 okX10_freeCount rfl gT_X10_freeCount ⟨Nat.le_of_ble_eq_true rfl, Nat.le_of_ble_eq_true rfl⟩ (show 0 < 41 by decide) rfl (ci := 10) rfl rfl (Nat.le_of_ble_eq_true rfl) dL_law_229 ?_
          refine cw_iload_n dL_law_232 4 rfl rfl ?_
          refine cw_icmp_ne (tgt := 240) dL_law_233 (by decide) (fun q => ?_) (fun q => ?_)
          · have h := h.1 q
            refine cw_iconst (v := 0) dL_law_240 (by decide) ?_
            refine cw_istore dL_law_241 (by decide) rfl ?_
            refine cw_aload dL_law_243 7 rfl ?_
            refine cw_iload dL_law_245 2 rfl ?_
            obtain ⟨v_247, J_247, hc_247, h⟩ := h
            refine cw_callV (o := 32) (As := [.int ((x6 / 16) - (x6 / 16) / x3 * x3)]) hc_247 okX11_robin rfl gT_X11_robin ⟨Nat.le_of_ble_eq_true rfl, Nat.le_of_ble_eq_true rfl⟩ (show 32 < 41 by decide) rfl (ci := 11) rfl rfl (Nat.le_of_ble_eq_true rfl) dL_law_247 ?_
            refine cw_istore dL_law_250 (by decide) rfl ?_
            refine cw_aload_n dL_law_252 5 rfl rfl ?_
            refine cw_iload dL_law_253 3 rfl ?_
            obtain ⟨v_255, J_255, hc_255, h⟩ := h
            refine cw_callV (o := 0) (As := [.int ((x6 / 16) - (x6 / 16) / x3 * x3)]) hc_255 okX10_roundRobin rfl gT_X10_roundRobin ⟨Nat.le_of_ble_eq_true rfl, Nat.le_of_ble_eq_true rfl⟩ (show 0 < 41 by decide) rfl (ci := 10) rfl rfl (Nat.le_of_ble_eq_true rfl) dL_law_255 ?_
            refine cw_iload dL_law_258 0 rfl ?_
            refine cw_icmp_ne (tgt := 290) dL_law_260 (by decide) (fun q => ?_) (fun q => ?_)
            · have h := h.1 q
              refine cw_iconst (v := 0) dL_law_290 (by decide) ?_
              exact h.elim
            · have h := h.2 q
              refine cw_aload dL_law_263 8 rfl ?_
              obtain ⟨v_265, J_265, hc_265, h⟩ := h
              refine cw_callV (o := 32) (As := []) hc_265 okX11_agrees rfl gT_X11_agrees ⟨Nat.le_of_ble_eq_true rfl, Nat.le_of_ble_eq_true rfl⟩ (show 32 < 41 by decide) rfl (ci := 11) rfl rfl (Nat.le_of_ble_eq_true rfl) dL_law_265 ?_
              refine cw_if_eq (tgt := 290) dL_law_268 (by decide) (fun q => ?_) (fun q => ?_)
              · have h := h.1 q
                refine cw_iconst (v := 0) dL_law_290 (by decide) ?_
                exact h.elim
              · have h := h.2 q
                refine cw_aload_n dL_law_271 5 rfl rfl ?_
                obtain ⟨v_272, J_272, hc_272, h⟩ := h
                refine cw_callV (o := 0) (As := []) hc_272 okX10_freeCount rfl gT_X10_freeCount ⟨Nat.le_of_ble_eq_true rfl, Nat.le_of_ble_eq_true rfl⟩ (show 0 < 41 by decide) rfl (ci := 10) rfl rfl (Nat.le_of_ble_eq_true rfl) dL_law_272 ?_
                refine cw_if_ne (tgt := 290) dL_law_275 (by decide) (fun q => ?_) (fun q => ?_)
                · have h := h.1 q
                  refine cw_iconst (v := 0) dL_law_290 (by decide) ?_
                  exact h.elim
                · have h := h.2 q
                  refine cw_iload dL_law_278 1 rfl ?_
                  refine cw_if_eq (tgt := 292) dL_law_280 (by decide) (fun _ => ?_) (fun q => absurd q (by decide))
                  refine cw_goto (tgt := 620) dL_law_292 (by decide) ?_
                  refine cw_sub [4, 5, 6, 7, 8, 9] rfl ?_
                  exact h
          · have h := h.2 q
            refine cw_iconst (v := 1) dL_law_236 (by decide) ?_
            refine cw_goto (tgt := 241) dL_law_237 (by decide) ?_
            refine cw_istore dL_law_241 (by decide) rfl ?_
            refine cw_aload dL_law_243 7 rfl ?_
            refine cw_iload dL_law_245 2 rfl ?_
            obtain ⟨v_247, J_247, hc_247, h⟩ := h
            refine cw_callV (o := 32) (As := [.int ((x6 / 16) - (x6 / 16) / x3 * x3)]) hc_247 okX11_robin rfl gT_X11_robin ⟨Nat.le_of_ble_eq_true rfl, Nat.le_of_ble_eq_true rfl⟩ (show 32 < 41 by decide) rfl (ci := 11) rfl rfl (Nat.le_of_ble_eq_true rfl) dL_law_247 ?_
            refine cw_istore dL_law_250 (by decide) rfl ?_
            refine cw_aload_n dL_law_252 5 rfl rfl ?_
            refine cw_iload dL_law_253 3 rfl ?_
            obtain ⟨v_255, J_255, hc_255, h⟩ := h
            refine cw_callV (o := 0) (As := [.int ((x6 / 16) - (x6 / 16) / x3 * x3)]) hc_255 okX10_roundRobin rfl gT_X10_roundRobin ⟨Nat.le_of_ble_eq_true rfl, Nat.le_of_ble_eq_true rfl⟩ (show 0 < 41 by decide) rfl (ci := 10) rfl rfl (Nat.le_of_ble_eq_true rfl) dL_law_255 ?_
            refine cw_iload dL_law_258 0 rfl ?_
            refine cw_icmp_ne (tgt := 290) dL_law_260 (by decide) (fun q => ?_) (fun q => ?_)
            · have h := h.1 q
              refine cw_iconst (v := 0) dL_law_290 (by decide) ?_
              exact h.elim
            · have h := h.2 q
              refine cw_aload dL_law_263 8 rfl ?_
              obtain ⟨v_265, J_265, hc_265, h⟩ := h
              refine cw_callV (o := 32) (As := []) hc_265 okX11_agrees rfl gT_X11_agrees ⟨Nat.le_of_ble_eq_true rfl, Nat.le_of_ble_eq_true rfl⟩ (show 32 < 41 by decide) rfl (ci := 11) rfl rfl (Nat.le_of_ble_eq_true rfl) dL_law_265 ?_
              refine cw_if_eq (tgt := 290) dL_law_268 (by decide) (fun q => ?_) (fun q => ?_)
              · have h := h.1 q
                refine cw_iconst (v := 0) dL_law_290 (by decide) ?_
                exact h.elim
              · have h := h.2 q
                refine cw_aload_n dL_law_271 5 rfl rfl ?_
                obtain ⟨v_272, J_272, hc_272, h⟩ := h
                refine cw_callV (o := 0) (As := []) hc_272 okX10_freeCount rfl gT_X10_freeCount ⟨Nat.le_of_ble_eq_true rfl, Nat.le_of_ble_eq_true rfl⟩ (show 0 < 41 by decide) rfl (ci := 10) rfl rfl (Nat.le_of_ble_eq_true rfl) dL_law_272 ?_
                refine cw_if_ne (tgt := 290) dL_law_275 (by decide) (fun q => ?_) (fun q => ?_)
                · have h := h.1 q
                  refine cw_iconst (v := 0) dL_law_290 (by decide) ?_
                  exact h.elim
                · have h := h.2 q
                  refine cw_iload dL_law_278 1 rfl ?_
                  refine cw_if_eq (tgt := 292) dL_law_280 (by decide) (fun q => absurd q (by decide)) (fun _ => ?_)
                  refine cw_aload_n dL_law_283 5 rfl rfl ?_
                  obtain ⟨v_284, J_284, hc_284, h⟩ := h
                  refine cw_callA (As := [.ref (cw_a (cp_w K) 0)]) hc_284 okL_isMildAll rfl gT_L_isMildAll ⟨Nat.le_of_ble_eq_true rfl, Nat.le_of_ble_eq_true rfl⟩ rfl (Nat.le_of_ble_eq_true rfl) dL_law_284 ?_
                  refine cw_if_ne (tgt := 292) dL_law_287 (by decide) (fun q => ?_) (fun q => ?_)
                  · have h := h.1 q
                    refine cw_goto (tgt := 620) dL_law_292 (by decide) ?_
                    refine cw_sub [4, 5, 6, 7, 8, 9] rfl ?_
                    exact h
                  · have h := h.2 q
                    refine cw_iconst (v := 0) dL_law_290 (by decide) ?_
                    exact h.elim
      · have h := h.2 q
        refine cw_aload dL_law_193 6 rfl ?_
        obtain ⟨g_195, h⟩ := h
        obtain ⟨J_195, hc_195, h⟩ := h
        refine cw_callVN g_195 (o := 32) (As := []) hc_195 okX11_knife rfl gT_X11_knife ⟨Nat.le_of_ble_eq_true rfl, Nat.le_of_ble_eq_true rfl⟩ (show 32 < 41 by decide) rfl (ci := 11) rfl rfl (Nat.le_of_ble_eq_true rfl) dL_law_195 ?_
        refine cw_aload_n dL_law_198 3 rfl rfl ?_
        obtain ⟨v_199, J_199, hc_199, h⟩ := h
        refine cw_callV (o := 0) (As := []) hc_199 okX10_movingKnife rfl gT_X10_movingKnife ⟨Nat.le_of_ble_eq_true rfl, Nat.le_of_ble_eq_true rfl⟩ (show 0 < 41 by decide) rfl (ci := 10) rfl rfl (Nat.le_of_ble_eq_true rfl) dL_law_199 ?_
        refine cw_aload dL_law_202 6 rfl ?_
        obtain ⟨v_204, J_204, hc_204, h⟩ := h
        refine cw_callV (o := 32) (As := []) hc_204 okX11_satisfied rfl gT_X11_satisfied ⟨Nat.le_of_ble_eq_true rfl, Nat.le_of_ble_eq_true rfl⟩ (show 32 < 41 by decide) rfl (ci := 11) rfl rfl (Nat.le_of_ble_eq_true rfl) dL_law_204 ?_
        refine cw_icmp_ne (tgt := 218) dL_law_207 (by decide) (fun q => ?_) (fun q => ?_)
        · have h := h.1 q
          refine cw_iconst (v := 0) dL_law_218 (by decide) ?_
          exact h.elim
        · have h := h.2 q
          refine cw_aload dL_law_210 6 rfl ?_
          obtain ⟨v_212, J_212, hc_212, h⟩ := h
          refine cw_callV (o := 32) (As := []) hc_212 okX11_agrees rfl gT_X11_agrees ⟨Nat.le_of_ble_eq_true rfl, Nat.le_of_ble_eq_true rfl⟩ (show 32 < 41 by decide) rfl (ci := 11) rfl rfl (Nat.le_of_ble_eq_true rfl) dL_law_212 ?_
          refine cw_if_ne (tgt := 620) dL_law_215 (by decide) (fun q => ?_) (fun q => ?_)
          · have h := h.1 q
            refine cw_sub [2, 3, 4, 5, 6, 7] rfl ?_
            exact h
          · have h := h.2 q
            refine cw_iconst (v := 0) dL_law_218 (by decide) ?_
            exact h.elim
    · have h := h.2 q
      refine cw_aload dL_law_137 6 rfl ?_
      refine cw_iload dL_law_139 1 rfl ?_
      refine cw_iload dL_law_141 0 rfl ?_
      obtain ⟨v_143, J_143, hc_143, h⟩ := h
      refine cw_callV (o := 32) (As := [.int ((x6 / 16) - (x6 / 16) / x3 * x3), .int ((x6 / 128) - (x6 / 128) / x3 * x3)]) hc_143 okX11_divide rfl gT_X11_divide ⟨Nat.le_of_ble_eq_true rfl, Nat.le_of_ble_eq_true rfl⟩ (show 32 < 41 by decide) rfl (ci := 11) rfl rfl (Nat.le_of_ble_eq_true rfl) dL_law_143 ?_
      refine cw_istore dL_law_146 (by decide) rfl ?_
      refine cw_aload_n dL_law_148 4 rfl rfl ?_
      refine cw_iload dL_law_149 2 rfl ?_
      refine cw_iload dL_law_151 1 rfl ?_
      obtain ⟨v_153, J_153, hc_153, h⟩ := h
      refine cw_callV (o := 0) (As := [.int ((x6 / 16) - (x6 / 16) / x3 * x3), .int ((x6 / 128) - (x6 / 128) / x3 * x3)]) hc_153 okX10_divideAndChoose rfl gT_X10_divideAndChoose ⟨Nat.le_of_ble_eq_true rfl, Nat.le_of_ble_eq_true rfl⟩ (show 0 < 41 by decide) rfl (ci := 10) rfl rfl (Nat.le_of_ble_eq_true rfl) dL_law_153 ?_
      refine cw_iload dL_law_156 0 rfl ?_
      refine cw_icmp_ne (tgt := 180) dL_law_158 (by decide) (fun q => ?_) (fun q => ?_)
      · have h := h.1 q
        refine cw_iconst (v := 0) dL_law_180 (by decide) ?_
        exact h.elim
      · have h := h.2 q
        refine cw_aload dL_law_161 7 rfl ?_
        obtain ⟨v_163, J_163, hc_163, h⟩ := h
        refine cw_callV (o := 32) (As := []) hc_163 okX11_agrees rfl gT_X11_agrees ⟨Nat.le_of_ble_eq_true rfl, Nat.le_of_ble_eq_true rfl⟩ (show 32 < 41 by decide) rfl (ci := 11) rfl rfl (Nat.le_of_ble_eq_true rfl) dL_law_163 ?_
        refine cw_if_eq (tgt := 180) dL_law_166 (by decide) (fun q => ?_) (fun q => ?_)
        · have h := h.1 q
          refine cw_iconst (v := 0) dL_law_180 (by decide) ?_
          exact h.elim
        · have h := h.2 q
          refine cw_aload_n dL_law_169 4 rfl rfl ?_
          refine cw_iload dL_law_170 1 rfl ?_
          refine cw_iload dL_law_172 2 rfl ?_
          obtain ⟨v_174, J_174, hc_174, h⟩ := h
          refine cw_callV (o := 0) (As := [.int ((x6 / 128) - (x6 / 128) / x3 * x3), .int ((x6 / 16) - (x6 / 16) / x3 * x3)]) hc_174 okX10_envies rfl gT_X10_envies ⟨Nat.le_of_ble_eq_true rfl, Nat.le_of_ble_eq_true rfl⟩ (show 0 < 41 by decide) rfl (ci := 10) rfl rfl (Nat.le_of_ble_eq_true rfl) dL_law_174 ?_
          refine cw_if_eq (tgt := 182) dL_law_177 (by decide) (fun q => ?_) (fun q => ?_)
          · have h := h.1 q
            refine cw_goto (tgt := 620) dL_law_182 (by decide) ?_
            refine cw_sub [3, 4, 5, 6, 7, 8] rfl ?_
            exact h
          · have h := h.2 q
            refine cw_iconst (v := 0) dL_law_180 (by decide) ?_
            exact h.elim
set_option maxRecDepth 20000 in
set_option maxHeartbeats 4000000 in
theorem tbL_law_620 {K : cw_K} {sa u v : Nat} {Z : cw_Zt} {I : cw_M} {x2 : Int32} {x3 : Int32} {x5 : Int32} (h : bL_law_63 K sa Z u v x2 x3 (x5 + 1) I) : bL_law_620 K sa Z u v x2 x3 x5 I := by
  refine cw_iinc (v := x5 + 1) dL_law_620 (j := 5) rfl rfl (by decide) rfl ?_
  refine cw_goto (tgt := 63) dL_law_623 (by decide) ?_
  refine cw_sub [1, 2, 3, 4, 5, 0] rfl ?_
  exact h
set_option maxRecDepth 20000 in
set_option maxHeartbeats 4000000 in
theorem tbL_law_400 {K : cw_K} {sa u v : Nat} {Z : cw_Zt} {I : cw_M} {x2 : Int32} {x3 : Int32} {x5 : Int32} {x7 : Int32} {x9 : Int32} {x12 : Int32} (h : ((x9 ≤ x12 → bL_law_429 K sa Z u v x2 x3 x5 x7 x9 0 I) ∧ (¬ x9 ≤ x12 → (∃ (v_416 : Int32) (J_416 : cw_M), cw_C (cb_w K) mX10_envyCycleMember [.ref (cw_a (cb_w K) 0), .int x7, .int x12] I (some (.int v_416)) J_416 ∧ (vp_in x12 6 ∧ bL_law_400 K sa Z u v x2 x3 x5 x7 x9 (x12 + 1) (cw_st J_416 41 x12.toNatClampNeg v_416)))))) : bL_law_400 K sa Z u v x2 x3 x5 x7 x9 x12 I := by
  refine cw_iload dL_law_400 10 rfl ?_
  refine cw_iload dL_law_402 7 rfl ?_
  refine cw_icmp_ge (tgt := 426) dL_law_404 (by decide) (fun q => ?_) (fun q => ?_)
  · have h := h.1 q
    refine cw_iconst (v := 0) dL_law_426 (by decide) ?_
    refine cw_istore dL_law_427 (by decide) rfl ?_
    refine cw_sub [1, 2, 3, 4, 5, 6, 7, 8, 9, 10, 0] rfl ?_
    exact h
  · have h := h.2 q
    refine cw_aload dL_law_407 8 rfl ?_
    refine cw_iload dL_law_409 10 rfl ?_
    refine cw_aload_n dL_law_411 1 rfl rfl ?_
    refine cw_iload dL_law_412 6 rfl ?_
    refine cw_iload dL_law_414 10 rfl ?_
    obtain ⟨v_416, J_416, hc_416, h⟩ := h
    refine cw_callV (o := 0) (As := [.int x7, .int x12]) hc_416 okX10_envyCycleMember rfl gT_X10_envyCycleMember ⟨Nat.le_of_ble_eq_true rfl, Nat.le_of_ble_eq_true rfl⟩ (show 0 < 43 by decide) rfl (ci := 10) rfl rfl (Nat.le_of_ble_eq_true rfl) dL_law_416 ?_
    obtain ⟨g_419, h⟩ := h
    refine cw_iast 41 (show 41 < 43 by decide) (fun _ => rfl) 0 rfl dL_law_419 g_419 ?_
    refine cw_iinc (v := x12 + 1) dL_law_420 (j := 10) rfl rfl (by decide) rfl ?_
    refine cw_goto (tgt := 400) dL_law_423 (by decide) ?_
    refine cw_sub [1, 2, 3, 4, 5, 6, 7, 8, 9, 10, 0] rfl ?_
    exact h
set_option maxRecDepth 20000 in
set_option maxHeartbeats 4000000 in
theorem tbL_law_429 {K : cw_K} {sa u v : Nat} {Z : cw_Zt} {I : cw_M} {x2 : Int32} {x3 : Int32} {x5 : Int32} {x7 : Int32} {x9 : Int32} {x12 : Int32} (h : ((x9 ≤ x12 → ((u + 1 ≤ 600086 ∧ v + 24 ≤ 7301442) ∧ ∀ q_464 : Nat, bL_law_471 (kset K 43 q_464) sa Z (u + 1) (v + 24) x2 x3 x5 x7 x9 0 (cw_up I 43 (fun _ => 0)))) ∧ (¬ x9 ≤ x12 → (vp_in x12 6 ∧ (vp_in x12 6 ∧ (∃ (v_452 : Int32) (J_452 : cw_M), cw_C (cb_w K) mX11_worth [.ref (cw_a (cb_w K) 32), .int (I 41 x12.toNatClampNeg), .int (I 41 x12.toNatClampNeg)] I (some (.int v_452)) J_452 ∧ (vp_in x12 6 ∧ bL_law_429 K sa Z u v x2 x3 x5 x7 x9 (x12 + 1) (cw_st J_452 42 x12.toNatClampNeg v_452)))))))) : bL_law_429 K sa Z u v x2 x3 x5 x7 x9 x12 I := by
  refine cw_iload dL_law_429 10 rfl ?_
  refine cw_iload dL_law_431 7 rfl ?_
  refine cw_icmp_ge (tgt := 462) dL_law_433 (by decide) (fun q => ?_) (fun q => ?_)
  · have h := h.1 q
    refine cw_bipush (v := 24) dL_law_462 (by decide) ?_
    obtain ⟨g_464, h⟩ := h
    refine cw_newi (w' := fun q_464 => cd_w (kset K 43 q_464)) (N := 24) (cA := K.2.2.1 0) (fun q_464 => xd_ext _ q_464) 0 rfl lwm_ai rfl (by decide) g_464 dL_law_464 (fun q_464 => ?_)
    have h := h q_464
    refine cw_astore dL_law_466 (by decide) rfl ?_
    refine cw_iconst (v := 0) dL_law_468 (by decide) ?_
    refine cw_istore dL_law_469 (by decide) rfl ?_
    refine cw_sub [2, 3, 4, 5, 6, 7, 8, 9, 10, 11, 1, 0] rfl ?_
    exact h
  · have h := h.2 q
    refine cw_aload dL_law_436 9 rfl ?_
    refine cw_iload dL_law_438 10 rfl ?_
    refine cw_aload dL_law_440 4 rfl ?_
    refine cw_aload dL_law_442 8 rfl ?_
    refine cw_iload dL_law_444 10 rfl ?_
    obtain ⟨g_446, h⟩ := h
    refine cw_iald 41 (show 41 < 43 by decide) rfl 0 rfl dL_law_446 g_446 ?_
    refine cw_aload dL_law_447 8 rfl ?_
    refine cw_iload dL_law_449 10 rfl ?_
    obtain ⟨g_451, h⟩ := h
    refine cw_iald 41 (show 41 < 43 by decide) rfl 0 rfl dL_law_451 g_451 ?_
    obtain ⟨v_452, J_452, hc_452, h⟩ := h
    refine cw_callV (o := 32) (As := [.int (I 41 x12.toNatClampNeg), .int (I 41 x12.toNatClampNeg)]) hc_452 okX11_worth rfl gT_X11_worth ⟨Nat.le_of_ble_eq_true rfl, Nat.le_of_ble_eq_true rfl⟩ (show 32 < 43 by decide) rfl (ci := 11) rfl rfl (Nat.le_of_ble_eq_true rfl) dL_law_452 ?_
    obtain ⟨g_455, h⟩ := h
    refine cw_iast 42 (show 42 < 43 by decide) (fun _ => rfl) 0 rfl dL_law_455 g_455 ?_
    refine cw_iinc (v := x12 + 1) dL_law_456 (j := 10) rfl rfl (by decide) rfl ?_
    refine cw_goto (tgt := 429) dL_law_459 (by decide) ?_
    refine cw_sub [1, 2, 3, 4, 5, 6, 7, 8, 9, 10, 0] rfl ?_
    exact h
set_option maxRecDepth 20000 in
set_option maxHeartbeats 4000000 in
theorem tbL_law_471 {K : cw_K} {sa u v : Nat} {Z : cw_Zt} {I : cw_M} {x2 : Int32} {x3 : Int32} {x5 : Int32} {x7 : Int32} {x9 : Int32} {x13 : Int32} (h : ((x2 ≤ x13 → bL_law_499 K sa Z u v x2 x3 x5 x7 x9 0 I) ∧ (¬ x2 ≤ x13 → (vp_in x13 24 ∧ (vp_in x13 24 ∧ bL_law_471 K sa Z u v x2 x3 x5 x7 x9 (x13 + 1) (cw_st I 43 x13.toNatClampNeg (I 40 x13.toNatClampNeg))))))) : bL_law_471 K sa Z u v x2 x3 x5 x7 x9 x13 I := by
  refine cw_iload dL_law_471 11 rfl ?_
  refine cw_iload_n dL_law_473 2 rfl rfl ?_
  refine cw_icmp_ge (tgt := 496) dL_law_474 (by decide) (fun q => ?_) (fun q => ?_)
  · have h := h.1 q
    refine cw_iconst (v := 0) dL_law_496 (by decide) ?_
    refine cw_istore dL_law_497 (by decide) rfl ?_
    refine cw_sub [1, 2, 3, 4, 5, 6, 7, 8, 9, 10, 11, 0] rfl ?_
    exact h
  · have h := h.2 q
    refine cw_aload dL_law_477 10 rfl ?_
    refine cw_iload dL_law_479 11 rfl ?_
    refine cw_aload dL_law_481 4 rfl ?_
    refine cw_getf (C := RX11) (T := TX11) (N := 5) (ci := 11) lwin_RX11 32 (show 32 < 44 by decide) rfl rfl 4 (by decide) lwm_f165 rfl dL_law_483 ?_
    refine cw_iload dL_law_486 11 rfl ?_
    obtain ⟨g_488, h⟩ := h
    refine cw_iald 40 (show 40 < 44 by decide) rfl 0 rfl dL_law_488 g_488 ?_
    obtain ⟨g_489, h⟩ := h
    refine cw_iast 43 (show 43 < 44 by decide) (fun _ => rfl) 0 rfl dL_law_489 g_489 ?_
    refine cw_iinc (v := x13 + 1) dL_law_490 (j := 11) rfl rfl (by decide) rfl ?_
    refine cw_goto (tgt := 471) dL_law_493 (by decide) ?_
    refine cw_sub [1, 2, 3, 4, 5, 6, 7, 8, 9, 10, 11, 0] rfl ?_
    exact h
set_option maxRecDepth 20000 in
set_option maxHeartbeats 4000000 in
theorem tbL_law_499 {K : cw_K} {sa u v : Nat} {Z : cw_Zt} {I : cw_M} {x2 : Int32} {x3 : Int32} {x5 : Int32} {x7 : Int32} {x9 : Int32} {x13 : Int32} (h : ((x2 ≤ x13 → (∃ (v_561 : Int32) (J_561 : cw_M), cw_C (cd_w K) mX10_rotate [.ref (cw_a (cd_w K) 0), .int x7] I (some (.int v_561)) J_561 ∧ ((¬ v_561 = x9 → False) ∧ (v_561 = x9 → (∃ (v_571 : Int32) (J_571 : cw_M), cw_C (cd_w K) mX11_agrees [.ref (cw_a (cd_w K) 32)] J_561 (some (.int v_571)) J_571 ∧ ((¬ v_571 = 0 → bL_law_582 K sa Z u v x2 x3 x5 x9 0 J_571) ∧ (v_571 = 0 → False))))))) ∧ (¬ x2 ≤ x13 → bL_law_508 K sa Z u v x2 x3 x5 x7 x9 x13 0 I))) : bL_law_499 K sa Z u v x2 x3 x5 x7 x9 x13 I := by
  refine cw_iload dL_law_499 11 rfl ?_
  refine cw_iload_n dL_law_501 2 rfl rfl ?_
  refine cw_icmp_ge (tgt := 558) dL_law_502 (by decide) (fun q => ?_) (fun q => ?_)
  · have h := h.1 q
    refine cw_aload_n dL_law_558 1 rfl rfl ?_
    refine cw_iload dL_law_559 6 rfl ?_
    obtain ⟨v_561, J_561, hc_561, h⟩ := h
    refine cw_callV (o := 0) (As := [.int x7]) hc_561 okX10_rotate rfl gT_X10_rotate ⟨Nat.le_of_ble_eq_true rfl, Nat.le_of_ble_eq_true rfl⟩ (show 0 < 44 by decide) rfl (ci := 10) rfl rfl (Nat.le_of_ble_eq_true rfl) dL_law_561 ?_
    refine cw_iload dL_law_564 7 rfl ?_
    refine cw_icmp_ne (tgt := 577) dL_law_566 (by decide) (fun q => ?_) (fun q => ?_)
    · have h := h.1 q
      refine cw_iconst (v := 0) dL_law_577 (by decide) ?_
      exact h.elim
    · have h := h.2 q
      refine cw_aload dL_law_569 4 rfl ?_
      obtain ⟨v_571, J_571, hc_571, h⟩ := h
      refine cw_callV (o := 32) (As := []) hc_571 okX11_agrees rfl gT_X11_agrees ⟨Nat.le_of_ble_eq_true rfl, Nat.le_of_ble_eq_true rfl⟩ (show 32 < 44 by decide) rfl (ci := 11) rfl rfl (Nat.le_of_ble_eq_true rfl) dL_law_571 ?_
      refine cw_if_ne (tgt := 579) dL_law_574 (by decide) (fun q => ?_) (fun q => ?_)
      · have h := h.1 q
        refine cw_iconst (v := 0) dL_law_579 (by decide) ?_
        refine cw_istore dL_law_580 (by decide) rfl ?_
        refine cw_sub [1, 2, 3, 4, 5, 6, 8, 9, 10, 0] rfl ?_
        exact h
      · have h := h.2 q
        refine cw_iconst (v := 0) dL_law_577 (by decide) ?_
        exact h.elim
  · have h := h.2 q
    refine cw_iconst (v := 0) dL_law_505 (by decide) ?_
    refine cw_istore dL_law_506 (by decide) rfl ?_
    refine cw_sub [1, 2, 3, 4, 5, 6, 7, 8, 9, 10, 11, 12, 0] rfl ?_
    exact h
set_option maxRecDepth 20000 in
set_option maxHeartbeats 4000000 in
theorem tbL_law_582 {K : cw_K} {sa u v : Nat} {Z : cw_Zt} {I : cw_M} {x2 : Int32} {x3 : Int32} {x5 : Int32} {x9 : Int32} {x13 : Int32} (h : ((x9 ≤ x13 → bL_law_620 K sa Z u v x2 x3 x5 I) ∧ (¬ x9 ≤ x13 → (vp_in x13 6 ∧ (vp_in x13 6 ∧ (∃ (v_601 : Int32) (J_601 : cw_M), cw_C (cd_w K) mX11_worth [.ref (cw_a (cd_w K) 32), .int (I 41 x13.toNatClampNeg), .int (I 41 x13.toNatClampNeg)] I (some (.int v_601)) J_601 ∧ (vp_in x13 6 ∧ (((J_601 42 x13.toNatClampNeg) < v_601 → bL_law_582 K sa Z u v x2 x3 x5 x9 (x13 + 1) J_601) ∧ (¬ (J_601 42 x13.toNatClampNeg) < v_601 → False))))))))) : bL_law_582 K sa Z u v x2 x3 x5 x9 x13 I := by
  refine cw_iload dL_law_582 9 rfl ?_
  refine cw_iload dL_law_584 6 rfl ?_
  refine cw_icmp_ge (tgt := 620) dL_law_586 (by decide) (fun q => ?_) (fun q => ?_)
  · have h := h.1 q
    refine cw_sub [0, 1, 2, 3, 4, 5] rfl ?_
    refine cw_drop (w1 := cp_w K) (cp_le_cd _) rfl ?_
    exact h
  · have h := h.2 q
    refine cw_aload dL_law_589 4 rfl ?_
    refine cw_aload dL_law_591 7 rfl ?_
    refine cw_iload dL_law_593 9 rfl ?_
    obtain ⟨g_595, h⟩ := h
    refine cw_iald 41 (show 41 < 44 by decide) rfl 0 rfl dL_law_595 g_595 ?_
    refine cw_aload dL_law_596 7 rfl ?_
    refine cw_iload dL_law_598 9 rfl ?_
    obtain ⟨g_600, h⟩ := h
    refine cw_iald 41 (show 41 < 44 by decide) rfl 0 rfl dL_law_600 g_600 ?_
    obtain ⟨v_601, J_601, hc_601, h⟩ := h
    refine cw_callV (o := 32) (As := [.int (I 41 x13.toNatClampNeg), .int (I 41 x13.toNatClampNeg)]) hc_601 okX11_worth rfl gT_X11_worth ⟨Nat.le_of_ble_eq_true rfl, Nat.le_of_ble_eq_true rfl⟩ (show 32 < 44 by decide) rfl (ci := 11) rfl rfl (Nat.le_of_ble_eq_true rfl) dL_law_601 ?_
    refine cw_aload dL_law_604 8 rfl ?_
    refine cw_iload dL_law_606 9 rfl ?_
    obtain ⟨g_608, h⟩ := h
    refine cw_iald 42 (show 42 < 44 by decide) rfl 0 rfl dL_law_608 g_608 ?_
    refine cw_icmp_gt (tgt := 614) dL_law_609 (by decide) (fun q => ?_) (fun q => ?_)
    · have h := h.1 q
      refine cw_iinc (v := x13 + 1) dL_law_614 (j := 9) rfl rfl (by decide) rfl ?_
      refine cw_goto (tgt := 582) dL_law_617 (by decide) ?_
      refine cw_sub [1, 2, 3, 4, 5, 6, 7, 8, 9, 0] rfl ?_
      exact h
    · have h := h.2 q
      refine cw_iconst (v := 0) dL_law_612 (by decide) ?_
      exact h.elim
set_option maxRecDepth 20000 in
set_option maxHeartbeats 4000000 in
theorem tbL_law_508 {K : cw_K} {sa u v : Nat} {Z : cw_Zt} {I : cw_M} {x2 : Int32} {x3 : Int32} {x5 : Int32} {x7 : Int32} {x9 : Int32} {x13 : Int32} {x14 : Int32} (h : ((x9 ≤ x14 → bL_law_499 K sa Z u v x2 x3 x5 x7 x9 (x13 + 1) I) ∧ (¬ x9 ≤ x14 → (vp_in x13 24 ∧ (¬ x9 = 0 ∧ (vp_in ((x14 + 1) - (x14 + 1) / x9 * x9) 6 ∧ ((¬ (I 43 x13.toNatClampNeg) = (I 41 ((x14 + 1) - (x14 + 1) / x9 * x9).toNatClampNeg) → bL_law_508 K sa Z u v x2 x3 x5 x7 x9 x13 (x14 + 1) I) ∧ ((I 43 x13.toNatClampNeg) = (I 41 ((x14 + 1) - (x14 + 1) / x9 * x9).toNatClampNeg) → (vp_in x14 6 ∧ (vp_in x13 24 ∧ bL_law_508 K sa Z u v x2 x3 x5 x7 x9 x13 (x14 + 1) (cw_st I 40 x13.toNatClampNeg (I 41 x14.toNatClampNeg)))))))))))) : bL_law_508 K sa Z u v x2 x3 x5 x7 x9 x13 x14 I := by
  refine cw_iload dL_law_508 12 rfl ?_
  refine cw_iload dL_law_510 7 rfl ?_
  refine cw_icmp_ge (tgt := 552) dL_law_512 (by decide) (fun q => ?_) (fun q => ?_)
  · have h := h.1 q
    refine cw_iinc (v := x13 + 1) dL_law_552 (j := 11) rfl rfl (by decide) rfl ?_
    refine cw_goto (tgt := 499) dL_law_555 (by decide) ?_
    refine cw_sub [1, 2, 3, 4, 5, 6, 7, 8, 9, 10, 11, 0] rfl ?_
    exact h
  · have h := h.2 q
    refine cw_aload dL_law_515 10 rfl ?_
    refine cw_iload dL_law_517 11 rfl ?_
    obtain ⟨g_519, h⟩ := h
    refine cw_iald 43 (show 43 < 44 by decide) rfl 0 rfl dL_law_519 g_519 ?_
    refine cw_aload dL_law_520 8 rfl ?_
    refine cw_iload dL_law_522 12 rfl ?_
    refine cw_iconst (v := 1) dL_law_524 (by decide) ?_
    refine cw_iadd dL_law_525 ?_
    refine cw_iload dL_law_526 7 rfl ?_
    obtain ⟨g0_528, h⟩ := h
    refine cw_irem dL_law_528 g0_528 ?_
    obtain ⟨g_529, h⟩ := h
    refine cw_iald 41 (show 41 < 44 by decide) rfl 0 rfl dL_law_529 g_529 ?_
    refine cw_icmp_ne (tgt := 546) dL_law_530 (by decide) (fun q => ?_) (fun q => ?_)
    · have h := h.1 q
      refine cw_iinc (v := x14 + 1) dL_law_546 (j := 12) rfl rfl (by decide) rfl ?_
      refine cw_goto (tgt := 508) dL_law_549 (by decide) ?_
      refine cw_sub [1, 2, 3, 4, 5, 6, 7, 8, 9, 10, 11, 12, 0] rfl ?_
      exact h
    · have h := h.2 q
      refine cw_aload dL_law_533 4 rfl ?_
      refine cw_getf (C := RX11) (T := TX11) (N := 5) (ci := 11) lwin_RX11 32 (show 32 < 44 by decide) rfl rfl 4 (by decide) lwm_f165 rfl dL_law_535 ?_
      refine cw_iload dL_law_538 11 rfl ?_
      refine cw_aload dL_law_540 8 rfl ?_
      refine cw_iload dL_law_542 12 rfl ?_
      obtain ⟨g_544, h⟩ := h
      refine cw_iald 41 (show 41 < 44 by decide) rfl 0 rfl dL_law_544 g_544 ?_
      obtain ⟨g_545, h⟩ := h
      refine cw_iast 40 (show 40 < 44 by decide) (fun _ => rfl) 0 rfl dL_law_545 g_545 ?_
      refine cw_iinc (v := x14 + 1) dL_law_546 (j := 12) rfl rfl (by decide) rfl ?_
      refine cw_goto (tgt := 508) dL_law_549 (by decide) ?_
      refine cw_sub [1, 2, 3, 4, 5, 6, 7, 8, 9, 10, 11, 12, 0] rfl ?_
      exact h
