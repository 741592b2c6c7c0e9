/-! ## Text.addLetters, on the input's text -/
def kn_L : Nat → cw_M → cw_M
  | 0, I => I
  | i + 1, I => cw_st (cw_st (kn_L i I) 2 (kn_L i I 1 1).toNatClampNeg (cw_ch 15 (nI i))) 1 1 ((cw_st (kn_L i I) 2 (kn_L i I 1 1).toNatClampNeg (cw_ch 15 (nI i))) 1 1 + 1)
theorem kn_L11 {I : cw_M} (h : I 1 1 = 0) : ∀ i, kn_L i I 1 1 = nI i := by
  intro i
  induction i with
  | zero => exact h
  | succ i ih =>
    show kn_L i I 1 1 + 1 = nI (i + 1)
    rw [ih, nI_succ]
theorem kn_letters {K : cw_K} {I : cw_M} (hFS : cw_FS (cw_Fc K) (cw_sd K) (cw_sv K)) (h : I 1 1 = 0) : cw_C (cc_w K) mX8_addLetters [.ref (cw_a (cc_w K) 1), .ref (cw_sd K 15)] I none (kn_L (cw_tx 15).length I) := by
  have hT : (cw_tx 15).length < 600 := by decide +kernel
  have loop : ∀ d i, i + d = (cw_tx 15).length → cw_B (cc_w K) mX8_addLetters (cw_Z (cc_w K) none (kn_L (cw_tx 15).length I)) 0 0 (kn_L i I) 2 [(2, .int (nI i)), (0, .ref (cw_a (cc_w K) 1)), (1, .ref (cw_sd K 15))] [] := by
    intro d
    induction d with
    | zero =>
      intro i hi
      refine cw_iload_n dX8_addLetters_2 0 rfl rfl ?_
      refine cw_aload_n dX8_addLetters_3 2 rfl rfl ?_
      refine cw_callK (As := []) (jd_length hFS (k := 15) (by decide)) okJ0_length_8abf5 rfl gX8_addLetters_J0_length_8abf5 (by decide) (fun A U H q => (hFS.str A U H q (k := 15) (by decide)).1) rfl (Nat.le_of_ble_eq_true rfl) dX8_addLetters_4 ?_
      refine cw_icmp_ge (tgt := 25) dX8_addLetters_7 (by decide) (fun q => ?_) (fun q => ?_)
      · exact cw_vret rfl dX8_addLetters_25 ⟨rfl, by rw [show i = (cw_tx 15).length by omega]⟩
      · exact absurd (nI_le (a := (cw_tx 15).length) (b := i) (by omega) (by omega)) q
    | succ d ih =>
      intro i hi
      have h1 := kn_L11 h i
      refine cw_iload_n dX8_addLetters_2 0 rfl rfl ?_
      refine cw_aload_n dX8_addLetters_3 2 rfl rfl ?_
      refine cw_callK (As := []) (jd_length hFS (k := 15) (by decide)) okJ0_length_8abf5 rfl gX8_addLetters_J0_length_8abf5 (by decide) (fun A U H q => (hFS.str A U H q (k := 15) (by decide)).1) rfl (Nat.le_of_ble_eq_true rfl) dX8_addLetters_4 ?_
      refine cw_icmp_ge (tgt := 25) dX8_addLetters_7 (by decide) (fun q => ?_) (fun q => ?_)
      · exact absurd q (nI_ge (a := i) (b := (cw_tx 15).length) (by omega) (by omega))
      · refine cw_aload_n dX8_addLetters_10 1 rfl rfl ?_
        refine cw_aload_n dX8_addLetters_11 2 rfl rfl ?_
        refine cw_iload_n dX8_addLetters_12 0 rfl rfl ?_
        refine cw_callK (As := [.int (nI i)]) (jd_charAt hFS (k := 15) (by decide) (vp_in_nI (by omega) (by omega))) okJ0_charAt_5068e rfl gX8_addLetters_J0_charAt_5068e (by decide) (fun A U H q => (hFS.str A U H q (k := 15) (by decide)).1) rfl (Nat.le_of_ble_eq_true rfl) dX8_addLetters_13 ?_
        refine cw_callV (o := 1) (As := [.int (cw_ch 15 (nI i))]) (eX8_add_1 (J0 := kn_L (i + 1) I) ⟨fun z => absurd z (by rw [h1]; exact (nI_ge (a := i) (b := 600) (by omega) (by decide) : ¬ nI 600 ≤ nI i)), fun _ => ⟨by rw [h1]; exact vp_in_nI (by omega) (by omega), rfl, rfl⟩⟩) okX8_add rfl gX8_addLetters_X8_add (by decide) (show 1 < 32 by decide) rfl (ci := 7) rfl rfl (Nat.le_of_ble_eq_true rfl) dX8_addLetters_16 ?_
        refine cw_iinc (v := nI (i + 1)) dX8_addLetters_19 (j := 0) rfl (nI_succ i).symm (by decide) rfl ?_
        refine cw_goto (tgt := 2) dX8_addLetters_22 (by decide) ?_
        exact ih (i + 1) (by omega)
  refine cw_entry okX8_addLetters (Nat.le_of_ble_eq_true rfl) (show cw_B (cc_w K) mX8_addLetters (cw_Z (cc_w K) none (kn_L (cw_tx 15).length I)) 0 0 I 0 [(0, .ref (cw_a (cc_w K) 1)), (1, .ref (cw_sd K 15))] [] from ?_)
  refine cw_iconst (v := 0) dX8_addLetters_0 (by decide) ?_
  refine cw_istore_n dX8_addLetters_1 rfl (by decide) rfl ?_
  exact loop (cw_tx 15).length 0 (Nat.zero_add _)
