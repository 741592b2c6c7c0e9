/-! ## CakeDivisionModel(), whole -/
theorem inX11_init_RX11 : ∀ x ∈ u_ws RX11 TX11 20, x ∈ wsX11_init := by decide +kernel
def kn_M : Nat → cw_M → cw_M
  | 0, J => J
  | i + 1, J => cw_st (kn_M i J) 3 i (cw_ch 15 (nI i))
/-- from the filled cells on to the return -/
theorem kn_tailR {K : cw_K} {Z : cw_Zt} {J J1 J2 : cw_M} {b : Int32} {N : Nat} (hN : (cw_tx 15).length = N) (hT : N < 600) (hFS : cw_FS (cw_Fc K) (cw_sd K) (cw_sv K)) (hF2 : kn_F2 K)
    (h1 : cw_C (cr_w K) mX11_begin [.ref (cw_a (cr_w K) 0)] (cw_st (kn_M N J) 0 4 (nI N)) none J1)
    (h2 : cw_C (cr_w K) mX11_parseSetup [.ref (cw_a (cr_w K) 0)] J1 (some (.int b)) J2)
    (kk : cw_B (cr_w K) mX11_init Z 10 4706 (cw_st J2 0 4 0) 189 [(2, .int (nI N)), (1, .ref (cw_sd K 15)), (0, .ref (cw_a (cr_w K) 0))] []) :
    cw_B (cr_w K) mX11_init Z 10 4706 J 137 [(0, .ref (cw_a (cr_w K) 0))] [] := by
  have hln : cw_ln 15 = nI N := by
    show Int32.ofNat (cw_tx 15).length = nI N
    rw [hN]
    rfl
  have hlen : ∀ I : cw_M, cw_C (cr_w K) mJ0_length_8abf5 [.ref (cw_sd K 15)] I (some (.int (nI N))) I := fun I => by
    have h := jd_length (w := cr_w K) (I := I) hFS (k := 15) (by decide)
    rw [hln] at h
    exact h
  have loop : ∀ d i, i + d = N → cw_B (cr_w K) mX11_init Z 10 4706 (kn_M i J) 142 [(2, .int (nI i)), (1, .ref (cw_sd K 15)), (0, .ref (cw_a (cr_w K) 0))] [] := by
    intro d
    induction d with
    | zero =>
      intro i hi
      have e9 : i = N := by omega
      rw [e9]
      generalize kn_M N J = J9 at h1 ⊢
      refine cw_iload_n dX11_init_142 0 rfl rfl ?_
      refine cw_aload_n dX11_init_143 1 rfl rfl ?_
      refine cw_callK (As := []) (hlen _) okJ0_length_8abf5 rfl gX11_init_J0_length_8abf5 (by decide) (fun A U H q => (hFS.str A U H q (k := 15) (by decide)).1) rfl (Nat.le_of_ble_eq_true rfl) dX11_init_144 ?_
      refine cw_icmp_ge (tgt := 167) dX11_init_147 (by decide) (fun q => ?_) (fun q => ?_)
      · refine cw_aload_n dX11_init_167 2 rfl rfl ?_
        refine cw_aload_n dX11_init_168 1 rfl rfl ?_
        refine cw_callK (As := []) (hlen _) okJ0_length_8abf5 rfl gX11_init_J0_length_8abf5 (by decide) (fun A U H q => (hFS.str A U H q (k := 15) (by decide)).1) rfl (Nat.le_of_ble_eq_true rfl) dX11_init_169 ?_
        refine cw_putf (C := RX11) (T := TX11) (N := 20) (ci := 9) inX11_init_RX11 tyX11 tyX11_ok nmX11 0 (show 0 < 11 by decide) rfl rfl 4 (by decide) (by decide +kernel) rfl rfl (show 4 < 20 by decide) rfl dX11_init_172 ?_
        refine cw_aload_n dX11_init_175 2 rfl rfl ?_
        refine cw_callV (o := 0) (As := []) h1 okX11_begin rfl gX11_init_X11_begin (by decide) (show 0 < 11 by decide) rfl (ci := 9) rfl rfl (Nat.le_of_ble_eq_true rfl) dX11_init_176 ?_
        refine cw_aload_n dX11_init_179 2 rfl rfl ?_
        refine cw_callV (o := 0) (As := []) h2 okX11_parseSetup rfl gX11_init_X11_parseSetup (by decide) (show 0 < 11 by decide) rfl (ci := 9) rfl rfl (Nat.le_of_ble_eq_true rfl) dX11_init_180 ?_
        refine cw_pop dX11_init_183 rfl ?_
        refine cw_aload_n dX11_init_184 2 rfl rfl ?_
        refine cw_iconst (v := 0) dX11_init_185 (by decide) ?_
        refine cw_putf (C := RX11) (T := TX11) (N := 20) (ci := 9) inX11_init_RX11 tyX11 tyX11_ok nmX11 0 (show 0 < 11 by decide) rfl rfl 4 (by decide) (by decide +kernel) rfl rfl (show 4 < 20 by decide) rfl dX11_init_186 ?_
        exact kk
      · exact absurd (nI_le (a := N) (b := N) (by omega) (by omega)) q
    | succ d ih =>
      intro i hi
      refine cw_iload_n dX11_init_142 0 rfl rfl ?_
      refine cw_aload_n dX11_init_143 1 rfl rfl ?_
      refine cw_callK (As := []) (hlen _) okJ0_length_8abf5 rfl gX11_init_J0_length_8abf5 (by decide) (fun A U H q => (hFS.str A U H q (k := 15) (by decide)).1) rfl (Nat.le_of_ble_eq_true rfl) dX11_init_144 ?_
      refine cw_icmp_ge (tgt := 167) dX11_init_147 (by decide) (fun q => ?_) (fun q => ?_)
      · exact absurd q (nI_ge (a := i) (b := N) (by omega) (by omega))
      · refine cw_aload_n dX11_init_150 2 rfl rfl ?_
        refine cw_getf (C := RX11) (T := TX11) (N := 20) (ci := 9) inX11_init_RX11 0 (show 0 < 11 by decide) rfl rfl 3 (by decide) (by decide +kernel) rfl dX11_init_151 ?_
        refine cw_iload_n dX11_init_154 0 rfl rfl ?_
        refine cw_aload_n dX11_init_155 1 rfl rfl ?_
        refine cw_iload_n dX11_init_156 0 rfl rfl ?_
        refine cw_callK (As := [.int (nI i)]) (jd_charAt hFS (k := 15) (by decide) (by rw [hN]; exact vp_in_nI (by omega) (by omega))) okJ0_charAt_5068e rfl gX11_init_J0_charAt_5068e (by decide) (fun A U H q => (hFS.str A U H q (k := 15) (by decide)).1) rfl (Nat.le_of_ble_eq_true rfl) dX11_init_157 ?_
        refine cw_iast 3 (show 3 < 11 by decide) (fun _ => rfl) 0 rfl dX11_init_160 (vp_in_nI (N := 600) (by omega) (by omega)) ?_
        rw [nI_clamp (by omega)]
        refine cw_iinc (v := nI (i + 1)) dX11_init_161 (j := 0) rfl (nI_succ i).symm (by decide) rfl ?_
        refine cw_goto (tgt := 142) dX11_init_164 (by decide) ?_
        exact ih (i + 1) (by omega)
  refine cw_ldcS (fun A U H q => (hF2 A U H q).2) dX11_init_137 ?_
  refine cw_astore_n dX11_init_139 rfl (by decide) rfl ?_
  refine cw_iconst (v := 0) dX11_init_140 (by decide) ?_
  refine cw_istore_n dX11_init_141 rfl (by decide) rfl ?_
  exact loop N 0 (Nat.zero_add _)
