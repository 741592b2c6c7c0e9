/-- from the filled cells on to the return -/
theorem kn_tailW {K : cw_K} {J J1 J2 : cw_M} {b : Int32} {N : Nat} {p : Program} {e : Env} {s : State} {m : MethodId} {args : Array Value} {below : List Frame} {meth : Method} {c : Code} {H : Heap} {locs : List Loc} {ls : Array Slot} {Q : State → Prop} {A0 : Nat → Prop} (hN : (cw_tx 15).length = N) (hT : N < 600) (hFS : cw_FS (cw_Fc K) (cw_sd K) (cw_sv K)) (hF2 : kn_F2 K)
    (h1 : cw_C (cr_w K) mX11_begin [.ref (cw_a (cr_w K) 0)] (cw_st (kn_M N J) 0 4 (nI N)) none J1)
    (h2 : cw_C (cr_w K) mX11_parseSetup [.ref (cw_a (cr_w K) 0)] J1 (some (.int b)) J2)
    (S : CallFix p m c cX11_init 3 s args wsX11_init RX11) (hw : wk (cr_w K) A0 s) (hP : va_P (cw_d (cr_w K)) vwCl (cw_W (cr_w K) J) H) (hS : va_S A0 s.heap H locs) (hl : lv_has ls 3 [(0, .ref (cw_a (cr_w K) 0))])
    (kk : ∀ (H1 : Heap) (locs1 : List Loc) (ls1 : Array Slot), va_P (cw_d (cr_w K)) vwCl (cw_W (cr_w K) (cw_st J2 0 4 0)) H1 → va_S A0 s.heap H1 locs1 → W p K.1 e (cw_R mX11_init 10 4706) s m args below meth c H1 locs1 10 4706 Q (F0 m 189 ls1 [])) :
    W p K.1 e (cw_R mX11_init 10 4706) s m args below meth c H locs 10 4706 Q (F0 m 137 ls []) := by
  have hln : cw_ln 15 = nI N := by
    show Int32.ofNat (cw_tx 15).length = nI N
    rw [hN]
    rfl
  have hlen : ∀ I : cw_M, cw_C (cr_w K) mJ0_length_8abf5 [.ref (cw_sd K 15)] I (some (.int (nI N))) I := fun I => by
    have h := jd_length (w := cr_w K) (I := I) hFS (k := 15) (by decide)
    rw [hln] at h
    exact h
  have hstr : va_O "java/lang/String" (cw_sd K 15) A0 s s.heap := (hFS.str _ _ _ hw.2.2.1 (k := 15) (by decide)).1
  have loop : ∀ (d i : Nat) (H : Heap) (locs : List Loc) (ls : Array Slot), i + d = N → va_P (cw_d (cr_w K)) vwCl (cw_W (cr_w K) (kn_M i J)) H → va_S A0 s.heap H locs → lv_has ls 3 [(2, .int (nI i)), (1, .ref (cw_sd K 15)), (0, .ref (cw_a (cr_w K) 0))] → W p K.1 e (cw_R mX11_init 10 4706) s m args below meth c H locs 10 4706 Q (F0 m 142 ls []) := by
    intro d
    induction d with
    | zero =>
      intro i H locs ls hi hP hS hl
      have e9 : i = N := by omega
      rw [e9] at hP hl
      generalize kn_M N J = J9 at h1 hP
      refine lv_iload_n S.1 S.2.1 dX11_init_142 rfl (lv_at hl 0 rfl) ?_
      refine lv_aload_n S.1 S.2.1 dX11_init_143 rfl (lv_at hl 1 rfl) ?_
      refine wl_callK (w := cr_w K) (As := []) S hw (hlen _) okJ0_length_8abf5 rfl gX11_init_J0_length_8abf5 ⟨Nat.le_of_ble_eq_true rfl, Nat.le_of_ble_eq_true rfl⟩ ⟨Nat.le_of_ble_eq_true rfl, Nat.le_of_ble_eq_true rfl⟩ hstr hl.1 rfl (Nat.le_of_ble_eq_true rfl) dX11_init_144 hP hS (fun H locs hP hS => ?_)
      refine lv_icmp_ge (tgt := 167) S.1 S.2.1 dX11_init_147 (by decide) (fun q => ?_) (fun q => ?_)
      · refine lv_aload_n S.1 S.2.1 dX11_init_167 rfl (lv_at hl 2 rfl) ?_
        refine lv_aload_n S.1 S.2.1 dX11_init_168 rfl (lv_at hl 1 rfl) ?_
        refine wl_callK (w := cr_w K) (As := []) S hw (hlen _) okJ0_length_8abf5 rfl gX11_init_J0_length_8abf5 ⟨Nat.le_of_ble_eq_true rfl, Nat.le_of_ble_eq_true rfl⟩ ⟨Nat.le_of_ble_eq_true rfl, Nat.le_of_ble_eq_true rfl⟩ hstr hl.1 rfl (Nat.le_of_ble_eq_true rfl) dX11_init_169 hP hS (fun H locs hP hS => ?_)
        refine wl_putf (w := cr_w K) (C := RX11) (T := TX11) (N := 20) (ci := 9) S hw hP hS inX11_init_RX11 tyX11 tyX11_ok nmX11 0 (show 0 < 11 by decide) rfl rfl 4 (by decide) (by decide +kernel) rfl rfl (show 4 < 20 by decide) rfl dX11_init_172 (fun H locs hP hS => ?_)
        refine lv_aload_n S.1 S.2.1 dX11_init_175 rfl (lv_at hl 2 rfl) ?_
        refine wl_call (w := cr_w K) (o := 0) (As := []) S hw h1 okX11_begin rfl gX11_init_X11_begin ⟨Nat.le_of_ble_eq_true rfl, Nat.le_of_ble_eq_true rfl⟩ ⟨Nat.le_of_ble_eq_true rfl, Nat.le_of_ble_eq_true rfl⟩ (show 0 < 11 by decide) rfl (ci := 9) (T := TX11) (N := 20) rfl hl.1 rfl (Nat.le_of_ble_eq_true rfl) dX11_init_176 hP hS (fun H locs hP _ _ hS => ?_)
        refine lv_aload_n S.1 S.2.1 dX11_init_179 rfl (lv_at hl 2 rfl) ?_
        refine wl_call (w := cr_w K) (o := 0) (As := []) S hw h2 okX11_parseSetup rfl gX11_init_X11_parseSetup ⟨Nat.le_of_ble_eq_true rfl, Nat.le_of_ble_eq_true rfl⟩ ⟨Nat.le_of_ble_eq_true rfl, Nat.le_of_ble_eq_true rfl⟩ (show 0 < 11 by decide) rfl (ci := 9) (T := TX11) (N := 20) rfl hl.1 rfl (Nat.le_of_ble_eq_true rfl) dX11_init_180 hP hS (fun H locs hP _ _ hS => ?_)
        refine lv_pop S.1 S.2.1 dX11_init_183 rfl ?_
        refine lv_aload_n S.1 S.2.1 dX11_init_184 rfl (lv_at hl 2 rfl) ?_
        refine lv_iconst (v := 0) S.1 S.2.1 dX11_init_185 (by decide) ?_
        exact wl_putf (w := cr_w K) (C := RX11) (T := TX11) (N := 20) (ci := 9) S hw hP hS inX11_init_RX11 tyX11 tyX11_ok nmX11 0 (show 0 < 11 by decide) rfl rfl 4 (by decide) (by decide +kernel) rfl rfl (show 4 < 20 by decide) rfl dX11_init_186 (fun H locs hP hS => kk H locs ls hP hS)
      · exact absurd (nI_le (a := N) (b := N) (by omega) (by omega)) q
    | succ d ih =>
      intro i H locs ls hi hP hS hl
      refine lv_iload_n S.1 S.2.1 dX11_init_142 rfl (lv_at hl 0 rfl) ?_
      refine lv_aload_n S.1 S.2.1 dX11_init_143 rfl (lv_at hl 1 rfl) ?_
      refine wl_callK (w := cr_w K) (As := []) S hw (hlen _) okJ0_length_8abf5 rfl gX11_init_J0_length_8abf5 ⟨Nat.le_of_ble_eq_true rfl, Nat.le_of_ble_eq_true rfl⟩ ⟨Nat.le_of_ble_eq_true rfl, Nat.le_of_ble_eq_true rfl⟩ hstr hl.1 rfl (Nat.le_of_ble_eq_true rfl) dX11_init_144 hP hS (fun H locs hP hS => ?_)
      refine lv_icmp_ge (tgt := 167) S.1 S.2.1 dX11_init_147 (by decide) (fun q => ?_) (fun q => ?_)
      · exact absurd q (nI_ge (a := i) (b := N) (by omega) (by omega))
      · refine lv_aload_n S.1 S.2.1 dX11_init_150 rfl (lv_at hl 2 rfl) ?_
        refine va_get (D := cw_d (cr_w K)) (ci := 9) (v := .ref (cw_a (cr_w K) 3)) (C := RX11) (T := TX11) (N := 20) S.1 S.2.1 S.2.2.2.2 inX11_init_RX11 S.2.2.2.1 hw.1 hP 0 rfl rfl 3 (by decide) (S.2.2.2.2 (.fieldLink RX11 24 "CakeDivisionModel" "buffer" "[I") (by decide +kernel)) (fun _ h9 => h9) rfl dX11_init_151 ?_
        refine lv_iload_n S.1 S.2.1 dX11_init_154 rfl (lv_at hl 0 rfl) ?_
        refine lv_aload_n S.1 S.2.1 dX11_init_155 rfl (lv_at hl 1 rfl) ?_
        refine lv_iload_n S.1 S.2.1 dX11_init_156 rfl (lv_at hl 0 rfl) ?_
        refine wl_callK (w := cr_w K) (As := [.int (nI i)]) S hw (jd_charAt hFS (k := 15) (by decide) (by rw [hN]; exact vp_in_nI (by omega) (by omega))) okJ0_charAt_5068e rfl gX11_init_J0_charAt_5068e ⟨Nat.le_of_ble_eq_true rfl, Nat.le_of_ble_eq_true rfl⟩ ⟨Nat.le_of_ble_eq_true rfl, Nat.le_of_ble_eq_true rfl⟩ hstr hl.1 rfl (Nat.le_of_ble_eq_true rfl) dX11_init_157 hP hS (fun H locs hP hS => ?_)
        refine wl_iast (w := cr_w K) S hw hP hS 3 (show 3 < 11 by decide) (fun _ => rfl) 0 rfl dX11_init_160 (vp_in_nI (N := 600) (by omega) (by omega)) (fun H locs hP hS => ?_)
        rw [nI_clamp (by omega)] at hP
        refine lv_iinc (k := 0) (v := nI (i + 1)) (lv' := [(2, .int (nI (i + 1))), (1, .ref (cw_sd K 15)), (0, .ref (cw_a (cr_w K) 0))]) S.1 S.2.1 dX11_init_161 hl rfl (nI_succ i).symm (by decide) rfl (fun ls hl => ?_)
        refine lv_goto (tgt := 142) S.1 S.2.1 dX11_init_164 (by decide) ?_
        exact ih (i + 1) H locs ls (by omega) hP hS hl
  refine va_ldcS S.1 S.2.1 S.2.2.2.1 (hF2 _ _ _ hw.2.2.1).2 dX11_init_137 ?_
  refine lv_astore_n (lv' := [(1, .ref (cw_sd K 15)), (0, .ref (cw_a (cr_w K) 0))]) S.1 S.2.1 dX11_init_139 rfl hl (by decide) rfl (fun ls hl => ?_)
  refine lv_iconst (v := 0) S.1 S.2.1 dX11_init_140 (by decide) ?_
  refine lv_istore_n (lv' := [(2, .int 0), (1, .ref (cw_sd K 15)), (0, .ref (cw_a (cr_w K) 0))]) S.1 S.2.1 dX11_init_141 rfl hl (by decide) rfl (fun ls hl => ?_)
  exact loop N 0 H locs ls (Nat.zero_add _) hP hS hl
