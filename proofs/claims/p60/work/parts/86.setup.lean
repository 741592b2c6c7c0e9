/-! ## the law's setup -/
def nL_setup : cw_Me := (yL_setup, wsL_setup, cL_setup, 6, (some (.object "java/lang/String")), 13, 289)
theorem oknL_setup : cw_ok nL_setup 3 := okL_setup
/-- the law's values -/
def ls_v (sn : Nat) (sf : Nat → Int32) (s c : Nat) : Nat := la_pk sn sf (2 + s * 2 + c % 2) 268435456 / (1 + c * 37 + c * c * 11) % 10
theorem ls_v9 {sn : Nat} {sf : Nat → Int32} (s c : Nat) : ls_v sn sf s c ≤ 9 := by
  have h : ls_v sn sf s c < 10 := Nat.mod_lt _ (by omega)
  omega
theorem ls_head : ∀ n, n ≤ 16 → zx_h n = (bu_tx 2 ++ bu_dl n) ++ [59] := by decide +kernel
theorem ls_tx3 : bu_tx 3 = [115, 105, 98, 108, 105, 110, 103, 32, 115] ∧ (cw_tx 3).length = 9 ∧ bu_tx 2 = [99, 97, 107, 101, 32] ∧ (cw_tx 2).length = 5 := by decide +kernel
theorem ls_i2c : ∀ b, b < 128 → ((nI b).toUInt32 % 65536).toInt32 = nI b := by decide +kernel
theorem ls_le (K : cw_K) (l : List (Nat × ((Nat → Int32) → va_E))) : cw_le (ce_w K) (lw K l) := ⟨rfl, rfl, rfl, Nat.zero_le _, fun k hk => absurd hk (Nat.not_lt_zero k), fun k hk => absurd hk (Nat.not_lt_zero k), fun _ _ _ h => h⟩
section LSU
variable {K : cw_K} {sa sn n m dO dT : Nat} {sf : Nat → Int32}
/-- how the setup ends -/
abbrev ls_S (K : cw_K) (n m sn : Nat) (sf : Nat → Int32) : Option Value → cw_G → cw_M → Prop := fun r w' I' => ∃ t q : Nat, r = some (.ref t) ∧ w' = lw K [(t, eT (.ref q)), (q, eA K (zp n m))] ∧ I' 0 1 = 0 ∧ ∀ j, j < zp n m → I' 1 j = nI ((zx n (ls_v sn sf) m).getD j 0)
abbrev ls_B (K : cw_K) (n m sn : Nat) (sf : Nat → Int32) (b a M9 uc us : Nat) (I : cw_M) (pc : Nat) (L : List (Nat × Value)) : Prop := cw_B (B2 K b a M9) (lw K []) nL_setup (cw_ZS 200 90000 (lw K []) (ls_S K n m sn sf)) 200 90000 uc us I pc L []
set_option maxRecDepth 200000 in
set_option maxHeartbeats 2000000 in
theorem ls_in (hFS : cw_FS (cw_Fc K) (cw_sd K) (cw_sv K)) (hFD : bu_FD (cw_Fc K) dO dT) (hFz : cw_Fsc (cw_Fc K) sa sn sf) (hsn : sn < 2 ^ 31) {b k U1 V1 : Nat} {pre : List Nat} (hk : k < 5) (hn : n ≤ 16) (hpre : pre.length + 2 * n ≤ 222) (hU1 : U1 ≤ 200) (hV1 : V1 ≤ 90000) (cont : ∀ a M9 I, buT M9 (pre ++ zx_v (ls_v sn sf k) n) I → ls_B K n m sn sf b a M9 U1 V1 I 106 [(0, .ref sa), (1, .int (nI n)), (2, .int (nI m)), (3, .ref b), (4, .int (nI k))]) : ∀ d c a M9 (I : cw_M) uc us, c + d = n → buT M9 (pre ++ zx_v (ls_v sn sf k) c) I → uc + 2 * d ≤ U1 → us + 892 * d ≤ V1 → ls_B K n m sn sf b a M9 uc us I 47 [(0, .ref sa), (1, .int (nI n)), (2, .int (nI m)), (3, .ref b), (4, .int (nI k)), (5, .int (nI c))] := by
  intro d
  induction d with
  | zero =>
    intro c a M9 I uc us hc hT hu hv
    have ec : c = n := by omega
    subst ec
    refine cw_iload dL_setup_47 5 rfl ?_
    refine cw_iload_n dL_setup_49 1 rfl rfl ?_
    refine cw_icmp_ge (tgt := 106) dL_setup_50 (by decide) (fun _ => ?_) (fun q => absurd (nI_le (Nat.le_refl _) (by omega)) q)
    refine cw_sub [0, 1, 2, 3, 4] rfl ?_
    exact cw_widen ⟨by omega, by omega⟩ ⟨hU1, hV1⟩ (cont a M9 I hT)
  | succ d ih =>
    intro c a M9 I uc us hc hT hu hv
    have hpk := la_pk_lt (sn := sn) (sf := sf) (i := 2 + k * 2 + c % 2) (m := 268435456) (by omega)
    have hc16 : c < 16 := by omega
    have hcc : c * c ≤ 15 * 15 := Nat.mul_le_mul (by omega) (by omega)
    have hdv := Nat.div_le_self (la_pk sn sf (2 + k * 2 + c % 2) 268435456) (1 + c * 37 + c * c * 11)
    have hlen : (pre ++ zx_v (ls_v sn sf k) c).length = pre.length + 2 * c := by rw [List.length_append, zx_vl]
    refine cw_iload dL_setup_47 5 rfl ?_
    refine cw_iload_n dL_setup_49 1 rfl rfl ?_
    refine cw_icmp_ge (tgt := 106) dL_setup_50 (by decide) (fun q => absurd q (nI_ge (by omega) (by omega))) (fun _ => ?_)
    refine cw_aload_n dL_setup_53 3 rfl rfl ?_
    refine cw_bipush (v := 32) dL_setup_54 (by decide) ?_
    refine cw_sV (o := 0) (As := [.int (nI 32)]) (ci := 1) ⟨by omega, by omega⟩ (bu_appendC hFS (c := 32) (by omega) hT (by rw [hlen]; omega)) oknJ4_append_cf468 rfl gL_setup_J4_append_cf468 ⟨Nat.le_of_ble_eq_true rfl, Nat.le_of_ble_eq_true rfl⟩ (Nat.succ_pos _) rfl rfl rfl (Nat.le_of_ble_eq_true rfl) dL_setup_56 (fun r w' I' _ h9 => ?_)
    obtain ⟨a', m', rfl, rfl, hT'⟩ := h9
    refine cw_aload_n dL_setup_59 0 rfl rfl ?_
    refine cw_iconst (v := 2) dL_setup_60 (by decide) ?_
    refine cw_iload dL_setup_61 4 rfl ?_
    refine cw_iconst (v := 2) dL_setup_63 (by decide) ?_
    refine cw_imul dL_setup_64 ?_
    refine cw_iadd dL_setup_65 ?_
    rw [show (2 : Int32) + nI k * 2 = nI (2 + k * 2) from by rw [show nI k * 2 = nI (k * 2) from sp_mul k 2]; exact nI_add 2 (k * 2)]
    refine cw_iload dL_setup_66 5 rfl ?_
    refine cw_iconst (v := 2) dL_setup_68 (by decide) ?_
    refine cw_irem dL_setup_69 (by decide) ?_
    rw [show nI c - nI c / 2 * 2 = nI (c % 2) from ac_rem (by omega) (by omega) (by omega) rfl]
    refine cw_iadd dL_setup_70 ?_
    rw [nI_add]
    refine cw_ldcI (v := 268435456) (by decide +kernel) dL_setup_71 ?_
    refine cw_callA (As := [.ref sa, .int (nI (2 + k * 2 + c % 2)), .int 268435456]) (cw_lift (ls_le K _) rfl (la_pick (K := K) hFz hsn (i := 2 + k * 2 + c % 2) (m := 268435456) (by omega) (by omega) (by omega)) (fun _ _ => rfl)) okL_pick rfl gL_setup_L_pick ⟨Nat.le_of_ble_eq_true rfl, Nat.le_of_ble_eq_true rfl⟩ rfl (Nat.le_of_ble_eq_true rfl) dL_setup_73 ?_
    refine cw_iconst (v := 1) dL_setup_76 (by decide) ?_
    refine cw_iload dL_setup_77 5 rfl ?_
    refine cw_bipush (v := 37) dL_setup_79 (by decide) ?_
    refine cw_imul dL_setup_81 ?_
    refine cw_iadd dL_setup_82 ?_
    rw [show (1 : Int32) + nI c * 37 = nI (1 + c * 37) from by rw [show nI c * 37 = nI (c * 37) from sp_mul c 37]; exact nI_add 1 (c * 37)]
    refine cw_iload dL_setup_83 5 rfl ?_
    refine cw_iload dL_setup_85 5 rfl ?_
    refine cw_imul dL_setup_87 ?_
    rw [sp_mul c c]
    refine cw_bipush (v := 11) dL_setup_88 (by decide) ?_
    refine cw_imul dL_setup_90 ?_
    rw [show nI (c * c) * 11 = nI (c * c * 11) from sp_mul (c * c) 11]
    refine cw_iadd dL_setup_91 ?_
    rw [nI_add]
    refine cw_idiv dL_setup_92 (nI_ne0 (by omega) (by omega)) ?_
    rw [pk_div (by omega) (by omega) (by omega)]
    refine cw_bipush (v := 10) dL_setup_93 (by decide) ?_
    refine cw_irem dL_setup_95 (by decide) ?_
    rw [show nI (la_pk sn sf (2 + k * 2 + c % 2) 268435456 / (1 + c * 37 + c * c * 11)) - nI (la_pk sn sf (2 + k * 2 + c % 2) 268435456 / (1 + c * 37 + c * c * 11)) / 10 * 10 = nI (ls_v sn sf k c) from ac_rem (by omega) (by omega) (by omega) rfl]
    have h9v := ls_v9 (sn := sn) (sf := sf) k c
    have hsz : bu_sz (ls_v sn sf k c) = 1 := if_pos (by omega)
    refine cw_sV (o := 0) (As := [.int (nI (ls_v sn sf k c))]) (ci := 1) ⟨by omega, by omega⟩ (bu_appendI hFS hFD (by omega) hT' (by rw [hsz, List.length_append, hlen]; show _ + 1 + 1 ≤ 223; omega)) oknJ4_append_bf812 rfl gL_setup_J4_append_bf812 ⟨Nat.le_of_ble_eq_true rfl, Nat.le_of_ble_eq_true rfl⟩ (Nat.succ_pos _) rfl rfl rfl (Nat.le_of_ble_eq_true rfl) dL_setup_96 (fun r w' I' _ h9 => ?_)
    obtain ⟨a2, m2, rfl, rfl, hT2⟩ := h9
    refine cw_pop dL_setup_99 rfl ?_
    refine cw_iinc (v := nI (c + 1)) dL_setup_100 (j := 5) rfl (show nI c + 1 = nI (c + 1) from nI_add c 1) (by decide) rfl ?_
    refine cw_goto (tgt := 47) dL_setup_103 (by decide) ?_
    refine cw_sub [1, 2, 3, 4, 5, 0] rfl ?_
    refine ih (c + 1) a2 m2 _ _ _ (by omega) ?_ (by omega) (by omega)
    have e : pre ++ zx_v (ls_v sn sf k) (c + 1) = (pre ++ zx_v (ls_v sn sf k) c ++ [32]) ++ bu_dl (ls_v sn sf k c) := by
      show pre ++ (zx_v (ls_v sn sf k) c ++ [32, 48 + ls_v sn sf k c]) = _
      rw [show bu_dl (ls_v sn sf k c) = [48 + ls_v sn sf k c] from if_pos (by omega)]
      simp
    rw [e]
    exact hT2
set_option maxRecDepth 200000 in
set_option maxHeartbeats 2000000 in
theorem ls_out (hFS : cw_FS (cw_Fc K) (cw_sd K) (cw_sv K)) (hFC : cw_FC K) (hFD : bu_FD (cw_Fc K) dO dT) (hFB : bu_FC (cw_Fc K)) (hFz : cw_Fsc (cw_Fc K) sa sn sf) (hsn : sn < 2 ^ 31) {b : Nat} (hn : n ≤ 16) (hm : m ≤ 5) : ∀ d k a M9 (I : cw_M) uc us, k + d = m → buT M9 (zx n (ls_v sn sf) k) I → uc + 36 * d + 2 ≤ 200 → us + 17000 * d + 300 ≤ 90000 → ls_B K n m sn sf b a M9 uc us I 22 [(0, .ref sa), (1, .int (nI n)), (2, .int (nI m)), (3, .ref b), (4, .int (nI k))] := by
  have hl3 : (cw_tx 3).length = 9 := ls_tx3.2.1
  intro d
  induction d with
  | zero =>
    intro k a M9 I uc us hk hT hu hv
    have ek : k = m := by omega
    subst ek
    have hz := zp_le n hn hm
    refine cw_iload dL_setup_22 4 rfl ?_
    refine cw_iload_n dL_setup_24 2 rfl rfl ?_
    refine cw_icmp_ge (tgt := 119) dL_setup_25 (by decide) (fun _ => ?_) (fun q => absurd (nI_le (by omega) (by omega)) q)
    refine cw_aload_n dL_setup_119 3 rfl rfl ?_
    refine cw_sV (o := 0) (As := []) (ci := 1) ⟨by omega, by rw [zx_l]; omega⟩ (bu_toString hFS hFB hT) oknJ4_toString_0e30d rfl gL_setup_J4_toString_0e30d ⟨Nat.le_of_ble_eq_true rfl, Nat.le_of_ble_eq_true rfl⟩ (Nat.succ_pos _) rfl rfl rfl (Nat.le_of_ble_eq_true rfl) dL_setup_120 (fun r w' I' _ h9 => ?_)
    obtain ⟨t, q, rfl, rfl, hq1, hq2⟩ := h9
    rw [zx_l] at hq2 ⊢
    refine cw_widen (u := 200) (v := 90000) ⟨by omega, by omega⟩ ⟨Nat.le_refl _, Nat.le_refl _⟩ ?_
    exact cw_aretS lw_eqv rfl (Or.inl ⟨_, rfl⟩) (Or.inr ⟨_, rfl⟩) dL_setup_123 ⟨t, q, rfl, rfl, hq1, hq2⟩
  | succ d ih =>
    intro k a M9 I uc us hk hT hu hv
    have hz1 : zp n k + (11 + 2 * n) ≤ 223 := zp_le n hn (show k + 1 ≤ 5 by omega)
    refine cw_iload dL_setup_22 4 rfl ?_
    refine cw_iload_n dL_setup_24 2 rfl rfl ?_
    refine cw_icmp_ge (tgt := 119) dL_setup_25 (by decide) (fun q => absurd q (nI_ge (by omega) (by omega))) (fun _ => ?_)
    refine cw_aload_n dL_setup_28 3 rfl rfl ?_
    refine cw_ldcS (fun A U H q => hFC (RL, 47, "sibling s", 3) (by decide) A U H q) dL_setup_29 ?_
    refine cw_sV (o := 0) (As := [.ref (cw_sd K 3)]) (ci := 1) ⟨by omega, by omega⟩ (bu_append4 hFS (k := 3) (by omega) hT (by rw [hl3, zx_l]; omega)) oknJ4_append_15ec4 rfl gL_setup_J4_append_15ec4 ⟨Nat.le_of_ble_eq_true rfl, Nat.le_of_ble_eq_true rfl⟩ (Nat.succ_pos _) rfl rfl rfl (Nat.le_of_ble_eq_true rfl) dL_setup_31 (fun r w' I' _ h9 => ?_)
    obtain ⟨a', m', rfl, rfl, hT'⟩ := h9
    refine cw_bipush (v := 97) dL_setup_34 (by decide) ?_
    refine cw_iload dL_setup_36 4 rfl ?_
    refine cw_iadd dL_setup_38 ?_
    rw [show (97 : Int32) + nI k = nI (97 + k) from nI_add 97 k]
    refine cw_i2c (v := nI (97 + k)) dL_setup_39 (ls_i2c _ (by omega)) ?_
    refine cw_sV (o := 0) (As := [.int (nI (97 + k))]) (ci := 1) ⟨by omega, by omega⟩ (bu_appendC hFS (c := 97 + k) (by omega) hT' (by rw [List.length_append, zx_l, ls_tx3.1]; show _ + 9 + 1 ≤ 223; omega)) oknJ4_append_cf468 rfl gL_setup_J4_append_cf468 ⟨Nat.le_of_ble_eq_true rfl, Nat.le_of_ble_eq_true rfl⟩ (Nat.succ_pos _) rfl rfl rfl (Nat.le_of_ble_eq_true rfl) dL_setup_40 (fun r w' I' _ h9 => ?_)
    obtain ⟨a2, m2, rfl, rfl, hT2⟩ := h9
    refine cw_pop dL_setup_43 rfl ?_
    refine cw_iconst (v := 0) dL_setup_44 (by decide) ?_
    refine cw_istore dL_setup_45 (by decide) rfl ?_
    refine cw_sub [1, 2, 3, 4, 5, 0] rfl ?_
    refine ls_in (m := m) hFS hFD hFz hsn (U1 := uc + 2 + 2 * n) (V1 := us + 892 + 892 * n) (pre := zx n (ls_v sn sf) k ++ bu_tx 3 ++ [97 + k]) (by omega) hn (by rw [List.length_append, List.length_append, zx_l, ls_tx3.1]; show _ + 9 + 1 + _ ≤ 222; omega) (by omega) (by omega) (fun a3 m3 I3 hT3 => ?_) n 0 a2 m2 _ _ _ (by omega) (by rw [show zx_v (ls_v sn sf k) 0 = [] from rfl, List.append_nil]; exact hT2) (by omega) (by omega)
    refine cw_aload_n dL_setup_106 3 rfl rfl ?_
    refine cw_bipush (v := 59) dL_setup_107 (by decide) ?_
    refine cw_sV (o := 0) (As := [.int (nI 59)]) (ci := 1) ⟨by omega, by omega⟩ (bu_appendC hFS (c := 59) (by omega) hT3 (by rw [List.length_append, List.length_append, List.length_append, zx_l, ls_tx3.1, zx_vl]; show _ + 9 + 1 + _ + 1 ≤ 223; omega)) oknJ4_append_cf468 rfl gL_setup_J4_append_cf468 ⟨Nat.le_of_ble_eq_true rfl, Nat.le_of_ble_eq_true rfl⟩ (Nat.succ_pos _) rfl rfl rfl (Nat.le_of_ble_eq_true rfl) dL_setup_109 (fun r w' I' _ h9 => ?_)
    obtain ⟨a4, m4, rfl, rfl, hT4⟩ := h9
    refine cw_pop dL_setup_112 rfl ?_
    refine cw_iinc (v := nI (k + 1)) dL_setup_113 (j := 4) rfl (show nI k + 1 = nI (k + 1) from nI_add k 1) (by decide) rfl ?_
    refine cw_goto (tgt := 22) dL_setup_116 (by decide) ?_
    refine cw_sub [1, 2, 3, 4, 0] rfl ?_
    refine ih (k + 1) a4 m4 _ _ _ (by omega) ?_ (by omega) (by omega)
    have e : zx n (ls_v sn sf) (k + 1) = (zx n (ls_v sn sf) k ++ bu_tx 3 ++ [97 + k] ++ zx_v (ls_v sn sf k) n) ++ [59] := by
      show zx n (ls_v sn sf) k ++ ([115, 105, 98, 108, 105, 110, 103, 32, 115, 97 + k] ++ (zx_v (ls_v sn sf k) n ++ [59])) = _
      rw [ls_tx3.1]
      simp
    rw [e]
    exact hT4
set_option maxRecDepth 200000 in
set_option maxHeartbeats 2000000 in
theorem ls_setup {I : cw_M} (hFS : cw_FS (cw_Fc K) (cw_sd K) (cw_sv K)) (hFC : cw_FC K) (hFD : bu_FD (cw_Fc K) dO dT) (hFB : bu_FC (cw_Fc K)) (hFz : cw_Fsc (cw_Fc K) sa sn sf) (hsn : sn < 2 ^ 31) (hn : n ≤ 16) (hm : m ≤ 5) : cw_SN 200 90000 (lw K []) nL_setup [.ref sa, .int (nI n), .int (nI m)] I (ls_S K n m sn sf) := by
  refine cw_entryS oknL_setup (Nat.le_of_ble_eq_true rfl) (show cw_B (lw K []) (lw K []) nL_setup (cw_ZS 200 90000 (lw K []) (ls_S K n m sn sf)) 200 90000 0 0 I 0 [(0, .ref sa), (1, .int (nI n)), (2, .int (nI m))] [] from ?_)
  refine cw_newo (w' := fun b => lw K [(b, eB .null)]) (C := RJ4) (T := TJ4) (N := 4) (ci := 1) (fs := [.null, .int 0, .int 0, .int 0]) (E := eB .null) (by decide +kernel) tyJ4 tyJ4_ok (by decide +kernel) (by decide +kernel) (by decide +kernel) rfl (fun j hj => by rcases (show j = 0 ∨ j = 1 ∨ j = 2 ∨ j = 3 by omega) with rfl | rfl | rfl | rfl <;> rfl) (fun b => lw_ext K [] b (eB .null)) rfl ⟨by omega, by omega⟩ dL_setup_0 (fun b => ?_)
  refine cw_dup dL_setup_3 rfl ?_
  refine cw_ldcS (fun A U H q => hFC (RL, 36, "cake ", 2) (by decide) A U H q) dL_setup_4 ?_
  refine cw_sI (As := [.ref (cw_sd K 2)]) ⟨by omega, by omega⟩ (bu_init4 (I := cw_up I 0 (fun _ => 0)) hFS (k := 2) (by omega) rfl) oknJ4_init_a7421 rfl gL_setup_J4_init_a7421 rfl (by decide +kernel) (by decide +kernel) (by decide +kernel) rfl ⟨Nat.le_of_ble_eq_true rfl, Nat.le_of_ble_eq_true rfl⟩ rfl (Nat.le_of_ble_eq_true rfl) dL_setup_6 (fun r w' I' _ h9 => ?_)
  obtain ⟨a1, m1, rfl, rfl, hT1⟩ := h9
  refine cw_iload_n dL_setup_9 1 rfl rfl ?_
  have hsz := bu_sz2 n
  refine cw_sV (o := 0) (As := [.int (nI n)]) (ci := 1) ⟨by omega, by omega⟩ (bu_appendI hFS hFD (by omega) hT1 (by rw [ls_tx3.2.2.1]; show 5 + _ ≤ 223; omega)) oknJ4_append_bf812 rfl gL_setup_J4_append_bf812 ⟨Nat.le_of_ble_eq_true rfl, Nat.le_of_ble_eq_true rfl⟩ (Nat.succ_pos _) rfl rfl rfl (Nat.le_of_ble_eq_true rfl) dL_setup_10 (fun r w' I' _ h9 => ?_)
  obtain ⟨a2, m2, rfl, rfl, hT2⟩ := h9
  refine cw_bipush (v := 59) dL_setup_13 (by decide) ?_
  refine cw_sV (o := 0) (As := [.int (nI 59)]) (ci := 1) ⟨by omega, by omega⟩ (bu_appendC hFS (c := 59) (by omega) hT2 (by rw [List.length_append, ls_tx3.2.2.1, bu_dl_len]; show 5 + _ + 1 ≤ 223; omega)) oknJ4_append_cf468 rfl gL_setup_J4_append_cf468 ⟨Nat.le_of_ble_eq_true rfl, Nat.le_of_ble_eq_true rfl⟩ (Nat.succ_pos _) rfl rfl rfl (Nat.le_of_ble_eq_true rfl) dL_setup_15 (fun r w' I' _ h9 => ?_)
  obtain ⟨a3, m3, rfl, rfl, hT3⟩ := h9
  refine cw_astore_n dL_setup_18 rfl (by decide) rfl ?_
  refine cw_iconst (v := 0) dL_setup_19 (by decide) ?_
  refine cw_istore dL_setup_20 (by decide) rfl ?_
  refine cw_sub [2, 3, 4, 1, 0] rfl ?_
  exact ls_out hFS hFC hFD hFB hFz hsn hn hm m 0 a3 m3 _ _ _ (by omega) (by show buT m3 (zx_h n) _; rw [ls_head n hn]; exact hT3) (by omega) (by omega)
end LSU
