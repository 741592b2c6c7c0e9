/-! ## the text of a setup: the builder's constructor, toString -/
section SBP
variable {K : cw_K} {I : cw_M} {sd sv : Nat → Nat}
def nJ7_checkLength_df160 : cw_Me := (yJ7_checkLength_df160, wsJ7_checkLength_df160, cJ7_checkLength_df160, 2, none, 0, 0)
theorem oknJ7_checkLength_df160 : cw_ok nJ7_checkLength_df160 2 := okJ7_checkLength_df160
def nJ7_copyOfRangeByte_39247 : cw_Me := (yJ7_copyOfRangeByte_39247, wsJ7_copyOfRangeByte_39247, cJ7_copyOfRangeByte_39247, 5, (some (.array .byte)), 1, 40)
theorem oknJ7_copyOfRangeByte_39247 : cw_ok nJ7_copyOfRangeByte_39247 3 := okJ7_copyOfRangeByte_39247
def nJ7_copyOfRange_39247 : cw_Me := (yJ7_copyOfRange_39247, wsJ7_copyOfRange_39247, cJ7_copyOfRange_39247, 3, (some (.array .byte)), 2, 64)
theorem oknJ7_copyOfRange_39247 : cw_ok nJ7_copyOfRange_39247 3 := okJ7_copyOfRange_39247
def nJ0_init_db425 : cw_Me := (yJ0_init_db425, wsJ0_init_db425, cJ0_init_db425, 5, none, 5, 118)
theorem oknJ0_init_db425 : cw_ok nJ0_init_db425 2 := okJ0_init_db425
def nJ0_init_81219 : cw_Me := (yJ0_init_81219, wsJ0_init_81219, cJ0_init_81219, 2, none, 6, 142)
theorem oknJ0_init_81219 : cw_ok nJ0_init_81219 1 := okJ0_init_81219
def nJ4_toString_0e30d : cw_Me := (yJ4_toString_0e30d, wsJ4_toString_0e30d, cJ4_toString_0e30d, 1, (some (.object "java/lang/String")), 7, 163)
theorem oknJ4_toString_0e30d : cw_ok nJ4_toString_0e30d 0 := okJ4_toString_0e30d
theorem bu_tx20 : ∀ k, k < 4 → (cw_tx k).length ≤ 20 := by decide +kernel
theorem bu_init5 {b k : Nat} (hFS : cw_FS (cw_Fc K) sd sv) (hk4 : k < 4) (h3 : I 0 3 = 0) : cw_SN 2 500 (lw K [(b, eB .null)]) nJ5_init_a7421 [.ref b, .ref (sd k)] I (fun r w' I' => ∃ a' m' : Nat, r = none ∧ w' = B2 K b a' m' ∧ buT m' (bu_tx k) I') := by
  have hk20 : (cw_tx k).length ≤ 20 := bu_tx20 k hk4
  refine cw_entryS oknJ5_init_a7421 (Nat.le_of_ble_eq_true rfl) (show cw_B (lw K [(b, eB .null)]) (lw K [(b, eB .null)]) nJ5_init_a7421 (cw_ZS 2 500 (lw K [(b, eB .null)]) (fun r w' I' => ∃ a' m' : Nat, r = none ∧ w' = B2 K b a' m' ∧ buT m' (bu_tx k) I')) 2 500 0 0 I 0 [(0, .ref b), (1, .ref (sd k))] [] from ?_)
  refine cw_aload_n dJ5_init_a7421_0 0 rfl rfl ?_
  refine cw_objI (by decide +kernel) (by decide +kernel) (by decide +kernel) ⟨Nat.le_of_ble_eq_true rfl, Nat.le_of_ble_eq_true rfl⟩ dJ5_init_a7421_1 ?_
  refine cw_aload_n dJ5_init_a7421_4 1 rfl rfl ?_
  refine cw_callK (As := []) (jd_length hFS (bu_tk hk4)) okJ0_length_8abf5 rfl gJ5_init_a7421_J0_length_8abf5 ⟨Nat.le_of_ble_eq_true rfl, Nat.le_of_ble_eq_true rfl⟩ (fun A U H q => (hFS.str A U H q (bu_tk hk4)).1) rfl (Nat.le_of_ble_eq_true rfl) dJ5_init_a7421_5 ?_
  refine cw_istore_n dJ5_init_a7421_8 rfl (by decide) rfl ?_
  refine cw_iload_n dJ5_init_a7421_9 0 rfl rfl ?_
  refine cw_ldcI (v := 2147483631) (by decide +kernel) dJ5_init_a7421_10 ?_
  refine cw_icmp_ge (tgt := 22) dJ5_init_a7421_12 (by decide) (fun q => absurd q (Int32.not_le.mpr (show nI (cw_tx k).length < nI 2147483631 from nI_lt (by omega) (by omega)))) (fun _ => ?_)
  refine cw_iload_n dJ5_init_a7421_15 0 rfl rfl ?_
  refine cw_bipush (v := 16) dJ5_init_a7421_16 (by decide) ?_
  refine cw_iadd dJ5_init_a7421_18 ?_
  rw [show cw_ln k + 16 = nI ((cw_tx k).length + 16) from nI_add _ 16]
  refine cw_goto (tgt := 24) dJ5_init_a7421_19 (by decide) ?_
  refine cw_istore_n dJ5_init_a7421_24 rfl (by decide) rfl ?_
  refine cw_aload_n dJ5_init_a7421_25 3 rfl rfl ?_
  refine cw_callK (As := []) (jd_coder hFS (bu_tk hk4)) okJ0_coder_7d493 rfl gJ5_init_a7421_J0_coder_7d493 ⟨Nat.le_of_ble_eq_true rfl, Nat.le_of_ble_eq_true rfl⟩ (fun A U H q => (hFS.str A U H q (bu_tk hk4)).1) rfl (Nat.le_of_ble_eq_true rfl) dJ5_init_a7421_26 ?_
  refine cw_istore dJ5_init_a7421_29 (by decide) rfl ?_
  refine cw_aload_n dJ5_init_a7421_31 3 rfl rfl ?_
  refine cw_iload dJ5_init_a7421_32 0 rfl ?_
  refine cw_putb (C := RJ4) (T := TJ4) (N := 4) (ci := 1) (x := 0) (by decide +kernel) tyJ4 tyJ4_ok nmJ4 0 (Nat.succ_pos _) rfl rfl 1 (by decide) (by decide +kernel) rfl rfl rfl (show 1 < 4 by decide) rfl dJ5_init_a7421_34 ?_
  refine cw_aload_n dJ5_init_a7421_37 3 rfl rfl ?_
  refine cw_iload dJ5_init_a7421_38 0 rfl ?_
  refine cw_if_ne (tgt := 49) dJ5_init_a7421_40 (by decide) (fun q => absurd rfl q) (fun _ => ?_)
  refine cw_iload_n dJ5_init_a7421_43 1 rfl rfl ?_
  refine cw_newb (w' := fun q => lw K [(b, eB .null), (q, eA K ((cw_tx k).length + 16))]) (N := (cw_tx k).length + 16) (cA := K.2.2.1 4) (fun q => lw_ext K [(b, eB .null)] q (eA K ((cw_tx k).length + 16))) 4 rfl (by decide +kernel) rfl (by omega) ⟨by omega, by omega⟩ dJ5_init_a7421_44 (fun q => ?_)
  refine cw_goto (tgt := 53) dJ5_init_a7421_46 (by decide) ?_
  refine cw_putr (w' := B2 K b q ((cw_tx k).length + 16)) (I' := cw_up (cw_st I 0 1 0) 1 (fun _ => 0)) (C := RJ4) (T := TJ4) (N := 4) (ci := 1) (by decide +kernel) tyJ4 tyJ4_ok nmJ4 0 (show 0 < 2 by decide) rfl rfl 0 (by decide) (by decide +kernel) rfl rfl rfl (show 0 < 4 by decide) lw_eqv rfl (fun j => by rcases j with _ | _ | j <;> rfl) rfl (fun j hj hj0 => by rcases j with _ | _ | j <;> first | exact absurd rfl hj0 | rfl) dJ5_init_a7421_53 ?_
  have hT : buT ((cw_tx k).length + 16) [] (cw_up (cw_st I 0 1 0) 1 (fun _ => 0)) := ⟨Nat.zero_le _, by omega, rfl, h3, fun j hj => absurd hj (Nat.not_lt_zero j), fun _ => ⟨0, by omega, rfl⟩⟩
  refine cw_aload_n dJ5_init_a7421_56 3 rfl rfl ?_
  refine cw_aload_n dJ5_init_a7421_57 4 rfl rfl ?_
  refine cw_sO (o := 0) (As := [.ref (sd k)]) (C := RJ4) (ci := 1) (b0 := cJ5_append_cf1ce) (m0 := 3) (r0 := some (.object "java/lang/AbstractStringBuilder")) ⟨by omega, by omega⟩ (bu_appendB hFS hk4 hT (by show 0 + _ ≤ 223; omega)) oknJ4_append_cf1ce rfl gJ5_init_a7421_J4_append_cf1ce_u43J4 (by decide +kernel) (by decide +kernel) ⟨Nat.le_of_ble_eq_true rfl, Nat.le_of_ble_eq_true rfl⟩ (Nat.succ_pos _) rfl rfl rfl (Nat.le_of_ble_eq_true rfl) dJ5_init_a7421_58 (fun r w' I' _ h9 => ?_)
  obtain ⟨a', m', rfl, rfl, hT'⟩ := h9
  refine cw_pop dJ5_init_a7421_61 rfl ?_
  refine cw_widen (u := 2) (v := 500) ⟨by omega, by omega⟩ ⟨Nat.le_refl _, Nat.le_refl _⟩ ?_
  exact cw_vretS lw_eqv rfl dJ5_init_a7421_62 ⟨a', m', rfl, rfl, hT'⟩
theorem bu_init4 {b k : Nat} (hFS : cw_FS (cw_Fc K) sd sv) (hk4 : k < 4) (h3 : I 0 3 = 0) : cw_SN 2 500 (lw K [(b, eB .null)]) nJ4_init_a7421 [.ref b, .ref (sd k)] I (fun r w' I' => ∃ a' m' : Nat, r = none ∧ w' = B2 K b a' m' ∧ buT m' (bu_tx k) I') := by
  refine cw_entryS oknJ4_init_a7421 (Nat.le_of_ble_eq_true rfl) (show cw_B (lw K [(b, eB .null)]) (lw K [(b, eB .null)]) nJ4_init_a7421 (cw_ZS 2 500 (lw K [(b, eB .null)]) (fun r w' I' => ∃ a' m' : Nat, r = none ∧ w' = B2 K b a' m' ∧ buT m' (bu_tx k) I')) 2 500 0 0 I 0 [(0, .ref b), (1, .ref (sd k))] [] from ?_)
  refine cw_aload_n dJ4_init_a7421_0 0 rfl rfl ?_
  refine cw_aload_n dJ4_init_a7421_1 1 rfl rfl ?_
  refine cw_sI (As := [.ref (sd k)]) ⟨Nat.le_refl _, Nat.le_refl _⟩ (bu_init5 hFS hk4 h3) oknJ5_init_a7421 rfl gJ4_init_a7421_J5_init_a7421 rfl (by decide +kernel) (by decide +kernel) (by decide +kernel) rfl ⟨Nat.le_of_ble_eq_true rfl, Nat.le_of_ble_eq_true rfl⟩ rfl (Nat.le_of_ble_eq_true rfl) dJ4_init_a7421_2 (fun r w' I' _ h9 => ?_)
  obtain ⟨a', m', rfl, rfl, hT'⟩ := h9
  exact cw_vretS lw_eqv rfl dJ4_init_a7421_5 ⟨a', m', rfl, rfl, hT'⟩
theorem bu_getValue {b a : Nat} {l : List (Nat × ((Nat → Int32) → va_E))} : cw_C (lw K ((b, eB (.ref a)) :: l)) nJ5_getValue_6d5f1 [.ref b] I (some (.ref a)) I := by
  refine cw_entry oknJ5_getValue_6d5f1 (Nat.le_of_ble_eq_true rfl) (show cw_B (lw K ((b, eB (.ref a)) :: l)) (lw K ((b, eB (.ref a)) :: l)) nJ5_getValue_6d5f1 (cw_Z (lw K ((b, eB (.ref a)) :: l)) (some (.ref a)) I) 0 0 0 0 I 0 [(0, .ref b)] [] from ?_)
  refine cw_aload_n dJ5_getValue_6d5f1_0 0 rfl rfl ?_
  refine cw_getf (C := RJ4) (T := TJ4) (N := 4) (ci := 1) (v := .ref a) (by decide +kernel) 0 (Nat.succ_pos _) rfl rfl 0 (by decide) (by decide +kernel) rfl dJ5_getValue_6d5f1_1 ?_
  exact cw_aret rfl (Or.inr ⟨_, rfl⟩) (Or.inr ⟨_, rfl⟩) dJ5_getValue_6d5f1_4 ⟨rfl, rfl⟩
theorem bu_checkLength {w : cw_G} {n : Nat} (hn : n < 1000) : cw_C (w) nJ7_checkLength_df160 [.int 0, .int (nI n)] I none I := by
  refine cw_entry oknJ7_checkLength_df160 (Nat.le_of_ble_eq_true rfl) (show cw_B (w) (w) nJ7_checkLength_df160 (cw_Z (w) none I) 0 0 0 0 I 0 [(0, .int 0), (1, .int (nI n))] [] from ?_)
  refine cw_iload_n dJ7_checkLength_df160_0 1 rfl rfl ?_
  refine cw_iload_n dJ7_checkLength_df160_1 0 rfl rfl ?_
  refine cw_icmp_ge (tgt := 37) dJ7_checkLength_df160_2 (by decide) (fun _ => ?_) (fun q => absurd (show (0 : Int32) ≤ nI n from nI_pos' (by omega)) q)
  exact cw_vret rfl dJ7_checkLength_df160_37 ⟨rfl, rfl⟩
theorem bu_rangeB {b a m n t : Nat} (hn : n ≤ m) (hm : m ≤ 446) (hb : ∀ j, ∃ c : Nat, c < 128 ∧ I 1 j = nI c) : cw_SN 1 n (lw K [(b, eB (.ref a)), (a, eA K m), (t, eT .null)]) nJ7_copyOfRangeByte_39247 [.ref a, .int 0, .int (nI n)] I (fun r w' I' => ∃ (q : Nat) (g : Nat → Int32), r = some (.ref q) ∧ w' = lw K [(b, eB (.ref a)), (a, eA K m), (t, eT .null), (q, eA K n)] ∧ I' = cw_up I 3 g ∧ ∀ j, j < n → g j = I 1 j) := by
  refine cw_entryS oknJ7_copyOfRangeByte_39247 (Nat.le_of_ble_eq_true rfl) (show cw_B (lw K [(b, eB (.ref a)), (a, eA K m), (t, eT .null)]) (lw K [(b, eB (.ref a)), (a, eA K m), (t, eT .null)]) nJ7_copyOfRangeByte_39247 (cw_ZS 1 n (lw K [(b, eB (.ref a)), (a, eA K m), (t, eT .null)]) (fun r w' I' => ∃ (q : Nat) (g : Nat → Int32), r = some (.ref q) ∧ w' = lw K [(b, eB (.ref a)), (a, eA K m), (t, eT .null), (q, eA K n)] ∧ I' = cw_up I 3 g ∧ ∀ j, j < n → g j = I 1 j)) 1 n 0 0 I 0 [(0, .ref a), (1, .int 0), (2, .int (nI n))] [] from ?_)
  refine cw_iload_n dJ7_copyOfRangeByte_39247_0 1 rfl rfl ?_
  refine cw_iload_n dJ7_copyOfRangeByte_39247_1 2 rfl rfl ?_
  refine cw_sA (As := [.int 0, .int (nI n)]) ⟨by omega, by omega⟩ (cw_SNof (bu_checkLength (by omega))) oknJ7_checkLength_df160 rfl gJ7_copyOfRangeByte_39247_J7_checkLength_df160 ⟨Nat.le_of_ble_eq_true rfl, Nat.le_of_ble_eq_true rfl⟩ rfl (Nat.le_of_ble_eq_true rfl) dJ7_copyOfRangeByte_39247_2 (fun r w' I' _ h9 => ?_)
  obtain ⟨rfl, rfl, rfl⟩ := h9
  refine cw_iload_n dJ7_copyOfRangeByte_39247_5 2 rfl rfl ?_
  refine cw_iload_n dJ7_copyOfRangeByte_39247_6 1 rfl rfl ?_
  refine cw_isub dJ7_copyOfRangeByte_39247_7 ?_
  rw [show nI n - 0 = nI n by simp]
  refine cw_istore_n dJ7_copyOfRangeByte_39247_8 rfl (by decide) rfl ?_
  refine cw_iload_n dJ7_copyOfRangeByte_39247_9 0 rfl rfl ?_
  refine cw_newb (w' := fun q => lw K [(b, eB (.ref a)), (a, eA K m), (t, eT .null), (q, eA K n)]) (N := n) (cA := K.2.2.1 4) (fun q => lw_ext K [(b, eB (.ref a)), (a, eA K m), (t, eT .null)] q (eA K n)) 4 rfl (by decide +kernel) rfl (by omega) ⟨by omega, by omega⟩ dJ7_copyOfRangeByte_39247_10 (fun q => ?_)
  refine cw_astore dJ7_copyOfRangeByte_39247_12 (by decide) rfl ?_
  refine cw_aload_n dJ7_copyOfRangeByte_39247_14 2 rfl rfl ?_
  refine cw_iload_n dJ7_copyOfRangeByte_39247_15 3 rfl rfl ?_
  refine cw_aload dJ7_copyOfRangeByte_39247_16 0 rfl ?_
  refine cw_iconst (v := 0) dJ7_copyOfRangeByte_39247_18 (by decide) ?_
  refine cw_aload_n dJ7_copyOfRangeByte_39247_19 2 rfl rfl ?_
  refine cw_alen (v := nI m) 1 (show 1 < 4 by decide) rfl 4 rfl rfl dJ7_copyOfRangeByte_39247_20 ?_
  refine cw_iload_n dJ7_copyOfRangeByte_39247_21 3 rfl rfl ?_
  refine cw_isub dJ7_copyOfRangeByte_39247_22 ?_
  rw [show nI m - 0 = nI m by simp]
  refine cw_iload_n dJ7_copyOfRangeByte_39247_23 1 rfl rfl ?_
  refine cw_mmin (by decide +kernel) (by decide +kernel) (by decide +kernel) (by decide +kernel) ⟨Nat.le_of_ble_eq_true rfl, Nat.le_of_ble_eq_true rfl⟩ dJ7_copyOfRangeByte_39247_24 ?_
  rw [show (if nI n < nI m then nI n else nI m) = nI n from by
    by_cases q9 : n < m
    · rw [if_pos (nI_lt q9 (by omega))]
    · rw [if_neg (fun z => q9 ((nI_ltI (by omega) (by omega)).mp z)), show n = m by omega]]
  refine cw_copyb (c0 := K.2.2.1 4) (n0 := m) (n1 := n) (by decide +kernel) (by decide +kernel) (by decide +kernel) (by decide +kernel) 1 3 (show 1 < 4 by decide) (show 3 < 4 by decide) rfl (fun _ => rfl) 4 rfl ⟨by decide, by decide, nI_pos (by omega), by show 0 + (nI n).toNatClampNeg ≤ m; rw [nI_clamp (by omega)]; omega, by show 0 + (nI n).toNatClampNeg ≤ n; rw [nI_clamp (by omega)]; omega⟩ (fun i _ => by
    obtain ⟨c, h1, h2⟩ := hb (0 + i)
    show fits .byte (.int (I 1 (0 + i))) = true
    rw [h2]
    exact bu_fit c h1) ⟨Nat.le_of_ble_eq_true rfl, Nat.le_of_ble_eq_true rfl⟩ dJ7_copyOfRangeByte_39247_27 ?_
  rw [nI_clamp (by omega)]
  refine cw_aload dJ7_copyOfRangeByte_39247_30 0 rfl ?_
  refine cw_widen (u := 1) (v := n) ⟨by omega, by omega⟩ ⟨Nat.le_refl _, Nat.le_refl _⟩ ?_
  refine cw_aretS lw_eqv rfl (Or.inr ⟨_, rfl⟩) (Or.inr ⟨_, rfl⟩) dJ7_copyOfRangeByte_39247_32 ⟨q, va_cpy (I 1) (fun _ => 0) 0 0 n, rfl, rfl, sp_upup I 3 _ _, fun j hj => ?_⟩
  unfold va_cpy
  rw [if_pos ⟨Nat.zero_le _, by omega⟩, Nat.zero_add, Nat.sub_zero]
theorem bu_range {b a m n t : Nat} (hFC : bu_FC (cw_Fc K)) (hn : n ≤ m) (hm : m ≤ 446) (hb : ∀ j, ∃ c : Nat, c < 128 ∧ I 1 j = nI c) : cw_SN 1 n (lw K [(b, eB (.ref a)), (a, eA K m), (t, eT .null)]) nJ7_copyOfRange_39247 [.ref a, .int 0, .int (nI n)] I (fun r w' I' => ∃ (q : Nat) (g : Nat → Int32), r = some (.ref q) ∧ w' = lw K [(b, eB (.ref a)), (a, eA K m), (t, eT .null), (q, eA K n)] ∧ I' = cw_up I 3 g ∧ ∀ j, j < n → g j = I 1 j) := by
  refine cw_entryS oknJ7_copyOfRange_39247 (Nat.le_of_ble_eq_true rfl) (show cw_B (lw K [(b, eB (.ref a)), (a, eA K m), (t, eT .null)]) (lw K [(b, eB (.ref a)), (a, eA K m), (t, eT .null)]) nJ7_copyOfRange_39247 (cw_ZS 1 n (lw K [(b, eB (.ref a)), (a, eA K m), (t, eT .null)]) (fun r w' I' => ∃ (q : Nat) (g : Nat → Int32), r = some (.ref q) ∧ w' = lw K [(b, eB (.ref a)), (a, eA K m), (t, eT .null), (q, eA K n)] ∧ I' = cw_up I 3 g ∧ ∀ j, j < n → g j = I 1 j)) 1 n 0 0 I 0 [(0, .ref a), (1, .int 0), (2, .int (nI n))] [] from ?_)
  refine cw_iload_n dJ7_copyOfRange_39247_0 1 rfl rfl ?_
  refine cw_if_ne (tgt := 10) dJ7_copyOfRange_39247_1 (by decide) (fun q => absurd rfl q) (fun _ => ?_)
  refine cw_iload_n dJ7_copyOfRange_39247_4 2 rfl rfl ?_
  refine cw_aload_n dJ7_copyOfRange_39247_5 0 rfl rfl ?_
  refine cw_alen (v := nI m) 1 (show 1 < 3 by decide) rfl 4 rfl rfl dJ7_copyOfRange_39247_6 ?_
  by_cases qn : n = m
  · refine cw_icmp_eq (tgt := 17) dJ7_copyOfRange_39247_7 (by decide) (fun _ => ?_) (fun q => absurd (by rw [qn]) q)
    refine cw_aload_n dJ7_copyOfRange_39247_17 0 rfl rfl ?_
    refine cw_clone (w := lw K [(b, eB (.ref a)), (a, eA K m), (t, eT .null)]) (ad := "[B") (w' := fun q => lw K [(b, eB (.ref a)), (a, eA K m), (t, eT .null), (q, eA K n)]) (fun q => by rw [qn]; exact lw_ext K [(b, eB (.ref a)), (a, eA K m), (t, eT .null)] q (eA K m)) (by decide +kernel) (by decide +kernel) (by decide +kernel) (by decide +kernel) (by decide +kernel) hFC 1 (show 1 < 3 by decide) rfl 4 rfl rfl (fun i _ => by
      obtain ⟨c, h1, h2⟩ := hb i
      rw [h2]
      exact bu_fit c h1) ⟨Nat.le_of_ble_eq_true rfl, Nat.le_of_ble_eq_true rfl⟩ ⟨by omega, by omega⟩ dJ7_copyOfRange_39247_18 (fun q => ?_)
    refine cw_castA (w := lw K [(b, eB (.ref a)), (a, eA K m), (t, eT .null), (q, eA K n)]) (nm := "[B") (by decide +kernel) 3 (show 3 < 4 by decide) rfl 4 rfl rfl dJ7_copyOfRange_39247_21 ?_
    refine cw_widen (u := 1) (v := n) ⟨by omega, by omega⟩ ⟨Nat.le_refl _, Nat.le_refl _⟩ ?_
    exact cw_aretS lw_eqv rfl (Or.inr ⟨_, rfl⟩) (Or.inr ⟨_, rfl⟩) dJ7_copyOfRange_39247_24 ⟨q, I 1, rfl, rfl, rfl, fun j hj => rfl⟩
  · refine cw_icmp_eq (tgt := 17) dJ7_copyOfRange_39247_7 (by decide) (fun q => absurd q (fun z => qn ((nI_eq (by omega) (by omega)).mp z))) (fun _ => ?_)
    refine cw_aload_n dJ7_copyOfRange_39247_10 0 rfl rfl ?_
    refine cw_iload_n dJ7_copyOfRange_39247_11 1 rfl rfl ?_
    refine cw_iload_n dJ7_copyOfRange_39247_12 2 rfl rfl ?_
    refine cw_sA (As := [.ref a, .int 0, .int (nI n)]) ⟨by omega, by omega⟩ (bu_rangeB (t := t) hn hm hb) oknJ7_copyOfRangeByte_39247 rfl gJ7_copyOfRange_39247_J7_copyOfRangeByte_39247 ⟨Nat.le_of_ble_eq_true rfl, Nat.le_of_ble_eq_true rfl⟩ rfl (Nat.le_of_ble_eq_true rfl) dJ7_copyOfRange_39247_13 (fun r w' I' _ h9 => ?_)
    obtain ⟨q, g, rfl, rfl, rfl, hg⟩ := h9
    refine cw_widen (u := 1) (v := n) ⟨by omega, by omega⟩ ⟨Nat.le_refl _, Nat.le_refl _⟩ ?_
    exact cw_aretS lw_eqv rfl (Or.inr ⟨_, rfl⟩) (Or.inr ⟨_, rfl⟩) dJ7_copyOfRange_39247_16 ⟨q, g, rfl, rfl, rfl, hg⟩
theorem bu_strI2 {b a m n t : Nat} (hFS : cw_FS (cw_Fc K) sd sv) (hFC : bu_FC (cw_Fc K)) (h1 : I 0 1 = 0) (h3 : I 0 3 = nI n) (hn : n ≤ m) (hm : m ≤ 446) (hb : ∀ j, ∃ c : Nat, c < 128 ∧ I 1 j = nI c) : cw_SN 1 n (lw K [(b, eB (.ref a)), (a, eA K m), (t, eT .null)]) nJ0_init_db425 [.ref t, .ref b, .null] I (fun r w' I' => ∃ q : Nat, r = none ∧ w' = lw K [(t, eT (.ref q)), (q, eA K n)] ∧ I' 0 1 = 0 ∧ ∀ j, j < n → I' 1 j = I 1 j) := by
  refine cw_entryS oknJ0_init_db425 (Nat.le_of_ble_eq_true rfl) (show cw_B (lw K [(b, eB (.ref a)), (a, eA K m), (t, eT .null)]) (lw K [(b, eB (.ref a)), (a, eA K m), (t, eT .null)]) nJ0_init_db425 (cw_ZS 1 n (lw K [(b, eB (.ref a)), (a, eA K m), (t, eT .null)]) (fun r w' I' => ∃ q : Nat, r = none ∧ w' = lw K [(t, eT (.ref q)), (q, eA K n)] ∧ I' 0 1 = 0 ∧ ∀ j, j < n → I' 1 j = I 1 j)) 1 n 0 0 I 0 [(0, .ref t), (1, .ref b), (2, .null)] [] from ?_)
  refine cw_aload_n dJ0_init_db425_0 0 rfl rfl ?_
  refine cw_objI (by decide +kernel) (by decide +kernel) (by decide +kernel) ⟨Nat.le_of_ble_eq_true rfl, Nat.le_of_ble_eq_true rfl⟩ dJ0_init_db425_1 ?_
  refine cw_aload_n dJ0_init_db425_4 1 rfl rfl ?_
  refine cw_sU (o := 0) (As := []) (C := RJ4) (ci := 1) ⟨by omega, by omega⟩ (cw_SNof bu_getValue) oknJ5_getValue_6d5f1 rfl gJ0_init_db425_J5_getValue_6d5f1_u552J4 rfl (by decide +kernel) ⟨Nat.le_of_ble_eq_true rfl, Nat.le_of_ble_eq_true rfl⟩ (Nat.succ_pos _) rfl rfl rfl (Nat.le_of_ble_eq_true rfl) dJ0_init_db425_5 (fun r w' I' _ h9 => ?_)
  obtain ⟨rfl, rfl, rfl⟩ := h9
  refine cw_astore_n dJ0_init_db425_8 rfl (by decide) rfl ?_
  refine cw_aload_n dJ0_init_db425_9 2 rfl rfl ?_
  refine cw_sO (o := 0) (As := []) (C := RJ4) (ci := 1) (b0 := cJ5_length_8abf5) (m0 := 1) (r0 := some .int) ⟨by omega, by omega⟩ (cw_SNof (bu_length4 h3)) oknJ4_length_8abf5 rfl gJ0_init_db425_J4_length_8abf5_u549J4 (by decide +kernel) (by decide +kernel) ⟨Nat.le_of_ble_eq_true rfl, Nat.le_of_ble_eq_true rfl⟩ (Nat.succ_pos _) rfl rfl rfl (Nat.le_of_ble_eq_true rfl) dJ0_init_db425_10 (fun r w' I' _ h9 => ?_)
  obtain ⟨rfl, rfl, rfl⟩ := h9
  refine cw_istore dJ0_init_db425_13 (by decide) rfl ?_
  refine cw_aload_n dJ0_init_db425_15 3 rfl rfl ?_
  refine cw_sU (o := 0) (As := []) (C := RJ4) (ci := 1) ⟨by omega, by omega⟩ (cw_SNof (bu_isLatin1 hFS h1)) oknJ5_isLatin1_aae02 rfl gJ0_init_db425_J5_isLatin1_aae02_u1047J4 rfl (by decide +kernel) ⟨Nat.le_of_ble_eq_true rfl, Nat.le_of_ble_eq_true rfl⟩ (Nat.succ_pos _) rfl rfl rfl (Nat.le_of_ble_eq_true rfl) dJ0_init_db425_16 (fun r w' I' _ h9 => ?_)
  obtain ⟨rfl, rfl, rfl⟩ := h9
  refine cw_if_eq (tgt := 41) dJ0_init_db425_19 (by decide) (fun q => absurd q (by decide)) (fun _ => ?_)
  refine cw_aload_n dJ0_init_db425_22 2 rfl rfl ?_
  refine cw_iconst (v := 0) dJ0_init_db425_23 (by decide) ?_
  refine cw_putF (w' := lw K [(b, eB (.ref a)), (a, eA K m), (t, eT .null)]) (I' := cw_st I 2 1 0) (C := RJ0) (T := TJ0) (N := 4) (ci := 0) rfl (by decide +kernel) tyJ0 tyJ0_ok nmJ0 2 (show 2 < 3 by decide) rfl rfl 1 (by decide) (by decide +kernel) rfl rfl rfl rfl (show 1 < 4 by decide) lw_eqv rfl (fun j => by rcases j with _ | _ | _ | j <;> rfl) rfl (fun j hj hj0 => by rcases j with _ | _ | _ | j <;> first | exact absurd rfl hj0 | rfl) dJ0_init_db425_24 ?_
  refine cw_aload_n dJ0_init_db425_27 2 rfl rfl ?_
  refine cw_aload_n dJ0_init_db425_28 1 rfl rfl ?_
  refine cw_iconst (v := 0) dJ0_init_db425_29 (by decide) ?_
  refine cw_iload dJ0_init_db425_30 0 rfl ?_
  refine cw_sA (As := [.ref a, .int 0, .int (nI n)]) ⟨by omega, by omega⟩ (bu_range (I := cw_st I 2 1 0) (t := t) hFC hn hm hb) oknJ7_copyOfRange_39247 rfl gJ0_init_db425_J7_copyOfRange_39247 ⟨Nat.le_of_ble_eq_true rfl, Nat.le_of_ble_eq_true rfl⟩ rfl (Nat.le_of_ble_eq_true rfl) dJ0_init_db425_32 (fun r w' I' _ h9 => ?_)
  obtain ⟨q, g, rfl, rfl, rfl, hg⟩ := h9
  refine cw_putF (w' := lw K [(b, eB (.ref a)), (a, eA K m), (t, eT (.ref q)), (q, eA K n)]) (I' := cw_up (cw_st I 2 1 0) 3 g) (C := RJ0) (T := TJ0) (N := 4) (ci := 0) rfl (by decide +kernel) tyJ0 tyJ0_ok nmJ0 2 (show 2 < 4 by decide) rfl rfl 0 (by decide) (by decide +kernel) rfl rfl rfl rfl (show 0 < 4 by decide) lw_eqv rfl (fun j => by rcases j with _ | _ | _ | _ | j <;> rfl) rfl (fun j hj hj0 => by rcases j with _ | _ | _ | _ | j <;> first | exact absurd rfl hj0 | rfl) dJ0_init_db425_35 ?_
  refine cw_goto (tgt := 97) dJ0_init_db425_38 (by decide) ?_
  refine cw_perm (lw K [(t, eT (.ref q)), (q, eA K n)]) (fun k => (cw_up (cw_st I 2 1 0) 3 g) (k + 2)) (fun k => k + 2) lw_eqv (fun k hk => by
    rcases k with _ | _ | k
    · exact ⟨show 2 < 4 by decide, rfl, rfl⟩
    · exact ⟨show 3 < 4 by decide, rfl, rfl⟩
    · have : k + 1 + 1 < 2 := hk
      omega) (fun i j _ _ hij => by omega) ?_
  refine cw_widen (u := 1) (v := n) ⟨by omega, by omega⟩ ⟨Nat.le_refl _, Nat.le_refl _⟩ ?_
  exact cw_vretS lw_eqv rfl dJ0_init_db425_97 ⟨q, rfl, rfl, rfl, hg⟩
theorem bu_strI1 {b a m n t : Nat} (hFS : cw_FS (cw_Fc K) sd sv) (hFC : bu_FC (cw_Fc K)) (h1 : I 0 1 = 0) (h3 : I 0 3 = nI n) (hn : n ≤ m) (hm : m ≤ 446) (hb : ∀ j, ∃ c : Nat, c < 128 ∧ I 1 j = nI c) : cw_SN 1 n (lw K [(b, eB (.ref a)), (a, eA K m), (t, eT .null)]) nJ0_init_81219 [.ref t, .ref b] I (fun r w' I' => ∃ q : Nat, r = none ∧ w' = lw K [(t, eT (.ref q)), (q, eA K n)] ∧ I' 0 1 = 0 ∧ ∀ j, j < n → I' 1 j = I 1 j) := by
  refine cw_entryS oknJ0_init_81219 (Nat.le_of_ble_eq_true rfl) (show cw_B (lw K [(b, eB (.ref a)), (a, eA K m), (t, eT .null)]) (lw K [(b, eB (.ref a)), (a, eA K m), (t, eT .null)]) nJ0_init_81219 (cw_ZS 1 n (lw K [(b, eB (.ref a)), (a, eA K m), (t, eT .null)]) (fun r w' I' => ∃ q : Nat, r = none ∧ w' = lw K [(t, eT (.ref q)), (q, eA K n)] ∧ I' 0 1 = 0 ∧ ∀ j, j < n → I' 1 j = I 1 j)) 1 n 0 0 I 0 [(0, .ref t), (1, .ref b)] [] from ?_)
  refine cw_aload_n dJ0_init_81219_0 0 rfl rfl ?_
  refine cw_aload_n dJ0_init_81219_1 1 rfl rfl ?_
  refine cw_null dJ0_init_81219_2 ?_
  refine cw_sI (As := [.ref b, .null]) ⟨by omega, by omega⟩ (bu_strI2 hFS hFC h1 h3 hn hm hb) oknJ0_init_db425 rfl gJ0_init_81219_J0_init_db425 rfl (by decide +kernel) (by decide +kernel) (by decide +kernel) rfl ⟨Nat.le_of_ble_eq_true rfl, Nat.le_of_ble_eq_true rfl⟩ rfl (Nat.le_of_ble_eq_true rfl) dJ0_init_81219_3 (fun r w' I' _ h9 => ?_)
  obtain ⟨q, rfl, rfl, hq⟩ := h9
  refine cw_widen (u := 1) (v := n) ⟨by omega, by omega⟩ ⟨Nat.le_refl _, Nat.le_refl _⟩ ?_
  exact cw_vretS lw_eqv rfl dJ0_init_81219_6 ⟨q, rfl, rfl, hq⟩
theorem bu_toString {b a m : Nat} {tl : List Nat} (hFS : cw_FS (cw_Fc K) sd sv) (hFC : bu_FC (cw_Fc K)) (hT : buT m tl I) : cw_SN 2 (4 + tl.length) (B2 K b a m) nJ4_toString_0e30d [.ref b] I (fun r w' I' => ∃ t q : Nat, r = some (.ref t) ∧ w' = lw K [(t, eT (.ref q)), (q, eA K tl.length)] ∧ I' 0 1 = 0 ∧ ∀ j, j < tl.length → I' 1 j = nI (tl.getD j 0)) := by
  refine cw_entryS oknJ4_toString_0e30d (Nat.le_of_ble_eq_true rfl) (show cw_B (B2 K b a m) (B2 K b a m) nJ4_toString_0e30d (cw_ZS 2 (4 + tl.length) (B2 K b a m) (fun r w' I' => ∃ t q : Nat, r = some (.ref t) ∧ w' = lw K [(t, eT (.ref q)), (q, eA K tl.length)] ∧ I' 0 1 = 0 ∧ ∀ j, j < tl.length → I' 1 j = nI (tl.getD j 0))) 2 (4 + tl.length) 0 0 I 0 [(0, .ref b)] [] from ?_)
  refine cw_newo (w' := fun t => lw K [(b, eB (.ref a)), (a, eA K m), (t, eT .null)]) (C := RJ0) (T := TJ0) (N := 4) (ci := 0) (fs := [.null, .int 0, .int 0, .int 0]) (E := eT .null) (by decide +kernel) tyJ0 tyJ0_ok (by decide +kernel) (by decide +kernel) (by decide +kernel) rfl (fun j hj => by rcases (show j = 0 ∨ j = 1 ∨ j = 2 ∨ j = 3 by omega) with rfl | rfl | rfl | rfl <;> rfl) (fun t => lw_ext K [(b, eB (.ref a)), (a, eA K m)] t (eT .null)) rfl ⟨by omega, by omega⟩ dJ4_toString_0e30d_0 (fun t => ?_)
  refine cw_dup dJ4_toString_0e30d_3 rfl ?_
  refine cw_aload_n dJ4_toString_0e30d_4 0 rfl rfl ?_
  refine cw_sI (As := [.ref b]) ⟨by omega, by omega⟩ (bu_strI1 (I := cw_up I 2 (fun _ => 0)) (t := t) hFS hFC hT.2.2.1 hT.2.2.2.1 hT.1 hT.2.1 hT.2.2.2.2.2) oknJ0_init_81219 rfl gJ4_toString_0e30d_J0_init_81219 rfl (by decide +kernel) (by decide +kernel) (by decide +kernel) rfl ⟨Nat.le_of_ble_eq_true rfl, Nat.le_of_ble_eq_true rfl⟩ rfl (Nat.le_of_ble_eq_true rfl) dJ4_toString_0e30d_5 (fun r w' I' _ h9 => ?_)
  obtain ⟨q, rfl, rfl, hq1, hq2⟩ := h9
  refine cw_widen (u := 2) (v := 4 + tl.length) ⟨by omega, by omega⟩ ⟨Nat.le_refl _, Nat.le_refl _⟩ ?_
  exact cw_aretS lw_eqv rfl (Or.inl ⟨_, rfl⟩) (Or.inr ⟨_, rfl⟩) dJ4_toString_0e30d_8 ⟨t, q, rfl, rfl, hq1, fun j hj => (hq2 j hj).trans (hT.2.2.2.2.1 j hj)⟩
end SBP
