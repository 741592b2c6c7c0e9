/-! ## the text of a setup: append -/
section SBN
variable {K : cw_K} {I : cw_M} {sd sv : Nat → Nat}
def nJ5_isLatin1_aae02 : cw_Me := (yJ5_isLatin1_aae02, wsJ5_isLatin1_aae02, cJ5_isLatin1_aae02, 1, (some .boolean), 0, 0)
theorem oknJ5_isLatin1_aae02 : cw_ok nJ5_isLatin1_aae02 0 := okJ5_isLatin1_aae02
def nJ5_length_8abf5 : cw_Me := (yJ5_length_8abf5, wsJ5_length_8abf5, cJ5_length_8abf5, 1, (some .int), 0, 0)
theorem oknJ5_length_8abf5 : cw_ok nJ5_length_8abf5 0 := okJ5_length_8abf5
def nJ4_length_8abf5 : cw_Me := (yJ4_length_8abf5, wsJ4_length_8abf5, cJ4_length_8abf5, 1, (some .int), 1, 20)
theorem oknJ4_length_8abf5 : cw_ok nJ4_length_8abf5 0 := okJ4_length_8abf5
def nJ5_getValue_6d5f1 : cw_Me := (yJ5_getValue_6d5f1, wsJ5_getValue_6d5f1, cJ5_getValue_6d5f1, 1, (some (.array .byte)), 0, 0)
theorem oknJ5_getValue_6d5f1 : cw_ok nJ5_getValue_6d5f1 0 := okJ5_getValue_6d5f1
def nJ1_canEncode_fc78d : cw_Me := (yJ1_canEncode_fc78d, wsJ1_canEncode_fc78d, cJ1_canEncode_fc78d, 1, (some .boolean), 0, 0)
theorem oknJ1_canEncode_fc78d : cw_ok nJ1_canEncode_fc78d 1 := okJ1_canEncode_fc78d
def nJ5_inflateIfNeededFor_a7421 : cw_Me := (yJ5_inflateIfNeededFor_a7421, wsJ5_inflateIfNeededFor_a7421, cJ5_inflateIfNeededFor_a7421, 2, none, 6, 137)
theorem oknJ5_inflateIfNeededFor_a7421 : cw_ok nJ5_inflateIfNeededFor_a7421 1 := okJ5_inflateIfNeededFor_a7421
def nJ5_putStringAt_47b60 : cw_Me := (yJ5_putStringAt_47b60, wsJ5_putStringAt_47b60, cJ5_putStringAt_47b60, 3, none, 7, 158)
theorem oknJ5_putStringAt_47b60 : cw_ok nJ5_putStringAt_47b60 2 := okJ5_putStringAt_47b60
def nJ0_getBytes_840e7 : cw_Me := (yJ0_getBytes_840e7, wsJ0_getBytes_840e7, cJ0_getBytes_840e7, 4, none, 5, 116)
theorem oknJ0_getBytes_840e7 : cw_ok nJ0_getBytes_840e7 3 := okJ0_getBytes_840e7
def nJ5_append_cf1ce : cw_Me := (yJ5_append_cf1ce, wsJ5_append_cf1ce, cJ5_append_cf1ce, 3, (some (.object "java/lang/AbstractStringBuilder")), 8, 180)
theorem oknJ5_append_cf1ce : cw_ok nJ5_append_cf1ce 1 := okJ5_append_cf1ce
def nJ4_append_15ec4 : cw_Me := (yJ4_append_15ec4, wsJ4_append_15ec4, cJ4_append_15ec4, 2, (some (.object "java/lang/StringBuilder")), 9, 202)
theorem oknJ4_append_15ec4 : cw_ok nJ4_append_15ec4 1 := okJ4_append_15ec4
def nJ4_append_cf1ce : cw_Me := (yJ4_append_cf1ce, wsJ4_append_cf1ce, cJ4_append_cf1ce, 2, (some (.object "java/lang/AbstractStringBuilder")), 10, 223)
theorem oknJ4_append_cf1ce : cw_ok nJ4_append_cf1ce 1 := okJ4_append_cf1ce
def nJ5_init_a7421 : cw_Me := (yJ5_init_a7421, wsJ5_init_a7421, cJ5_init_a7421, 5, none, 11, 244)
theorem oknJ5_init_a7421 : cw_ok nJ5_init_a7421 1 := okJ5_init_a7421
def nJ4_init_a7421 : cw_Me := (yJ4_init_a7421, wsJ4_init_a7421, cJ4_init_a7421, 2, none, 12, 268)
theorem oknJ4_init_a7421 : cw_ok nJ4_init_a7421 1 := okJ4_init_a7421
def nJ6_stringSize_0f7a4 : cw_Me := (yJ6_stringSize_0f7a4, wsJ6_stringSize_0f7a4, cJ6_stringSize_0f7a4, 4, (some .int), 0, 0)
theorem oknJ6_stringSize_0f7a4 : cw_ok nJ6_stringSize_0f7a4 1 := okJ6_stringSize_0f7a4
def nJ6_getChars_ba4f3 : cw_Me := (yJ6_getChars_ba4f3, wsJ6_getChars_ba4f3, cJ6_getChars_ba4f3, 7, (some .int), 0, 0)
theorem oknJ6_getChars_ba4f3 : cw_ok nJ6_getChars_ba4f3 3 := okJ6_getChars_ba4f3
def nJ5_append_c97b9 : cw_Me := (yJ5_append_c97b9, wsJ5_append_c97b9, cJ5_append_c97b9, 4, (some (.object "java/lang/AbstractStringBuilder")), 4, 92)
theorem oknJ5_append_c97b9 : cw_ok nJ5_append_c97b9 1 := okJ5_append_c97b9
def nJ4_append_bf812 : cw_Me := (yJ4_append_bf812, wsJ4_append_bf812, cJ4_append_bf812, 2, (some (.object "java/lang/StringBuilder")), 5, 115)
theorem oknJ4_append_bf812 : cw_ok nJ4_append_bf812 1 := okJ4_append_bf812
def nJ5_append_3fe6f : cw_Me := (yJ5_append_3fe6f, wsJ5_append_3fe6f, cJ5_append_3fe6f, 2, (some (.object "java/lang/AbstractStringBuilder")), 6, 137)
theorem oknJ5_append_3fe6f : cw_ok nJ5_append_3fe6f 1 := okJ5_append_3fe6f
def nJ4_append_cf468 : cw_Me := (yJ4_append_cf468, wsJ4_append_cf468, cJ4_append_cf468, 2, (some (.object "java/lang/StringBuilder")), 7, 158)
theorem oknJ4_append_cf468 : cw_ok nJ4_append_cf468 1 := okJ4_append_cf468
theorem bu_isLatin1 {b : Nat} {v : Value} {l : List (Nat × ((Nat → Int32) → va_E))} (hFS : cw_FS (cw_Fc K) sd sv) (h1 : I 0 1 = 0) : cw_C (lw K ((b, eB v) :: l)) nJ5_isLatin1_aae02 [.ref b] I (some (.int 1)) I := by
  refine cw_entry oknJ5_isLatin1_aae02 (Nat.le_of_ble_eq_true rfl) (show cw_B (lw K ((b, eB v) :: l)) (lw K ((b, eB v) :: l)) nJ5_isLatin1_aae02 (cw_Z (lw K ((b, eB v) :: l)) (some (.int 1)) I) 0 0 0 0 I 0 [(0, .ref b)] [] from ?_)
  refine cw_gets (fun A U H q => (hFS A U H q).1) (by decide +kernel) dJ5_isLatin1_aae02_0 ?_
  refine cw_if_eq (tgt := 17) dJ5_isLatin1_aae02_3 (by decide) (fun q => absurd q (by decide)) (fun _ => ?_)
  refine cw_aload_n dJ5_isLatin1_aae02_6 0 rfl rfl ?_
  refine cw_getf (C := RJ4) (T := TJ4) (N := 4) (ci := 1) (v := .int (0)) (by decide +kernel) 0 (Nat.succ_pos _) rfl rfl 1 (by decide) (by decide +kernel) (by show some (Value.int (I 0 1)) = _; rw [h1]) dJ5_isLatin1_aae02_7 ?_
  refine cw_if_ne (tgt := 17) dJ5_isLatin1_aae02_10 (by decide) (fun q => absurd rfl q) (fun _ => ?_)
  refine cw_iconst (v := 1) dJ5_isLatin1_aae02_13 (by decide) ?_
  refine cw_goto (tgt := 18) dJ5_isLatin1_aae02_14 (by decide) ?_
  exact cw_bret rfl dJ5_isLatin1_aae02_18 (by decide) ⟨rfl, rfl⟩
theorem bu_length5 {b n : Nat} {v : Value} {l : List (Nat × ((Nat → Int32) → va_E))} (h1 : I 0 3 = nI n) : cw_C (lw K ((b, eB v) :: l)) nJ5_length_8abf5 [.ref b] I (some (.int (nI n))) I := by
  refine cw_entry oknJ5_length_8abf5 (Nat.le_of_ble_eq_true rfl) (show cw_B (lw K ((b, eB v) :: l)) (lw K ((b, eB v) :: l)) nJ5_length_8abf5 (cw_Z (lw K ((b, eB v) :: l)) (some (.int (nI n))) I) 0 0 0 0 I 0 [(0, .ref b)] [] from ?_)
  refine cw_aload_n dJ5_length_8abf5_0 0 rfl rfl ?_
  refine cw_getf (C := RJ4) (T := TJ4) (N := 4) (ci := 1) (v := .int (nI n)) (by decide +kernel) 0 (Nat.succ_pos _) rfl rfl 3 (by decide) (by decide +kernel) (by show some (Value.int (I 0 3)) = _; rw [h1]) dJ5_length_8abf5_1 ?_
  exact cw_iret rfl dJ5_length_8abf5_4 ⟨rfl, rfl⟩
theorem bu_length4 {b n : Nat} {v : Value} {l : List (Nat × ((Nat → Int32) → va_E))} (h1 : I 0 3 = nI n) : cw_C (lw K ((b, eB v) :: l)) nJ4_length_8abf5 [.ref b] I (some (.int (nI n))) I := by
  refine cw_entry oknJ4_length_8abf5 (Nat.le_of_ble_eq_true rfl) (show cw_B (lw K ((b, eB v) :: l)) (lw K ((b, eB v) :: l)) nJ4_length_8abf5 (cw_Z (lw K ((b, eB v) :: l)) (some (.int (nI n))) I) 0 0 0 0 I 0 [(0, .ref b)] [] from ?_)
  refine cw_aload_n dJ4_length_8abf5_0 0 rfl rfl ?_
  refine cw_sSU (o := 0) (As := []) (C := RJ4) (ci := 1) ⟨Nat.le_refl _, Nat.le_refl _⟩ (cw_SNof (bu_length5 h1)) oknJ5_length_8abf5 rfl gJ4_length_8abf5_J5_length_8abf5_s343 (by decide +kernel) ⟨Nat.le_of_ble_eq_true rfl, Nat.le_of_ble_eq_true rfl⟩ (Nat.succ_pos _) rfl rfl rfl (Nat.le_of_ble_eq_true rfl) dJ4_length_8abf5_1 (fun r w' I' _ h9 => ?_)
  obtain ⟨rfl, rfl, rfl⟩ := h9
  exact cw_iret rfl dJ4_length_8abf5_4 ⟨rfl, rfl⟩
theorem bu_canEncode {w : cw_G} {c : Nat} (hc : c < 128) : cw_C (w) nJ1_canEncode_fc78d [.int (nI c)] I (some (.int 1)) I := by
  refine cw_entry oknJ1_canEncode_fc78d (Nat.le_of_ble_eq_true rfl) (show cw_B (w) (w) nJ1_canEncode_fc78d (cw_Z (w) (some (.int 1)) I) 0 0 0 0 I 0 [(0, .int (nI c))] [] from ?_)
  refine cw_iload_n dJ1_canEncode_fc78d_0 0 rfl rfl ?_
  refine cw_sipush (v := 255) dJ1_canEncode_fc78d_1 (by decide) ?_
  refine cw_icmp_gt (tgt := 11) dJ1_canEncode_fc78d_4 (by decide) (fun q => absurd q (Int32.not_lt.mpr (show nI c ≤ nI 255 from nI_le (by omega) (by omega)))) (fun _ => ?_)
  refine cw_iconst (v := 1) dJ1_canEncode_fc78d_7 (by decide) ?_
  refine cw_goto (tgt := 12) dJ1_canEncode_fc78d_8 (by decide) ?_
  exact cw_bret rfl dJ1_canEncode_fc78d_12 (by decide) ⟨rfl, rfl⟩
theorem bu_getBytes {b a m i k : Nat} (hFS : cw_FS (cw_Fc K) sd sv) (hk : cw_tk k) (hi : i + (cw_tx k).length ≤ m) (hm : m ≤ 446) (hf : ∀ j, j < (cw_tx k).length → fits .byte (.int ((cw_tx k).getD j 0)) = true) : cw_C (B2 K b a m) nJ0_getBytes_840e7 [.ref (sd k), .ref a, .int (nI i), .int 0] I none (cw_up I 1 (va_cpy (fun j => (cw_tx k).getD j 0) (I 1) 0 i (cw_tx k).length)) := by
  refine cw_entry oknJ0_getBytes_840e7 (Nat.le_of_ble_eq_true rfl) (show cw_B (B2 K b a m) (B2 K b a m) nJ0_getBytes_840e7 (cw_Z (B2 K b a m) none (cw_up I 1 (va_cpy (fun j => (cw_tx k).getD j 0) (I 1) 0 i (cw_tx k).length))) 0 0 0 0 I 0 [(0, .ref (sd k)), (1, .ref a), (2, .int (nI i)), (3, .int 0)] [] from ?_)
  refine cw_aload_n dJ0_getBytes_840e7_0 0 rfl rfl ?_
  refine cw_callK (As := []) (jd_coder hFS hk) okJ0_coder_7d493 rfl gJ0_getBytes_840e7_J0_coder_7d493 ⟨Nat.le_of_ble_eq_true rfl, Nat.le_of_ble_eq_true rfl⟩ (fun A U H q => (hFS.str A U H q hk).1) rfl (Nat.le_of_ble_eq_true rfl) dJ0_getBytes_840e7_1 ?_
  refine cw_iload_n dJ0_getBytes_840e7_4 3 rfl rfl ?_
  refine cw_icmp_ne (tgt := 28) dJ0_getBytes_840e7_5 (by decide) (fun q => absurd rfl q) (fun _ => ?_)
  refine cw_aload_n dJ0_getBytes_840e7_8 0 rfl rfl ?_
  refine cw_getk (fun A U H q => (hFS.str A U H q hk).2.2.1) (by decide +kernel) dJ0_getBytes_840e7_9 ?_
  refine cw_iconst (v := 0) dJ0_getBytes_840e7_12 (by decide) ?_
  refine cw_aload_n dJ0_getBytes_840e7_13 1 rfl rfl ?_
  refine cw_iload_n dJ0_getBytes_840e7_14 2 rfl rfl ?_
  refine cw_iload_n dJ0_getBytes_840e7_15 3 rfl rfl ?_
  refine cw_ishl dJ0_getBytes_840e7_16 ?_
  rw [bu_shl0]
  refine cw_aload_n dJ0_getBytes_840e7_17 0 rfl rfl ?_
  refine cw_getk (fun A U H q => (hFS.str A U H q hk).2.2.1) (by decide +kernel) dJ0_getBytes_840e7_18 ?_
  refine cw_tlen (v := nI (cw_tx k).length) (fun A U H q => (hFS.str A U H q hk).2.2.2) rfl dJ0_getBytes_840e7_21 ?_
  refine cw_copyT (n0 := (cw_tx k).length) (f := fun j => (cw_tx k).getD j 0) (c1 := K.2.2.1 4) (n1 := m) (by decide +kernel) (by decide +kernel) (by decide +kernel) (by decide +kernel) (fun A U H q => (hFS.str A U H q hk).2.2.2) 1 (show 1 < 2 by decide) (fun _ => rfl) 4 rfl ⟨by decide, nI_pos (by omega), nI_pos (by omega), by show 0 + (nI (cw_tx k).length).toNatClampNeg ≤ _; rw [nI_clamp (by omega)]; omega, by show (nI i).toNatClampNeg + (nI (cw_tx k).length).toNatClampNeg ≤ m; rw [nI_clamp (by omega), nI_clamp (by omega)]; exact hi⟩ (fun j hj => by
    rw [nI_clamp (by omega)] at hj
    show fits .byte (.int ((cw_tx k).getD (0 + j) 0)) = true
    rw [Nat.zero_add]
    exact hf j hj) ⟨Nat.le_of_ble_eq_true rfl, Nat.le_of_ble_eq_true rfl⟩ dJ0_getBytes_840e7_22 ?_
  rw [nI_clamp (show i < 2 ^ 31 by omega), nI_clamp (show (cw_tx k).length < 2 ^ 31 by omega)]
  refine cw_goto (tgt := 43) dJ0_getBytes_840e7_25 (by decide) ?_
  exact cw_vret rfl dJ0_getBytes_840e7_43 ⟨rfl, rfl⟩
theorem bu_inflateIf {b k : Nat} {v : Value} {l : List (Nat × ((Nat → Int32) → va_E))} (hFS : cw_FS (cw_Fc K) sd sv) (hk : cw_tk k) (h1 : I 0 1 = 0) : cw_C (lw K ((b, eB v) :: l)) nJ5_inflateIfNeededFor_a7421 [.ref b, .ref (sd k)] I none I := by
  refine cw_entry oknJ5_inflateIfNeededFor_a7421 (Nat.le_of_ble_eq_true rfl) (show cw_B (lw K ((b, eB v) :: l)) (lw K ((b, eB v) :: l)) nJ5_inflateIfNeededFor_a7421 (cw_Z (lw K ((b, eB v) :: l)) none I) 0 0 0 0 I 0 [(0, .ref b), (1, .ref (sd k))] [] from ?_)
  refine cw_gets (fun A U H q => (hFS A U H q).1) (by decide +kernel) dJ5_inflateIfNeededFor_a7421_0 ?_
  refine cw_if_eq (tgt := 21) dJ5_inflateIfNeededFor_a7421_3 (by decide) (fun q => absurd q (by decide)) (fun _ => ?_)
  refine cw_aload_n dJ5_inflateIfNeededFor_a7421_6 0 rfl rfl ?_
  refine cw_getf (C := RJ4) (T := TJ4) (N := 4) (ci := 1) (v := .int (0)) (by decide +kernel) 0 (Nat.succ_pos _) rfl rfl 1 (by decide) (by decide +kernel) (by show some (Value.int (I 0 1)) = _; rw [h1]) dJ5_inflateIfNeededFor_a7421_7 ?_
  refine cw_aload_n dJ5_inflateIfNeededFor_a7421_10 1 rfl rfl ?_
  refine cw_callK (As := []) (jd_coder hFS hk) okJ0_coder_7d493 rfl gJ5_inflateIfNeededFor_a7421_J0_coder_7d493 ⟨Nat.le_of_ble_eq_true rfl, Nat.le_of_ble_eq_true rfl⟩ (fun A U H q => (hFS.str A U H q hk).1) rfl (Nat.le_of_ble_eq_true rfl) dJ5_inflateIfNeededFor_a7421_11 ?_
  refine cw_icmp_eq (tgt := 21) dJ5_inflateIfNeededFor_a7421_14 (by decide) (fun _ => ?_) (fun q => absurd rfl q)
  exact cw_vret rfl dJ5_inflateIfNeededFor_a7421_21 ⟨rfl, rfl⟩
theorem bu_putStringAt {b a m i k : Nat} (hFS : cw_FS (cw_Fc K) sd sv) (hk : cw_tk k) (h1 : I 0 1 = 0) (hi : i + (cw_tx k).length ≤ m) (hm : m ≤ 446) (hf : ∀ j, j < (cw_tx k).length → fits .byte (.int ((cw_tx k).getD j 0)) = true) : cw_C (B2 K b a m) nJ5_putStringAt_47b60 [.ref b, .int (nI i), .ref (sd k)] I none (cw_up I 1 (va_cpy (fun j => (cw_tx k).getD j 0) (I 1) 0 i (cw_tx k).length)) := by
  refine cw_entry oknJ5_putStringAt_47b60 (Nat.le_of_ble_eq_true rfl) (show cw_B (B2 K b a m) (B2 K b a m) nJ5_putStringAt_47b60 (cw_Z (B2 K b a m) none (cw_up I 1 (va_cpy (fun j => (cw_tx k).getD j 0) (I 1) 0 i (cw_tx k).length))) 0 0 0 0 I 0 [(0, .ref b), (1, .int (nI i)), (2, .ref (sd k))] [] from ?_)
  refine cw_aload_n dJ5_putStringAt_47b60_0 0 rfl rfl ?_
  refine cw_aload_n dJ5_putStringAt_47b60_1 2 rfl rfl ?_
  refine cw_sU (o := 0) (As := [.ref (sd k)]) (C := RJ4) (ci := 1) ⟨Nat.le_refl _, Nat.le_refl _⟩ (cw_SNof (bu_inflateIf hFS hk h1)) oknJ5_inflateIfNeededFor_a7421 rfl gJ5_putStringAt_47b60_J5_inflateIfNeededFor_a7421_u397J4 rfl (by decide +kernel) ⟨Nat.le_of_ble_eq_true rfl, Nat.le_of_ble_eq_true rfl⟩ (Nat.succ_pos _) rfl rfl rfl (Nat.le_of_ble_eq_true rfl) dJ5_putStringAt_47b60_2 (fun r w' I' _ h9 => ?_)
  obtain ⟨rfl, rfl, rfl⟩ := h9
  refine cw_aload_n dJ5_putStringAt_47b60_5 2 rfl rfl ?_
  refine cw_aload_n dJ5_putStringAt_47b60_6 0 rfl rfl ?_
  refine cw_getf (C := RJ4) (T := TJ4) (N := 4) (ci := 1) (v := .ref a) (by decide +kernel) 0 (Nat.succ_pos _) rfl rfl 0 (by decide) (by decide +kernel) rfl dJ5_putStringAt_47b60_7 ?_
  refine cw_iload_n dJ5_putStringAt_47b60_10 1 rfl rfl ?_
  refine cw_aload_n dJ5_putStringAt_47b60_11 0 rfl rfl ?_
  refine cw_getf (C := RJ4) (T := TJ4) (N := 4) (ci := 1) (v := .int (0)) (by decide +kernel) 0 (Nat.succ_pos _) rfl rfl 1 (by decide) (by decide +kernel) (by show some (Value.int (I 0 1)) = _; rw [h1]) dJ5_putStringAt_47b60_12 ?_
  refine cw_callK (As := [.ref a, .int (nI i), .int 0]) (bu_getBytes hFS hk hi hm hf) oknJ0_getBytes_840e7 rfl gJ5_putStringAt_47b60_J0_getBytes_840e7 ⟨Nat.le_of_ble_eq_true rfl, Nat.le_of_ble_eq_true rfl⟩ (fun A U H q => (hFS.str A U H q hk).1) rfl (Nat.le_of_ble_eq_true rfl) dJ5_putStringAt_47b60_15 ?_
  exact cw_vret rfl dJ5_putStringAt_47b60_18 ⟨rfl, rfl⟩
/-- the text k in numbers, below 128 -/
theorem bu_txs : ∀ k, k < 4 → (cw_tx k).length = (bu_tx k).length ∧ (∀ j, j < (cw_tx k).length → (cw_tx k).getD j 0 = nI ((bu_tx k).getD j 0) ∧ (bu_tx k).getD j 0 < 128) := by decide +kernel
theorem bu_put {m k : Nat} {tl : List Nat} (hk4 : k < 4) (hT : buT m tl I) (hl : tl.length + (cw_tx k).length ≤ m) : buT m (tl ++ bu_tx k) (cw_st (cw_up I 1 (va_cpy (fun j => (cw_tx k).getD j 0) (I 1) 0 tl.length (cw_tx k).length)) 0 3 (nI (tl.length + (cw_tx k).length))) := by
  obtain ⟨t1, t2, t3, t4, t5, t6⟩ := hT
  obtain ⟨x1, x2⟩ := bu_txs k hk4
  refine ⟨by rw [List.length_append]; omega, t2, t3, by rw [List.length_append, ← x1]; rfl, fun j hj => ?_, fun j => ?_⟩
  · show va_cpy (fun j => (cw_tx k).getD j 0) (I 1) 0 tl.length (cw_tx k).length j = _
    rw [List.length_append] at hj
    unfold va_cpy
    by_cases q : j < tl.length
    · rw [if_neg (by omega), t5 j q, List.getD_eq_getElem?_getD, List.getD_eq_getElem?_getD, List.getElem?_append_left q]
    · rw [if_pos ⟨by omega, by omega⟩, Nat.zero_add]
      show (cw_tx k).getD (j - tl.length) 0 = _
      rw [(x2 (j - tl.length) (by omega)).1, List.getD_eq_getElem?_getD, List.getD_eq_getElem?_getD, List.getElem?_append_right (by omega)]
  · show ∃ c : Nat, c < 128 ∧ va_cpy (fun j => (cw_tx k).getD j 0) (I 1) 0 tl.length (cw_tx k).length j = nI c
    unfold va_cpy
    by_cases q : tl.length ≤ j ∧ j < tl.length + (cw_tx k).length
    · rw [if_pos q, Nat.zero_add]
      obtain ⟨y1, y2⟩ := x2 (j - tl.length) (by omega)
      exact ⟨_, y2, y1⟩
    · rw [if_neg q]
      exact t6 j
theorem bu_txfit {k : Nat} (hk4 : k < 4) : ∀ j, j < (cw_tx k).length → fits .byte (.int ((cw_tx k).getD j 0)) = true := fun j hj => by
  obtain ⟨y1, y2⟩ := (bu_txs k hk4).2 j hj
  rw [y1]
  exact bu_fit _ y2
theorem bu_tk {k : Nat} (hk4 : k < 4) : cw_tk k := by
  unfold cw_tk
  omega
/-- what an append of the letters xs leaves -/
abbrev buA (K : cw_K) (b : Nat) (tl : List Nat) : Option Value → cw_G → cw_M → Prop := fun r w' I' => ∃ a' m' : Nat, r = some (.ref b) ∧ w' = B2 K b a' m' ∧ buT m' tl I'
theorem bu_append5 {b a m k : Nat} {tl : List Nat} (hFS : cw_FS (cw_Fc K) sd sv) (hk4 : k < 4) (hT : buT m tl I) (hl : tl.length + (cw_tx k).length ≤ 223) : cw_SN 1 446 (B2 K b a m) nJ5_append_cf1ce [.ref b, .ref (sd k)] I (buA K b (tl ++ bu_tx k)) := by
  refine cw_entryS oknJ5_append_cf1ce (Nat.le_of_ble_eq_true rfl) (show cw_B (B2 K b a m) (B2 K b a m) nJ5_append_cf1ce (cw_ZS 1 446 (B2 K b a m) (buA K b (tl ++ bu_tx k))) 1 446 0 0 I 0 [(0, .ref b), (1, .ref (sd k))] [] from ?_)
  refine cw_aload_n dJ5_append_cf1ce_0 1 rfl rfl ?_
  refine cw_ifnonnull (tgt := 9) dJ5_append_cf1ce_1 (by decide) ?_
  refine cw_aload_n dJ5_append_cf1ce_9 1 rfl rfl ?_
  refine cw_callK (As := []) (jd_length hFS (bu_tk hk4)) okJ0_length_8abf5 rfl gJ5_append_cf1ce_J0_length_8abf5 ⟨Nat.le_of_ble_eq_true rfl, Nat.le_of_ble_eq_true rfl⟩ (fun A U H q => (hFS.str A U H q (bu_tk hk4)).1) rfl (Nat.le_of_ble_eq_true rfl) dJ5_append_cf1ce_10 ?_
  refine cw_istore_n dJ5_append_cf1ce_13 rfl (by decide) rfl ?_
  refine cw_aload_n dJ5_append_cf1ce_14 1 rfl rfl ?_
  refine cw_aload_n dJ5_append_cf1ce_15 1 rfl rfl ?_
  refine cw_getf (C := RJ4) (T := TJ4) (N := 4) (ci := 1) (v := .int (nI tl.length)) (by decide +kernel) 0 (Nat.succ_pos _) rfl rfl 3 (by decide) (by decide +kernel) (by show some (Value.int (I 0 3)) = _; rw [hT.2.2.2.1]) dJ5_append_cf1ce_16 ?_
  refine cw_iload_n dJ5_append_cf1ce_19 0 rfl rfl ?_
  refine cw_iadd dJ5_append_cf1ce_20 ?_
  rw [show nI tl.length + cw_ln k = nI (tl.length + (cw_tx k).length) from nI_add _ _]
  refine cw_sU (o := 0) (As := [.int (nI (tl.length + (cw_tx k).length))]) (C := RJ4) (ci := 1) ⟨Nat.le_refl _, Nat.le_refl _⟩ (bu_ensure hT hl) oknJ5_ensureCapacityInternal_d00df rfl gJ5_append_cf1ce_J5_ensureCapacityInternal_d00df_u100J4 rfl (by decide +kernel) ⟨Nat.le_of_ble_eq_true rfl, Nat.le_of_ble_eq_true rfl⟩ (Nat.succ_pos _) rfl rfl rfl (Nat.le_of_ble_eq_true rfl) dJ5_append_cf1ce_21 (fun r w' I' _ h9 => ?_)
  obtain ⟨a', m', rfl, rfl, hc', hT'⟩ := h9
  refine cw_aload_n dJ5_append_cf1ce_24 1 rfl rfl ?_
  refine cw_aload_n dJ5_append_cf1ce_25 1 rfl rfl ?_
  refine cw_getf (C := RJ4) (T := TJ4) (N := 4) (ci := 1) (v := .int (nI tl.length)) (by decide +kernel) 0 (Nat.succ_pos _) rfl rfl 3 (by decide) (by decide +kernel) (by show some (Value.int (I' 0 3)) = _; rw [hT'.2.2.2.1]) dJ5_append_cf1ce_26 ?_
  refine cw_aload_n dJ5_append_cf1ce_29 2 rfl rfl ?_
  refine cw_sU (o := 0) (As := [.int (nI tl.length), .ref (sd k)]) (C := RJ4) (ci := 1) ⟨Nat.le_refl _, Nat.le_refl _⟩ (cw_SNof (bu_putStringAt hFS (bu_tk hk4) hT'.2.2.1 hc' hT'.2.1 (bu_txfit hk4))) oknJ5_putStringAt_47b60 rfl gJ5_append_cf1ce_J5_putStringAt_47b60_u208J4 rfl (by decide +kernel) ⟨Nat.le_of_ble_eq_true rfl, Nat.le_of_ble_eq_true rfl⟩ (Nat.succ_pos _) rfl rfl rfl (Nat.le_of_ble_eq_true rfl) dJ5_append_cf1ce_30 (fun r w' I' _ h9 => ?_)
  obtain ⟨rfl, rfl, rfl⟩ := h9
  refine cw_aload_n dJ5_append_cf1ce_33 1 rfl rfl ?_
  refine cw_dup dJ5_append_cf1ce_34 rfl ?_
  refine cw_getf (C := RJ4) (T := TJ4) (N := 4) (ci := 1) (v := .int (nI tl.length)) (by decide +kernel) 0 (Nat.succ_pos _) rfl rfl 3 (by decide) (by decide +kernel) (by show some (Value.int (I' 0 3)) = _; rw [hT'.2.2.2.1]) dJ5_append_cf1ce_35 ?_
  refine cw_iload_n dJ5_append_cf1ce_38 0 rfl rfl ?_
  refine cw_iadd dJ5_append_cf1ce_39 ?_
  rw [show nI tl.length + cw_ln k = nI (tl.length + (cw_tx k).length) from nI_add _ _]
  refine cw_putf (C := RJ4) (T := TJ4) (N := 4) (ci := 1) (by decide +kernel) tyJ4 tyJ4_ok nmJ4 0 (Nat.succ_pos _) rfl rfl 3 (by decide) (by decide +kernel) rfl rfl (show 3 < 4 by decide) rfl dJ5_append_cf1ce_40 ?_
  refine cw_aload_n dJ5_append_cf1ce_43 1 rfl rfl ?_
  exact cw_aretS lw_eqv rfl (Or.inl ⟨_, rfl⟩) (Or.inr ⟨_, rfl⟩) dJ5_append_cf1ce_44 ⟨a', m', rfl, rfl, bu_put hk4 hT' hc'⟩
theorem bu_append4 {b a m k : Nat} {tl : List Nat} (hFS : cw_FS (cw_Fc K) sd sv) (hk4 : k < 4) (hT : buT m tl I) (hl : tl.length + (cw_tx k).length ≤ 223) : cw_SN 1 446 (B2 K b a m) nJ4_append_15ec4 [.ref b, .ref (sd k)] I (buA K b (tl ++ bu_tx k)) := by
  refine cw_entryS oknJ4_append_15ec4 (Nat.le_of_ble_eq_true rfl) (show cw_B (B2 K b a m) (B2 K b a m) nJ4_append_15ec4 (cw_ZS 1 446 (B2 K b a m) (buA K b (tl ++ bu_tx k))) 1 446 0 0 I 0 [(0, .ref b), (1, .ref (sd k))] [] from ?_)
  refine cw_aload_n dJ4_append_15ec4_0 0 rfl rfl ?_
  refine cw_aload_n dJ4_append_15ec4_1 1 rfl rfl ?_
  refine cw_sSU (o := 0) (As := [.ref (sd k)]) (C := RJ4) (ci := 1) ⟨Nat.le_refl _, Nat.le_refl _⟩ (bu_append5 hFS hk4 hT hl) oknJ5_append_cf1ce rfl gJ4_append_15ec4_J5_append_cf1ce_s29 (by decide +kernel) ⟨Nat.le_of_ble_eq_true rfl, Nat.le_of_ble_eq_true rfl⟩ (Nat.succ_pos _) rfl rfl rfl (Nat.le_of_ble_eq_true rfl) dJ4_append_15ec4_2 (fun r w' I' _ h9 => ?_)
  obtain ⟨a', m', rfl, rfl, hT'⟩ := h9
  refine cw_pop dJ4_append_15ec4_5 rfl ?_
  refine cw_aload_n dJ4_append_15ec4_6 0 rfl rfl ?_
  exact cw_aretS lw_eqv rfl (Or.inl ⟨_, rfl⟩) (Or.inr ⟨_, rfl⟩) dJ4_append_15ec4_7 ⟨a', m', rfl, rfl, hT'⟩
theorem bu_appendB {b a m k : Nat} {tl : List Nat} (hFS : cw_FS (cw_Fc K) sd sv) (hk4 : k < 4) (hT : buT m tl I) (hl : tl.length + (cw_tx k).length ≤ 223) : cw_SN 1 446 (B2 K b a m) nJ4_append_cf1ce [.ref b, .ref (sd k)] I (buA K b (tl ++ bu_tx k)) := by
  refine cw_entryS oknJ4_append_cf1ce (Nat.le_of_ble_eq_true rfl) (show cw_B (B2 K b a m) (B2 K b a m) nJ4_append_cf1ce (cw_ZS 1 446 (B2 K b a m) (buA K b (tl ++ bu_tx k))) 1 446 0 0 I 0 [(0, .ref b), (1, .ref (sd k))] [] from ?_)
  refine cw_aload_n dJ4_append_cf1ce_0 0 rfl rfl ?_
  refine cw_aload_n dJ4_append_cf1ce_1 1 rfl rfl ?_
  refine cw_sV (o := 0) (As := [.ref (sd k)]) (ci := 1) ⟨Nat.le_refl _, Nat.le_refl _⟩ (bu_append4 hFS hk4 hT hl) oknJ4_append_15ec4 rfl gJ4_append_cf1ce_J4_append_15ec4 ⟨Nat.le_of_ble_eq_true rfl, Nat.le_of_ble_eq_true rfl⟩ (Nat.succ_pos _) rfl rfl rfl (Nat.le_of_ble_eq_true rfl) dJ4_append_cf1ce_2 (fun r w' I' _ h9 => ?_)
  obtain ⟨a', m', rfl, rfl, hT'⟩ := h9
  exact cw_aretS lw_eqv rfl (Or.inl ⟨_, rfl⟩) (Or.inr ⟨_, rfl⟩) dJ4_append_cf1ce_5 ⟨a', m', rfl, rfl, hT'⟩
end SBN
