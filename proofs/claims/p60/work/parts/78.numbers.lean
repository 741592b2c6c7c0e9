/-! ## the text of a setup: append of numbers, of letters; the constructor -/
section SBO
variable {K : cw_K} {I : cw_M} {sd sv : Nat → Nat}
theorem bu_neg : ∀ n, n < 100 → (n < 10 → ¬ -nI n ≤ -10) ∧ (10 ≤ n → -nI n ≤ -10) ∧ ¬ -nI n ≤ 10 * (-10) ∧ ¬ nI n < 0 ∧ 0 ≤ nI n ∧ (-100 : Int32) < -nI n ∧ (n < 10 → (-9 : Int32) ≤ -nI n) ∧ (10 ≤ n → ¬ (-9 : Int32) ≤ -nI n) ∧ - -nI n = nI n := by decide +kernel
/-- how many digits -/
def bu_sz (n : Nat) : Nat := if n < 10 then 1 else 2
theorem bu_stringSize {w : cw_G} {n : Nat} (hn : n < 100) : cw_C w nJ6_stringSize_0f7a4 [.int (nI n)] I (some (.int (nI (bu_sz n)))) I := by
  refine cw_entry oknJ6_stringSize_0f7a4 (Nat.le_of_ble_eq_true rfl) (show cw_B w w nJ6_stringSize_0f7a4 (cw_Z w (some (.int (nI (bu_sz n)))) I) 0 0 0 0 I 0 [(0, .int (nI n))] [] from ?_)
  refine cw_iconst (v := 1) dJ6_stringSize_0f7a4_0 (by decide) ?_
  refine cw_istore_n dJ6_stringSize_0f7a4_1 rfl (by decide) rfl ?_
  refine cw_iload_n dJ6_stringSize_0f7a4_2 1 rfl rfl ?_
  refine cw_if_lt (tgt := 11) dJ6_stringSize_0f7a4_3 (by decide) (fun q => absurd q (bu_neg n hn).2.2.2.1) (fun _ => ?_)
  refine cw_iconst (v := 0) dJ6_stringSize_0f7a4_6 (by decide) ?_
  refine cw_istore_n dJ6_stringSize_0f7a4_7 rfl (by decide) rfl ?_
  refine cw_iload_n dJ6_stringSize_0f7a4_8 1 rfl rfl ?_
  refine cw_ineg dJ6_stringSize_0f7a4_9 ?_
  refine cw_istore_n dJ6_stringSize_0f7a4_10 rfl (by decide) rfl ?_
  refine cw_bipush (v := (-10)) dJ6_stringSize_0f7a4_11 (by decide) ?_
  refine cw_istore_n dJ6_stringSize_0f7a4_13 rfl (by decide) rfl ?_
  refine cw_iconst (v := 1) dJ6_stringSize_0f7a4_14 (by decide) ?_
  refine cw_istore_n dJ6_stringSize_0f7a4_15 rfl (by decide) rfl ?_
  refine cw_iload_n dJ6_stringSize_0f7a4_16 0 rfl rfl ?_
  refine cw_bipush (v := 10) dJ6_stringSize_0f7a4_17 (by decide) ?_
  refine cw_icmp_ge (tgt := 42) dJ6_stringSize_0f7a4_19 (by decide) (fun q => absurd q (by decide)) (fun _ => ?_)
  refine cw_iload_n dJ6_stringSize_0f7a4_22 2 rfl rfl ?_
  refine cw_iload_n dJ6_stringSize_0f7a4_23 1 rfl rfl ?_
  by_cases q10 : n < 10
  · refine cw_icmp_le (tgt := 31) dJ6_stringSize_0f7a4_24 (by decide) (fun q => absurd q ((bu_neg n hn).1 q10)) (fun _ => ?_)
    refine cw_iload_n dJ6_stringSize_0f7a4_27 0 rfl rfl ?_
    refine cw_iload_n dJ6_stringSize_0f7a4_28 3 rfl rfl ?_
    refine cw_iadd dJ6_stringSize_0f7a4_29 ?_
    exact cw_iret rfl dJ6_stringSize_0f7a4_30 ⟨by rw [show bu_sz n = 1 from if_pos q10]; rfl, rfl⟩
  · refine cw_icmp_le (tgt := 31) dJ6_stringSize_0f7a4_24 (by decide) (fun _ => ?_) (fun q => absurd ((bu_neg n hn).2.1 (by omega)) q)
    refine cw_bipush (v := 10) dJ6_stringSize_0f7a4_31 (by decide) ?_
    refine cw_iload_n dJ6_stringSize_0f7a4_33 1 rfl rfl ?_
    refine cw_imul dJ6_stringSize_0f7a4_34 ?_
    refine cw_istore_n dJ6_stringSize_0f7a4_35 rfl (by decide) rfl ?_
    refine cw_iinc (v := 2) dJ6_stringSize_0f7a4_36 (j := 1) rfl rfl (by decide) rfl ?_
    refine cw_goto (tgt := 16) dJ6_stringSize_0f7a4_39 (by decide) ?_
    refine cw_iload_n dJ6_stringSize_0f7a4_16 0 rfl rfl ?_
    refine cw_bipush (v := 10) dJ6_stringSize_0f7a4_17 (by decide) ?_
    refine cw_icmp_ge (tgt := 42) dJ6_stringSize_0f7a4_19 (by decide) (fun q => absurd q (by decide)) (fun _ => ?_)
    refine cw_iload_n dJ6_stringSize_0f7a4_22 2 rfl rfl ?_
    refine cw_iload_n dJ6_stringSize_0f7a4_23 1 rfl rfl ?_
    refine cw_icmp_le (tgt := 31) dJ6_stringSize_0f7a4_24 (by decide) (fun q => absurd q ((bu_neg n hn).2.2.1)) (fun _ => ?_)
    refine cw_iload_n dJ6_stringSize_0f7a4_27 0 rfl rfl ?_
    refine cw_iload_n dJ6_stringSize_0f7a4_28 3 rfl rfl ?_
    refine cw_iadd dJ6_stringSize_0f7a4_29 ?_
    exact cw_iret rfl dJ6_stringSize_0f7a4_30 ⟨by rw [show bu_sz n = 2 from if_neg q10]; rfl, rfl⟩
/-- the digits of n, before e -/
def bu_dg (n e : Nat) (f : Nat → Int32) : Nat → Int32 := if n < 10 then upd f (e - 1) (nI (48 + n)) else upd (upd f (e - 1) (nI (48 + n % 10))) (e - 2) (nI (48 + n / 10))
theorem bu_pred {e : Nat} (h : 1 ≤ e) : nI e + Int32.ofInt (-1) = nI (e - 1) := by
  rw [show Int32.ofInt (-1) = (-1 : Int32) from rfl, ← Int32.sub_eq_add_neg]
  exact sp_sub (b := 1) h
theorem bu_getChars {b a m n e dO dT : Nat} (hFD : bu_FD (cw_Fc K) dO dT) (hn : n < 100) (h1 : 1 ≤ e) (he : 10 ≤ n → 2 ≤ e) (hem : e ≤ m) (hm : m ≤ 446) : cw_C (B2 K b a m) nJ6_getChars_ba4f3 [.int (nI n), .int (nI e), .ref a] I (some (.int (nI (e - bu_sz n)))) (cw_up I 1 (bu_dg n e (I 1))) := by
  refine cw_entry oknJ6_getChars_ba4f3 (Nat.le_of_ble_eq_true rfl) (show cw_B (B2 K b a m) (B2 K b a m) nJ6_getChars_ba4f3 (cw_Z (B2 K b a m) (some (.int (nI (e - bu_sz n)))) (cw_up I 1 (bu_dg n e (I 1)))) 0 0 0 0 I 0 [(0, .int (nI n)), (1, .int (nI e)), (2, .ref a)] [] from ?_)
  refine cw_iload_n dJ6_getChars_ba4f3_0 1 rfl rfl ?_
  refine cw_istore dJ6_getChars_ba4f3_1 (by decide) rfl ?_
  refine cw_iload_n dJ6_getChars_ba4f3_3 1 rfl rfl ?_
  refine cw_if_ge (tgt := 11) dJ6_getChars_ba4f3_4 (by decide) (fun _ => ?_) (fun q => absurd (bu_neg n hn).2.2.2.2.1 q)
  refine cw_iconst (v := 0) dJ6_getChars_ba4f3_11 (by decide) ?_
  refine cw_istore dJ6_getChars_ba4f3_12 (by decide) rfl ?_
  refine cw_iload dJ6_getChars_ba4f3_14 0 rfl ?_
  refine cw_if_ne (tgt := 22) dJ6_getChars_ba4f3_16 (by decide) (fun q => absurd rfl q) (fun _ => ?_)
  refine cw_iload_n dJ6_getChars_ba4f3_19 2 rfl rfl ?_
  refine cw_ineg dJ6_getChars_ba4f3_20 ?_
  refine cw_istore_n dJ6_getChars_ba4f3_21 rfl (by decide) rfl ?_
  refine cw_iload_n dJ6_getChars_ba4f3_22 0 rfl rfl ?_
  refine cw_bipush (v := (-100)) dJ6_getChars_ba4f3_23 (by decide) ?_
  refine cw_icmp_gt (tgt := 72) dJ6_getChars_ba4f3_25 (by decide) (fun _ => ?_) (fun q => absurd (bu_neg n hn).2.2.2.2.2.1 q)
  refine cw_aload_n dJ6_getChars_ba4f3_72 4 rfl rfl ?_
  refine cw_iinc (v := nI (e - 1)) dJ6_getChars_ba4f3_73 (j := 2) rfl (bu_pred (by omega)) (by decide) rfl ?_
  refine cw_iload dJ6_getChars_ba4f3_76 0 rfl ?_
  refine cw_gets (fun A U H q => (hFD A U H q).1) (by decide +kernel) dJ6_getChars_ba4f3_78 ?_
  refine cw_iload_n dJ6_getChars_ba4f3_81 1 rfl rfl ?_
  refine cw_ineg dJ6_getChars_ba4f3_82 ?_
  rw [(bu_neg n hn).2.2.2.2.2.2.2.2]
  refine cw_tb (v := .int (nI (48 + n % 10))) (fun A U H q => (hFD A U H q).2.1) (vp_in_nI hn (by omega)) (by show Value.int (nI (48 + (nI n).toNatClampNeg % 10)) = _; rw [nI_clamp (by omega)]) dJ6_getChars_ba4f3_83 ?_
  refine cw_bast (n := m) 1 (show 1 < 2 by decide) (fun _ => rfl) 4 rfl dJ6_getChars_ba4f3_84 (vp_in_nI (by omega) (by omega)) ?_
  rw [nI_clamp (by omega), bu_nar _ (by omega)]
  refine cw_iload_n dJ6_getChars_ba4f3_85 1 rfl rfl ?_
  refine cw_bipush (v := (-9)) dJ6_getChars_ba4f3_86 (by decide) ?_
  by_cases q10 : n < 10
  · refine cw_icmp_ge (tgt := 104) dJ6_getChars_ba4f3_88 (by decide) (fun _ => ?_) (fun q => absurd ((bu_neg n hn).2.2.2.2.2.2.1 q10) q)
    refine cw_iload dJ6_getChars_ba4f3_104 2 rfl ?_
    refine cw_if_eq (tgt := 118) dJ6_getChars_ba4f3_106 (by decide) (fun _ => ?_) (fun q => absurd rfl q)
    refine cw_iload dJ6_getChars_ba4f3_118 0 rfl ?_
    refine cw_iret rfl dJ6_getChars_ba4f3_120 ⟨by rw [show bu_sz n = 1 from if_pos q10], ?_⟩
    unfold bu_dg
    rw [if_pos q10, Nat.mod_eq_of_lt q10]
  · have e2 := he (by omega)
    refine cw_icmp_ge (tgt := 104) dJ6_getChars_ba4f3_88 (by decide) (fun q => absurd q ((bu_neg n hn).2.2.2.2.2.2.2.1 (by omega))) (fun _ => ?_)
    refine cw_aload_n dJ6_getChars_ba4f3_91 4 rfl rfl ?_
    refine cw_iinc (v := nI (e - 2)) dJ6_getChars_ba4f3_92 (j := 0) rfl (bu_pred (by omega)) (by decide) rfl ?_
    refine cw_iload dJ6_getChars_ba4f3_95 0 rfl ?_
    refine cw_gets (fun A U H q => (hFD A U H q).2.2.1) (by decide +kernel) dJ6_getChars_ba4f3_97 ?_
    refine cw_iload_n dJ6_getChars_ba4f3_100 1 rfl rfl ?_
    refine cw_ineg dJ6_getChars_ba4f3_101 ?_
    rw [(bu_neg n hn).2.2.2.2.2.2.2.2]
    refine cw_tb (v := .int (nI (48 + n / 10))) (fun A U H q => (hFD A U H q).2.2.2) (vp_in_nI hn (by omega)) (by show Value.int (nI (48 + (nI n).toNatClampNeg / 10)) = _; rw [nI_clamp (by omega)]) dJ6_getChars_ba4f3_102 ?_
    refine cw_bast (n := m) 1 (show 1 < 2 by decide) (fun _ => rfl) 4 rfl dJ6_getChars_ba4f3_103 (vp_in_nI (by omega) (by omega)) ?_
    rw [nI_clamp (by omega), bu_nar _ (by omega)]
    refine cw_iload dJ6_getChars_ba4f3_104 2 rfl ?_
    refine cw_if_eq (tgt := 118) dJ6_getChars_ba4f3_106 (by decide) (fun _ => ?_) (fun q => absurd rfl q)
    refine cw_iload dJ6_getChars_ba4f3_118 0 rfl ?_
    refine cw_iret rfl dJ6_getChars_ba4f3_120 ⟨by rw [show bu_sz n = 2 from if_neg q10], ?_⟩
    unfold bu_dg
    rw [if_neg q10]
    exact (sp_upup I 1 _ _).symm
/-- the digits of n -/
def bu_dl (n : Nat) : List Nat := if n < 10 then [48 + n] else [48 + n / 10, 48 + n % 10]
theorem bu_dl_len (n : Nat) : (bu_dl n).length = bu_sz n := by
  unfold bu_dl bu_sz
  split <;> rfl
theorem bu_sz2 (n : Nat) : 1 ≤ bu_sz n ∧ bu_sz n ≤ 2 ∧ (10 ≤ n → bu_sz n = 2) := by
  unfold bu_sz
  split <;> omega
theorem bu_num {m n : Nat} {tl : List Nat} (hn : n < 100) (hT : buT m tl I) (hl : tl.length + bu_sz n ≤ m) : buT m (tl ++ bu_dl n) (cw_st (cw_up I 1 (bu_dg n (tl.length + bu_sz n) (I 1))) 0 3 (nI (tl.length + bu_sz n))) := by
  obtain ⟨t1, t2, t3, t4, t5, t6⟩ := hT
  refine ⟨by rw [List.length_append, bu_dl_len]; omega, t2, t3, by rw [List.length_append, bu_dl_len]; rfl, fun j hj => ?_, fun j => ?_⟩
  · show bu_dg n (tl.length + bu_sz n) (I 1) j = _
    rw [List.length_append, bu_dl_len] at hj
    by_cases q : j < tl.length
    · rw [List.getD_eq_getElem?_getD, List.getElem?_append_left q, ← List.getD_eq_getElem?_getD, ← t5 j q]
      unfold bu_dg bu_sz
      by_cases z : n < 10
      · rw [if_pos z, if_pos z, pk_un (by omega)]
      · rw [if_neg z, if_neg z, pk_un (by omega), pk_un (by omega)]
    · rw [List.getD_eq_getElem?_getD, List.getElem?_append_right (by omega)]
      unfold bu_dg bu_sz bu_dl
      unfold bu_sz at hj
      by_cases z : n < 10
      · rw [if_pos z] at hj
        rw [if_pos z, if_pos z, if_pos z]
        have e : j = tl.length := by omega
        subst e
        rw [Nat.sub_self]
        exact pk_us
      · rw [if_neg z] at hj
        rw [if_neg z, if_neg z, if_neg z]
        by_cases y : j = tl.length
        · subst y
          rw [Nat.sub_self]
          exact pk_us
        · have e : j = tl.length + 2 - 1 := by omega
          rw [pk_un (by omega), e, pk_us, show tl.length + 2 - 1 - tl.length = 1 by omega]
          rfl
  · show ∃ c : Nat, c < 128 ∧ bu_dg n (tl.length + bu_sz n) (I 1) j = nI c
    unfold bu_dg
    have key : ∀ (f : Nat → Int32) (i c : Nat), c < 128 → (∃ c2 : Nat, c2 < 128 ∧ f j = nI c2) → ∃ c2 : Nat, c2 < 128 ∧ upd f i (nI c) j = nI c2 := fun f i c hc hf => by
      by_cases q : j = i
      · subst q
        exact ⟨c, hc, pk_us⟩
      · rw [pk_un q]
        exact hf
    split
    · exact key _ _ _ (by omega) (t6 j)
    · exact key _ _ _ (by omega) (key _ _ _ (by omega) (t6 j))
theorem bu_appendI5 {b a m n dO dT : Nat} {tl : List Nat} (hFS : cw_FS (cw_Fc K) sd sv) (hFD : bu_FD (cw_Fc K) dO dT) (hn : n < 100) (hT : buT m tl I) (hl : tl.length + bu_sz n ≤ 223) : cw_SN 1 446 (B2 K b a m) nJ5_append_c97b9 [.ref b, .int (nI n)] I (buA K b (tl ++ bu_dl n)) := by
  refine cw_entryS oknJ5_append_c97b9 (Nat.le_of_ble_eq_true rfl) (show cw_B (B2 K b a m) (B2 K b a m) nJ5_append_c97b9 (cw_ZS 1 446 (B2 K b a m) (buA K b (tl ++ bu_dl n))) 1 446 0 0 I 0 [(0, .ref b), (1, .int (nI n))] [] from ?_)
  refine cw_aload_n dJ5_append_c97b9_0 0 rfl rfl ?_
  refine cw_getf (C := RJ4) (T := TJ4) (N := 4) (ci := 1) (v := .int (nI tl.length)) (by decide +kernel) 0 (Nat.succ_pos _) rfl rfl 3 (by decide) (by decide +kernel) (by show some (Value.int (I 0 3)) = _; rw [hT.2.2.2.1]) dJ5_append_c97b9_1 ?_
  refine cw_istore_n dJ5_append_c97b9_4 rfl (by decide) rfl ?_
  refine cw_iload_n dJ5_append_c97b9_5 0 rfl rfl ?_
  refine cw_iload_n dJ5_append_c97b9_6 2 rfl rfl ?_
  refine cw_callA (As := [.int (nI n)]) (bu_stringSize hn) oknJ6_stringSize_0f7a4 rfl gJ5_append_c97b9_J6_stringSize_0f7a4 ⟨Nat.le_of_ble_eq_true rfl, Nat.le_of_ble_eq_true rfl⟩ rfl (Nat.le_of_ble_eq_true rfl) dJ5_append_c97b9_7 ?_
  refine cw_iadd dJ5_append_c97b9_10 ?_
  rw [show nI tl.length + nI (bu_sz n) = nI (tl.length + bu_sz n) from nI_add _ _]
  refine cw_istore_n dJ5_append_c97b9_11 rfl (by decide) rfl ?_
  refine cw_aload_n dJ5_append_c97b9_12 2 rfl rfl ?_
  refine cw_iload_n dJ5_append_c97b9_13 0 rfl rfl ?_
  refine cw_sU (o := 0) (As := [.int (nI (tl.length + bu_sz n))]) (C := RJ4) (ci := 1) ⟨Nat.le_refl _, Nat.le_refl _⟩ (bu_ensure hT hl) oknJ5_ensureCapacityInternal_d00df rfl gJ5_append_c97b9_J5_ensureCapacityInternal_d00df_u100J4 rfl (by decide +kernel) ⟨Nat.le_of_ble_eq_true rfl, Nat.le_of_ble_eq_true rfl⟩ (Nat.succ_pos _) rfl rfl rfl (Nat.le_of_ble_eq_true rfl) dJ5_append_c97b9_14 (fun r w' I' _ h9 => ?_)
  obtain ⟨a', m', rfl, rfl, hc', hT'⟩ := h9
  refine cw_aload_n dJ5_append_c97b9_17 2 rfl rfl ?_
  refine cw_sU (o := 0) (As := []) (C := RJ4) (ci := 1) ⟨Nat.le_refl _, Nat.le_refl _⟩ (cw_SNof (bu_isLatin1 hFS hT'.2.2.1)) oknJ5_isLatin1_aae02 rfl gJ5_append_c97b9_J5_isLatin1_aae02_u83J4 rfl (by decide +kernel) ⟨Nat.le_of_ble_eq_true rfl, Nat.le_of_ble_eq_true rfl⟩ (Nat.succ_pos _) rfl rfl rfl (Nat.le_of_ble_eq_true rfl) dJ5_append_c97b9_18 (fun r w' I' _ h9 => ?_)
  obtain ⟨rfl, rfl, rfl⟩ := h9
  refine cw_if_eq (tgt := 37) dJ5_append_c97b9_21 (by decide) (fun q => absurd q (by decide)) (fun _ => ?_)
  refine cw_iload_n dJ5_append_c97b9_24 3 rfl rfl ?_
  refine cw_iload_n dJ5_append_c97b9_25 0 rfl rfl ?_
  refine cw_aload_n dJ5_append_c97b9_26 2 rfl rfl ?_
  refine cw_getf (C := RJ4) (T := TJ4) (N := 4) (ci := 1) (v := .ref a') (by decide +kernel) 0 (Nat.succ_pos _) rfl rfl 0 (by decide) (by decide +kernel) rfl dJ5_append_c97b9_27 ?_
  have b2 := bu_sz2 n
  refine cw_callA (As := [.int (nI n), .int (nI (tl.length + bu_sz n)), .ref a']) (bu_getChars hFD hn (by omega) (fun z => by have := b2.2.2 z; omega) hc' hT'.2.1) oknJ6_getChars_ba4f3 rfl gJ5_append_c97b9_J6_getChars_ba4f3 ⟨Nat.le_of_ble_eq_true rfl, Nat.le_of_ble_eq_true rfl⟩ rfl (Nat.le_of_ble_eq_true rfl) dJ5_append_c97b9_30 ?_
  refine cw_pop dJ5_append_c97b9_33 rfl ?_
  refine cw_goto (tgt := 48) dJ5_append_c97b9_34 (by decide) ?_
  refine cw_aload_n dJ5_append_c97b9_48 2 rfl rfl ?_
  refine cw_iload_n dJ5_append_c97b9_49 0 rfl rfl ?_
  refine cw_putf (C := RJ4) (T := TJ4) (N := 4) (ci := 1) (by decide +kernel) tyJ4 tyJ4_ok nmJ4 0 (Nat.succ_pos _) rfl rfl 3 (by decide) (by decide +kernel) rfl rfl (show 3 < 4 by decide) rfl dJ5_append_c97b9_50 ?_
  refine cw_aload_n dJ5_append_c97b9_53 2 rfl rfl ?_
  exact cw_aretS lw_eqv rfl (Or.inl ⟨_, rfl⟩) (Or.inr ⟨_, rfl⟩) dJ5_append_c97b9_54 ⟨a', m', rfl, rfl, bu_num hn hT' hc'⟩
theorem bu_appendI {b a m n dO dT : Nat} {tl : List Nat} (hFS : cw_FS (cw_Fc K) sd sv) (hFD : bu_FD (cw_Fc K) dO dT) (hn : n < 100) (hT : buT m tl I) (hl : tl.length + bu_sz n ≤ 223) : cw_SN 1 446 (B2 K b a m) nJ4_append_bf812 [.ref b, .int (nI n)] I (buA K b (tl ++ bu_dl n)) := by
  refine cw_entryS oknJ4_append_bf812 (Nat.le_of_ble_eq_true rfl) (show cw_B (B2 K b a m) (B2 K b a m) nJ4_append_bf812 (cw_ZS 1 446 (B2 K b a m) (buA K b (tl ++ bu_dl n))) 1 446 0 0 I 0 [(0, .ref b), (1, .int (nI n))] [] from ?_)
  refine cw_aload_n dJ4_append_bf812_0 0 rfl rfl ?_
  refine cw_iload_n dJ4_append_bf812_1 1 rfl rfl ?_
  refine cw_sSU (o := 0) (As := [.int (nI n)]) (C := RJ4) (ci := 1) ⟨Nat.le_refl _, Nat.le_refl _⟩ (bu_appendI5 hFS hFD hn hT hl) oknJ5_append_c97b9 rfl gJ4_append_bf812_J5_append_c97b9_s53 (by decide +kernel) ⟨Nat.le_of_ble_eq_true rfl, Nat.le_of_ble_eq_true rfl⟩ (Nat.succ_pos _) rfl rfl rfl (Nat.le_of_ble_eq_true rfl) dJ4_append_bf812_2 (fun r w' I' _ h9 => ?_)
  obtain ⟨a', m', rfl, rfl, hT'⟩ := h9
  refine cw_pop dJ4_append_bf812_5 rfl ?_
  refine cw_aload_n dJ4_append_bf812_6 0 rfl rfl ?_
  exact cw_aretS lw_eqv rfl (Or.inl ⟨_, rfl⟩) (Or.inr ⟨_, rfl⟩) dJ4_append_bf812_7 ⟨a', m', rfl, rfl, hT'⟩
theorem bu_chr {m c : Nat} {tl : List Nat} (hc : c < 128) (hT : buT m tl I) (hl : tl.length + 1 ≤ m) : buT m (tl ++ [c]) (cw_st (cw_st I 0 3 (nI (tl.length + 1))) 1 tl.length (nI c)) := by
  obtain ⟨t1, t2, t3, t4, t5, t6⟩ := hT
  refine ⟨by rw [List.length_append]; exact hl, t2, t3, by rw [List.length_append]; rfl, fun j hj => ?_, fun j => ?_⟩
  · show upd (I 1) tl.length (nI c) j = _
    rw [List.length_append] at hj
    have hj' : j < tl.length + 1 := hj
    by_cases q : j < tl.length
    · rw [pk_un (by omega), t5 j q, List.getD_eq_getElem?_getD, List.getD_eq_getElem?_getD, List.getElem?_append_left q]
    · have e : j = tl.length := by omega
      subst e
      rw [pk_us, List.getD_eq_getElem?_getD, List.getElem?_append_right (Nat.le_refl _), Nat.sub_self]
      rfl
  · show ∃ c2 : Nat, c2 < 128 ∧ upd (I 1) tl.length (nI c) j = nI c2
    by_cases q : j = tl.length
    · subst q
      exact ⟨c, hc, pk_us⟩
    · rw [pk_un q]
      exact t6 j
theorem bu_appendC5 {b a m c : Nat} {tl : List Nat} (hFS : cw_FS (cw_Fc K) sd sv) (hc : c < 128) (hT : buT m tl I) (hl : tl.length + 1 ≤ 223) : cw_SN 1 446 (B2 K b a m) nJ5_append_3fe6f [.ref b, .int (nI c)] I (buA K b (tl ++ [c])) := by
  refine cw_entryS oknJ5_append_3fe6f (Nat.le_of_ble_eq_true rfl) (show cw_B (B2 K b a m) (B2 K b a m) nJ5_append_3fe6f (cw_ZS 1 446 (B2 K b a m) (buA K b (tl ++ [c]))) 1 446 0 0 I 0 [(0, .ref b), (1, .int (nI c))] [] from ?_)
  refine cw_aload_n dJ5_append_3fe6f_0 0 rfl rfl ?_
  refine cw_aload_n dJ5_append_3fe6f_1 0 rfl rfl ?_
  refine cw_getf (C := RJ4) (T := TJ4) (N := 4) (ci := 1) (v := .int (nI tl.length)) (by decide +kernel) 0 (Nat.succ_pos _) rfl rfl 3 (by decide) (by decide +kernel) (by show some (Value.int (I 0 3)) = _; rw [hT.2.2.2.1]) dJ5_append_3fe6f_2 ?_
  refine cw_iconst (v := 1) dJ5_append_3fe6f_5 (by decide) ?_
  refine cw_iadd dJ5_append_3fe6f_6 ?_
  rw [nI_1]
  refine cw_sU (o := 0) (As := [.int (nI (tl.length + 1))]) (C := RJ4) (ci := 1) ⟨Nat.le_refl _, Nat.le_refl _⟩ (bu_ensure hT hl) oknJ5_ensureCapacityInternal_d00df rfl gJ5_append_3fe6f_J5_ensureCapacityInternal_d00df_u100J4 rfl (by decide +kernel) ⟨Nat.le_of_ble_eq_true rfl, Nat.le_of_ble_eq_true rfl⟩ (Nat.succ_pos _) rfl rfl rfl (Nat.le_of_ble_eq_true rfl) dJ5_append_3fe6f_7 (fun r w' I' _ h9 => ?_)
  obtain ⟨a', m', rfl, rfl, hc', hT'⟩ := h9
  refine cw_aload_n dJ5_append_3fe6f_10 0 rfl rfl ?_
  refine cw_sU (o := 0) (As := []) (C := RJ4) (ci := 1) ⟨Nat.le_refl _, Nat.le_refl _⟩ (cw_SNof (bu_isLatin1 hFS hT'.2.2.1)) oknJ5_isLatin1_aae02 rfl gJ5_append_3fe6f_J5_isLatin1_aae02_u83J4 rfl (by decide +kernel) ⟨Nat.le_of_ble_eq_true rfl, Nat.le_of_ble_eq_true rfl⟩ (Nat.succ_pos _) rfl rfl rfl (Nat.le_of_ble_eq_true rfl) dJ5_append_3fe6f_11 (fun r w' I' _ h9 => ?_)
  obtain ⟨rfl, rfl, rfl⟩ := h9
  refine cw_if_eq (tgt := 45) dJ5_append_3fe6f_14 (by decide) (fun q => absurd q (by decide)) (fun _ => ?_)
  refine cw_iload_n dJ5_append_3fe6f_17 1 rfl rfl ?_
  refine cw_callA (As := [.int (nI c)]) (bu_canEncode hc) oknJ1_canEncode_fc78d rfl gJ5_append_3fe6f_J1_canEncode_fc78d ⟨Nat.le_of_ble_eq_true rfl, Nat.le_of_ble_eq_true rfl⟩ rfl (Nat.le_of_ble_eq_true rfl) dJ5_append_3fe6f_18 ?_
  refine cw_if_eq (tgt := 45) dJ5_append_3fe6f_21 (by decide) (fun q => absurd q (by decide)) (fun _ => ?_)
  refine cw_aload_n dJ5_append_3fe6f_24 0 rfl rfl ?_
  refine cw_getf (C := RJ4) (T := TJ4) (N := 4) (ci := 1) (v := .ref a') (by decide +kernel) 0 (Nat.succ_pos _) rfl rfl 0 (by decide) (by decide +kernel) rfl dJ5_append_3fe6f_25 ?_
  refine cw_aload_n dJ5_append_3fe6f_28 0 rfl rfl ?_
  refine cw_dup dJ5_append_3fe6f_29 rfl ?_
  refine cw_getf (C := RJ4) (T := TJ4) (N := 4) (ci := 1) (v := .int (nI tl.length)) (by decide +kernel) 0 (Nat.succ_pos _) rfl rfl 3 (by decide) (by decide +kernel) (by show some (Value.int (I' 0 3)) = _; rw [hT'.2.2.2.1]) dJ5_append_3fe6f_30 ?_
  refine cw_dupx1 dJ5_append_3fe6f_33 rfl rfl ?_
  refine cw_iconst (v := 1) dJ5_append_3fe6f_34 (by decide) ?_
  refine cw_iadd dJ5_append_3fe6f_35 ?_
  rw [nI_1]
  refine cw_putf (C := RJ4) (T := TJ4) (N := 4) (ci := 1) (by decide +kernel) tyJ4 tyJ4_ok nmJ4 0 (Nat.succ_pos _) rfl rfl 3 (by decide) (by decide +kernel) rfl rfl (show 3 < 4 by decide) rfl dJ5_append_3fe6f_36 ?_
  refine cw_iload_n dJ5_append_3fe6f_39 1 rfl rfl ?_
  refine cw_i2b (v := nI c) dJ5_append_3fe6f_40 (bu_i2b c hc) ?_
  have b9 := hT'.2.1
  refine cw_bast (n := m') 1 (show 1 < 2 by decide) (fun _ => rfl) 4 rfl dJ5_append_3fe6f_41 (vp_in_nI (by omega) (by omega)) ?_
  rw [nI_clamp (by omega), bu_nar _ hc]
  refine cw_goto (tgt := 75) dJ5_append_3fe6f_42 (by decide) ?_
  refine cw_aload_n dJ5_append_3fe6f_75 0 rfl rfl ?_
  exact cw_aretS lw_eqv rfl (Or.inl ⟨_, rfl⟩) (Or.inr ⟨_, rfl⟩) dJ5_append_3fe6f_76 ⟨a', m', rfl, rfl, bu_chr hc hT' hc'⟩
theorem bu_appendC {b a m c : Nat} {tl : List Nat} (hFS : cw_FS (cw_Fc K) sd sv) (hc : c < 128) (hT : buT m tl I) (hl : tl.length + 1 ≤ 223) : cw_SN 1 446 (B2 K b a m) nJ4_append_cf468 [.ref b, .int (nI c)] I (buA K b (tl ++ [c])) := by
  refine cw_entryS oknJ4_append_cf468 (Nat.le_of_ble_eq_true rfl) (show cw_B (B2 K b a m) (B2 K b a m) nJ4_append_cf468 (cw_ZS 1 446 (B2 K b a m) (buA K b (tl ++ [c]))) 1 446 0 0 I 0 [(0, .ref b), (1, .int (nI c))] [] from ?_)
  refine cw_aload_n dJ4_append_cf468_0 0 rfl rfl ?_
  refine cw_iload_n dJ4_append_cf468_1 1 rfl rfl ?_
  refine cw_sSU (o := 0) (As := [.int (nI c)]) (C := RJ4) (ci := 1) ⟨Nat.le_refl _, Nat.le_refl _⟩ (bu_appendC5 hFS hc hT hl) oknJ5_append_3fe6f rfl gJ4_append_cf468_J5_append_3fe6f_s50 (by decide +kernel) ⟨Nat.le_of_ble_eq_true rfl, Nat.le_of_ble_eq_true rfl⟩ (Nat.succ_pos _) rfl rfl rfl (Nat.le_of_ble_eq_true rfl) dJ4_append_cf468_2 (fun r w' I' _ h9 => ?_)
  obtain ⟨a', m', rfl, rfl, hT'⟩ := h9
  refine cw_pop dJ4_append_cf468_5 rfl ?_
  refine cw_aload_n dJ4_append_cf468_6 0 rfl rfl ?_
  exact cw_aretS lw_eqv rfl (Or.inl ⟨_, rfl⟩) (Or.inr ⟨_, rfl⟩) dJ4_append_cf468_7 ⟨a', m', rfl, rfl, hT'⟩
end SBO
