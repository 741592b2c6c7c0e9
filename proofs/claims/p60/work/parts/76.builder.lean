/-! ## the text of a setup: the builder's worlds -/
/-- a world, cell by cell -/
abbrev lw (K : cw_K) (l : List (Nat × ((Nat → Int32) → va_E))) : cw_G := (K.1, K.2.1, cw_ty K.2.2.1, fun k => (l.getD k (0, fun _ => .inr (0, []))).1, fun k => (l.getD k (0, fun _ => .inr (0, []))).2, l.length, cw_Fc K)
abbrev eB (v : Value) : (Nat → Int32) → va_E := fun f => .inr (1, [v, .int (f 1), .int (f 2), .int (f 3)])
abbrev eA (K : cw_K) (m : Nat) : (Nat → Int32) → va_E := fun f => .inl (K.2.2.1 4, m, .inl f)
abbrev eT (v : Value) : (Nat → Int32) → va_E := fun f => .inr (0, [v, .int (f 1), .int (f 2), .int (f 3)])
abbrev B2 (K : cw_K) (b a m : Nat) : cw_G := lw K [(b, eB (.ref a)), (a, eA K m)]
theorem lw_eqv {K : cw_K} {l l2 : List (Nat × ((Nat → Int32) → va_E))} : cw_eqv (lw K l) (lw K l2) := ⟨rfl, rfl, rfl, rfl⟩
theorem lw_ext (K : cw_K) (l : List (Nat × ((Nat → Int32) → va_E))) (q : Nat) (E : (Nat → Int32) → va_E) : cw_ext (lw K l) (lw K (l ++ [(q, E)])) q E := by
  have e1 : ∀ k, k < l.length → (l ++ [(q, E)]).getD k (0, fun _ => .inr (0, [])) = l.getD k (0, fun _ => .inr (0, [])) := fun k hk => by
    rw [List.getD_eq_getElem?_getD, List.getD_eq_getElem?_getD, List.getElem?_append_left hk]
  have e2 : (l ++ [(q, E)]).getD l.length (0, fun _ => .inr (0, [])) = (q, E) := by
    rw [List.getD_eq_getElem?_getD, List.getElem?_append_right (Nat.le_refl _), Nat.sub_self]
    rfl
  refine ⟨rfl, rfl, rfl, by show (l ++ [(q, E)]).length = l.length + 1; simp, fun k hk => by show ((l ++ [(q, E)]).getD k _).1 = _; rw [e1 k hk], fun k hk => by show ((l ++ [(q, E)]).getD k _).2 = _; rw [e1 k hk], by show ((l ++ [(q, E)]).getD l.length _).1 = _; rw [e2], by show ((l ++ [(q, E)]).getD l.length _).2 = _; rw [e2], rfl⟩
theorem bu_shr0 (x : Int32) : x >>> ((0 : Int32) &&& 31) = x := by
  have h1 : ((0 : Int32) &&& 31) = 0 := by decide
  rw [h1]
  apply Int32.toBitVec_inj.mp
  simp
theorem bu_shl0 (x : Int32) : x <<< ((0 : Int32) &&& 31) = x := by
  have h1 : ((0 : Int32) &&& 31) = 0 := by decide
  rw [h1]
  apply Int32.toBitVec_inj.mp
  simp
/-- a builder that holds the letters tl, room for m; its array has bytes below 128 alone -/
def buT (m : Nat) (tl : List Nat) (I : cw_M) : Prop := tl.length ≤ m ∧ m ≤ 446 ∧ I 0 1 = 0 ∧ I 0 3 = nI tl.length ∧ (∀ j, j < tl.length → I 1 j = nI (tl.getD j 0)) ∧ ∀ j, ∃ c : Nat, c < 128 ∧ I 1 j = nI c
theorem bu_fit : ∀ c, c < 128 → fits .byte (.int (nI c)) = true := by decide +kernel
theorem bu_nar : ∀ c, c < 128 → vp_nar .byte (nI c) = nI c := by decide +kernel
theorem bu_i2b : ∀ c, c < 128 → (nI c).toInt8.toInt32 = nI c := by decide +kernel
/-- the room behind a growth -/
def bu_nc (m c : Nat) : Nat := m + max (c - m) (m + 2)
theorem bu_nc_le {m c : Nat} (h : m < c) (hc : c ≤ 223) : c ≤ bu_nc m c ∧ bu_nc m c ≤ 446 ∧ m < bu_nc m c := by
  unfold bu_nc
  omega
/-- the digits of a number's two last places -/
def bu_FD (F : cw_F) (dO dT : Nat) : Prop := ∀ (A : Nat → Prop) (U : State) (H : Heap), F A U H → va_Z "java/lang/Integer" "DigitOnes" "[B" (.ref dO) A U H ∧ va_T .byte dO 100 (fun j => .int (nI (48 + j % 10))) A U H ∧ va_Z "java/lang/Integer" "DigitTens" "[B" (.ref dT) A U H ∧ va_T .byte dT 100 (fun j => .int (nI (48 + j / 10))) A U H
def bu_FC (F : cw_F) : Prop := ∀ (A : Nat → Prop) (U : State) (H : Heap), F A U H → va_Nw (.castable "[B" "java/lang/Cloneable") U
/-- the letters of a constant, in numbers -/
def bu_tx (k : Nat) : List Nat := (cw_tx k).map Int32.toNatClampNeg
section SBM
variable {K : cw_K} {I : cw_M} {sd sv : Nat → Nat}
def nJ8_newLength_cabcc : cw_Me := (yJ8_newLength_cabcc, wsJ8_newLength_cabcc, cJ8_newLength_cabcc, 4, (some .int), 1, 22)
theorem oknJ8_newLength_cabcc : cw_ok nJ8_newLength_cabcc 3 := okJ8_newLength_cabcc
theorem bu_newLength {w : cw_G} {o d g : Nat} (h1 : 1 ≤ d) (h2 : o + max d g < 2 ^ 20) : cw_C (w) nJ8_newLength_cabcc [.int (nI o), .int (nI d), .int (nI g)] I (some (.int (nI (o + max d g)))) I := by
  refine cw_entry oknJ8_newLength_cabcc (Nat.le_of_ble_eq_true rfl) (show cw_B (w) (w) nJ8_newLength_cabcc (cw_Z (w) (some (.int (nI (o + max d g)))) I) 0 0 0 0 I 0 [(0, .int (nI o)), (1, .int (nI d)), (2, .int (nI g))] [] from ?_)
  refine cw_iload_n dJ8_newLength_cabcc_0 0 rfl rfl ?_
  refine cw_iload_n dJ8_newLength_cabcc_1 1 rfl rfl ?_
  refine cw_iload_n dJ8_newLength_cabcc_2 2 rfl rfl ?_
  refine cw_mmax (by decide +kernel) (by decide +kernel) (by decide +kernel) (by decide +kernel) ⟨Nat.le_of_ble_eq_true rfl, Nat.le_of_ble_eq_true rfl⟩ dJ8_newLength_cabcc_3 ?_
  rw [show (if nI d < nI g then nI g else nI d) = nI (max d g) from by
    by_cases q : d < g
    · rw [if_pos (nI_lt q (by omega)), Nat.max_eq_right (by omega)]
    · rw [if_neg (fun z => q ((nI_ltI (by omega) (by omega)).mp z)), Nat.max_eq_left (by omega)]]
  refine cw_iadd dJ8_newLength_cabcc_6 ?_
  rw [nI_add]
  refine cw_istore_n dJ8_newLength_cabcc_7 rfl (by decide) rfl ?_
  refine cw_iconst (v := 0) dJ8_newLength_cabcc_8 (by decide) ?_
  refine cw_iload_n dJ8_newLength_cabcc_9 0 rfl rfl ?_
  refine cw_icmp_ge (tgt := 21) dJ8_newLength_cabcc_10 (by decide) (fun q => absurd q (show ¬ nI (o + max d g) ≤ nI 0 from nI_ge (by omega) (by omega))) (fun _ => ?_)
  refine cw_iload_n dJ8_newLength_cabcc_13 0 rfl rfl ?_
  refine cw_ldcI (v := 2147483639) (by decide +kernel) dJ8_newLength_cabcc_14 ?_
  refine cw_icmp_gt (tgt := 21) dJ8_newLength_cabcc_16 (by decide) (fun q => absurd q (fun z => absurd z (Int32.not_lt.mpr (show nI (o + max d g) ≤ nI 2147483639 from nI_le (by omega) (by omega))))) (fun _ => ?_)
  refine cw_iload_n dJ8_newLength_cabcc_19 0 rfl rfl ?_
  exact cw_iret rfl dJ8_newLength_cabcc_20 ⟨rfl, rfl⟩
def nJ5_newCapacity_0f7a4 : cw_Me := (yJ5_newCapacity_0f7a4, wsJ5_newCapacity_0f7a4, cJ5_newCapacity_0f7a4, 6, (some .int), 2, 45)
theorem oknJ5_newCapacity_0f7a4 : cw_ok nJ5_newCapacity_0f7a4 1 := okJ5_newCapacity_0f7a4
theorem bu_newCapacity {b a m c : Nat} (h1 : I 0 1 = 0) (hm : m < c) (hc : c ≤ 223) : cw_C (B2 K b a m) nJ5_newCapacity_0f7a4 [.ref b, .int (nI c)] I (some (.int (nI (bu_nc m c)))) I := by
  refine cw_entry oknJ5_newCapacity_0f7a4 (Nat.le_of_ble_eq_true rfl) (show cw_B (B2 K b a m) (B2 K b a m) nJ5_newCapacity_0f7a4 (cw_Z (B2 K b a m) (some (.int (nI (bu_nc m c)))) I) 0 0 0 0 I 0 [(0, .ref b), (1, .int (nI c))] [] from ?_)
  refine cw_aload_n dJ5_newCapacity_0f7a4_0 0 rfl rfl ?_
  refine cw_getf (C := RJ4) (T := TJ4) (N := 4) (ci := 1) (v := .ref a) (by decide +kernel) 0 (Nat.succ_pos _) rfl rfl 0 (by decide) (by decide +kernel) rfl dJ5_newCapacity_0f7a4_1 ?_
  refine cw_alen (v := nI m) 1 (Nat.succ_lt_succ (Nat.succ_pos _)) rfl 4 rfl rfl dJ5_newCapacity_0f7a4_4 ?_
  refine cw_istore_n dJ5_newCapacity_0f7a4_5 rfl (by decide) rfl ?_
  refine cw_iload_n dJ5_newCapacity_0f7a4_6 2 rfl rfl ?_
  refine cw_aload_n dJ5_newCapacity_0f7a4_7 1 rfl rfl ?_
  refine cw_getf (C := RJ4) (T := TJ4) (N := 4) (ci := 1) (v := .int (0)) (by decide +kernel) 0 (Nat.succ_pos _) rfl rfl 1 (by decide) (by decide +kernel) (by show some (Value.int (I 0 1)) = _; rw [h1]) dJ5_newCapacity_0f7a4_8 ?_
  refine cw_ishl dJ5_newCapacity_0f7a4_11 ?_
  rw [bu_shl0]
  refine cw_istore_n dJ5_newCapacity_0f7a4_12 rfl (by decide) rfl ?_
  refine cw_iload_n dJ5_newCapacity_0f7a4_13 0 rfl rfl ?_
  refine cw_iload_n dJ5_newCapacity_0f7a4_14 1 rfl rfl ?_
  refine cw_isub dJ5_newCapacity_0f7a4_15 ?_
  rw [show nI c - nI m = nI (c - m) from sp_sub (by omega)]
  refine cw_istore dJ5_newCapacity_0f7a4_16 (by decide) rfl ?_
  refine cw_iload_n dJ5_newCapacity_0f7a4_18 2 rfl rfl ?_
  refine cw_iload dJ5_newCapacity_0f7a4_19 0 rfl ?_
  refine cw_iload_n dJ5_newCapacity_0f7a4_21 2 rfl rfl ?_
  refine cw_iconst (v := 2) dJ5_newCapacity_0f7a4_22 (by decide) ?_
  refine cw_aload_n dJ5_newCapacity_0f7a4_23 3 rfl rfl ?_
  refine cw_getf (C := RJ4) (T := TJ4) (N := 4) (ci := 1) (v := .int (0)) (by decide +kernel) 0 (Nat.succ_pos _) rfl rfl 1 (by decide) (by decide +kernel) (by show some (Value.int (I 0 1)) = _; rw [h1]) dJ5_newCapacity_0f7a4_24 ?_
  refine cw_ishl dJ5_newCapacity_0f7a4_27 ?_
  rw [bu_shl0]
  refine cw_iadd dJ5_newCapacity_0f7a4_28 ?_
  rw [show nI m + 2 = nI (m + 2) from nI_add m 2]
  refine cw_callA (As := [.int (nI m), .int (nI (c - m)), .int (nI (m + 2))]) (bu_newLength (by omega) (by omega)) oknJ8_newLength_cabcc rfl gJ5_newCapacity_0f7a4_J8_newLength_cabcc ⟨Nat.le_of_ble_eq_true rfl, Nat.le_of_ble_eq_true rfl⟩ rfl (Nat.le_of_ble_eq_true rfl) dJ5_newCapacity_0f7a4_29 ?_
  show cw_B _ _ _ _ _ _ _ _ _ _ _ [.int (nI (bu_nc m c))]
  have b9 := bu_nc_le hm hc
  refine cw_istore dJ5_newCapacity_0f7a4_32 (by decide) rfl ?_
  refine cw_iload dJ5_newCapacity_0f7a4_34 0 rfl ?_
  refine cw_ldcI (v := 2147483647) (by decide +kernel) dJ5_newCapacity_0f7a4_36 ?_
  refine cw_icmp_ne (tgt := 51) dJ5_newCapacity_0f7a4_38 (by decide) (fun _ => ?_) (fun q => absurd q (fun z => absurd ((nI_eq (b := 2147483647) (by omega) (by omega)).mp z) (by omega)))
  refine cw_iload dJ5_newCapacity_0f7a4_51 0 rfl ?_
  refine cw_aload_n dJ5_newCapacity_0f7a4_53 4 rfl rfl ?_
  refine cw_getf (C := RJ4) (T := TJ4) (N := 4) (ci := 1) (v := .int (0)) (by decide +kernel) 0 (Nat.succ_pos _) rfl rfl 1 (by decide) (by decide +kernel) (by show some (Value.int (I 0 1)) = _; rw [h1]) dJ5_newCapacity_0f7a4_54 ?_
  refine cw_ishr dJ5_newCapacity_0f7a4_57 ?_
  rw [bu_shr0]
  exact cw_iret rfl dJ5_newCapacity_0f7a4_58 ⟨rfl, rfl⟩
def nJ7_copyOf_9075b : cw_Me := (yJ7_copyOf_9075b, wsJ7_copyOf_9075b, cJ7_copyOf_9075b, 3, (some (.array .byte)), 1, 40)
theorem oknJ7_copyOf_9075b : cw_ok nJ7_copyOf_9075b 2 := okJ7_copyOf_9075b
theorem bu_copyOf {b a m N : Nat} (hm : m < N) (hN : N ≤ 446) (hb : ∀ j, ∃ c : Nat, c < 128 ∧ I 1 j = nI c) : cw_SN 1 N (B2 K b a m) nJ7_copyOf_9075b [.ref a, .int (nI N)] I (fun r w' I' => ∃ q : Nat, r = some (.ref q) ∧ w' = lw K [(b, eB (.ref a)), (a, eA K m), (q, eA K N)] ∧ I' = cw_up I 2 (va_cpy (I 1) (fun _ => 0) 0 0 m)) := by
  refine cw_entryS oknJ7_copyOf_9075b (Nat.le_of_ble_eq_true rfl) (show cw_B (B2 K b a m) (B2 K b a m) nJ7_copyOf_9075b (cw_ZS 1 N (B2 K b a m) (fun r w' I' => ∃ q : Nat, r = some (.ref q) ∧ w' = lw K [(b, eB (.ref a)), (a, eA K m), (q, eA K N)] ∧ I' = cw_up I 2 (va_cpy (I 1) (fun _ => 0) 0 0 m))) 1 N 0 0 I 0 [(0, .ref a), (1, .int (nI N))] [] from ?_)
  refine cw_iload_n dJ7_copyOf_9075b_0 1 rfl rfl ?_
  refine cw_aload_n dJ7_copyOf_9075b_1 0 rfl rfl ?_
  refine cw_alen (v := nI m) 1 (show 1 < 2 by decide) rfl 4 rfl rfl dJ7_copyOf_9075b_2 ?_
  refine cw_icmp_ne (tgt := 14) dJ7_copyOf_9075b_3 (by decide) (fun _ => ?_) (fun q => absurd q (fun z => absurd ((nI_eq (by omega) (by omega)).mp z) (by omega)))
  refine cw_iload_n dJ7_copyOf_9075b_14 1 rfl rfl ?_
  refine cw_newb (w' := fun q => lw K [(b, eB (.ref a)), (a, eA K m), (q, eA K N)]) (N := N) (cA := K.2.2.1 4) (fun q => lw_ext K [(b, eB (.ref a)), (a, eA K m)] q (eA K N)) 4 rfl (by decide +kernel) rfl (by omega) ⟨by omega, by omega⟩ dJ7_copyOf_9075b_15 (fun q => ?_)
  refine cw_astore_n dJ7_copyOf_9075b_17 rfl (by decide) rfl ?_
  refine cw_aload_n dJ7_copyOf_9075b_18 1 rfl rfl ?_
  refine cw_iconst (v := 0) dJ7_copyOf_9075b_19 (by decide) ?_
  refine cw_aload_n dJ7_copyOf_9075b_20 0 rfl rfl ?_
  refine cw_iconst (v := 0) dJ7_copyOf_9075b_21 (by decide) ?_
  refine cw_aload_n dJ7_copyOf_9075b_22 1 rfl rfl ?_
  refine cw_alen (v := nI m) 1 (show 1 < 3 by decide) rfl 4 rfl rfl dJ7_copyOf_9075b_23 ?_
  refine cw_iload_n dJ7_copyOf_9075b_24 2 rfl rfl ?_
  refine cw_mmin (by decide +kernel) (by decide +kernel) (by decide +kernel) (by decide +kernel) ⟨Nat.le_of_ble_eq_true rfl, Nat.le_of_ble_eq_true rfl⟩ dJ7_copyOf_9075b_25 ?_
  rw [show (if nI N < nI m then nI N else nI m) = nI m from if_neg (fun z => absurd ((nI_ltI (by omega) (by omega)).mp z) (by omega))]
  refine cw_copyb (c0 := K.2.2.1 4) (n0 := m) (n1 := N) (by decide +kernel) (by decide +kernel) (by decide +kernel) (by decide +kernel) 1 2 (show 1 < 3 by decide) (show 2 < 3 by decide) rfl (fun _ => rfl) 4 rfl ⟨by decide, by decide, nI_pos (by omega), by show 0 + (nI m).toNatClampNeg ≤ m; rw [nI_clamp (by omega)]; omega, by show 0 + (nI m).toNatClampNeg ≤ N; rw [nI_clamp (by omega)]; omega⟩ (fun i _ => by
    obtain ⟨c, h1, h2⟩ := hb (0 + i)
    show fits .byte (.int (I 1 (0 + i))) = true
    rw [h2]
    exact bu_fit c h1) ⟨Nat.le_of_ble_eq_true rfl, Nat.le_of_ble_eq_true rfl⟩ dJ7_copyOf_9075b_28 ?_
  rw [nI_clamp (by omega)]
  refine cw_aload_n dJ7_copyOf_9075b_31 0 rfl rfl ?_
  refine cw_widen (u := 1) (v := N) ⟨by omega, by omega⟩ ⟨Nat.le_refl _, Nat.le_refl _⟩ ?_
  refine cw_aretS lw_eqv rfl (Or.inr ⟨_, rfl⟩) (Or.inr ⟨_, rfl⟩) dJ7_copyOf_9075b_32 ⟨q, rfl, rfl, ?_⟩
  exact sp_upup I 2 _ _
def nJ5_ensureCapacityInternal_d00df : cw_Me := (yJ5_ensureCapacityInternal_d00df, wsJ5_ensureCapacityInternal_d00df, cJ5_ensureCapacityInternal_d00df, 3, none, 3, 70)
theorem oknJ5_ensureCapacityInternal_d00df : cw_ok nJ5_ensureCapacityInternal_d00df 1 := okJ5_ensureCapacityInternal_d00df
theorem bu_suble {m c : Nat} (h : c ≤ m) (hm : m < 1000) : nI c - nI m ≤ 0 := by
  rw [Int32.le_iff_toInt_le, pk_sub_toInt (by omega) (by omega)]
  show (c : Int) - (m : Int) ≤ 0
  omega
theorem bu_subgt {m c : Nat} (h : m < c) (hm : c < 1000) : ¬ nI c - nI m ≤ 0 := by
  rw [Int32.le_iff_toInt_le, pk_sub_toInt (by omega) (by omega)]
  show ¬ (c : Int) - (m : Int) ≤ 0
  omega
theorem bu_grown {m N : Nat} {tl : List Nat} (hT : buT m tl I) (hm : m < N) (hN : N ≤ 446) : buT N tl (cw_up I 1 (va_cpy (I 1) (fun _ => 0) 0 0 m)) := by
  obtain ⟨t1, t2, t3, t4, t5, t6⟩ := hT
  refine ⟨by omega, hN, t3, t4, fun j hj => ?_, fun j => ?_⟩
  · show va_cpy (I 1) (fun _ => 0) 0 0 m j = _
    unfold va_cpy
    rw [if_pos ⟨Nat.zero_le _, by omega⟩, Nat.zero_add, Nat.sub_zero]
    exact t5 j hj
  · show ∃ c : Nat, c < 128 ∧ va_cpy (I 1) (fun _ => 0) 0 0 m j = nI c
    unfold va_cpy
    by_cases q : 0 ≤ j ∧ j < 0 + m
    · rw [if_pos q]
      exact t6 _
    · rw [if_neg q]
      exact ⟨0, by omega, rfl⟩
theorem bu_ensure {b a m c : Nat} {tl : List Nat} (hT : buT m tl I) (hc : c ≤ 223) : cw_SN 1 446 (B2 K b a m) nJ5_ensureCapacityInternal_d00df [.ref b, .int (nI c)] I (fun r w' I' => ∃ a' m' : Nat, r = none ∧ w' = B2 K b a' m' ∧ c ≤ m' ∧ buT m' tl I') := by
  have h1 := hT.2.2.1
  have hb := hT.2.2.2.2.2
  have hm446 := hT.2.1
  refine cw_entryS oknJ5_ensureCapacityInternal_d00df (Nat.le_of_ble_eq_true rfl) (show cw_B (B2 K b a m) (B2 K b a m) nJ5_ensureCapacityInternal_d00df (cw_ZS 1 446 (B2 K b a m) (fun r w' I' => ∃ a' m' : Nat, r = none ∧ w' = B2 K b a' m' ∧ c ≤ m' ∧ buT m' tl I')) 1 446 0 0 I 0 [(0, .ref b), (1, .int (nI c))] [] from ?_)
  refine cw_aload_n dJ5_ensureCapacityInternal_d00df_0 0 rfl rfl ?_
  refine cw_getf (C := RJ4) (T := TJ4) (N := 4) (ci := 1) (v := .ref a) (by decide +kernel) 0 (Nat.succ_pos _) rfl rfl 0 (by decide) (by decide +kernel) rfl dJ5_ensureCapacityInternal_d00df_1 ?_
  refine cw_alen (v := nI m) 1 (Nat.succ_lt_succ (Nat.succ_pos _)) rfl 4 rfl rfl dJ5_ensureCapacityInternal_d00df_4 ?_
  refine cw_aload_n dJ5_ensureCapacityInternal_d00df_5 0 rfl rfl ?_
  refine cw_getf (C := RJ4) (T := TJ4) (N := 4) (ci := 1) (v := .int (0)) (by decide +kernel) 0 (Nat.succ_pos _) rfl rfl 1 (by decide) (by decide +kernel) (by show some (Value.int (I 0 1)) = _; rw [h1]) dJ5_ensureCapacityInternal_d00df_6 ?_
  refine cw_ishr dJ5_ensureCapacityInternal_d00df_9 ?_
  rw [bu_shr0]
  refine cw_istore_n dJ5_ensureCapacityInternal_d00df_10 rfl (by decide) rfl ?_
  refine cw_iload_n dJ5_ensureCapacityInternal_d00df_11 2 rfl rfl ?_
  refine cw_iload_n dJ5_ensureCapacityInternal_d00df_12 0 rfl rfl ?_
  refine cw_isub dJ5_ensureCapacityInternal_d00df_13 ?_
  by_cases hm : c ≤ m
  · refine cw_if_le (tgt := 38) dJ5_ensureCapacityInternal_d00df_14 (by decide) (fun _ => ?_) (fun q => absurd (bu_suble hm (by omega)) q)
    refine cw_widen (u := 1) (v := 446) ⟨by omega, by omega⟩ ⟨Nat.le_refl _, Nat.le_refl _⟩ ?_
    exact cw_vretS lw_eqv rfl dJ5_ensureCapacityInternal_d00df_38 ⟨a, m, rfl, rfl, hm, hT⟩
  · have b9 := bu_nc_le (show m < c by omega) hc
    refine cw_if_le (tgt := 38) dJ5_ensureCapacityInternal_d00df_14 (by decide) (fun q => absurd q (bu_subgt (by omega) (by omega))) (fun _ => ?_)
    refine cw_aload_n dJ5_ensureCapacityInternal_d00df_17 1 rfl rfl ?_
    refine cw_aload_n dJ5_ensureCapacityInternal_d00df_18 1 rfl rfl ?_
    refine cw_getf (C := RJ4) (T := TJ4) (N := 4) (ci := 1) (v := .ref a) (by decide +kernel) 0 (Nat.succ_pos _) rfl rfl 0 (by decide) (by decide +kernel) rfl dJ5_ensureCapacityInternal_d00df_19 ?_
    refine cw_aload_n dJ5_ensureCapacityInternal_d00df_22 1 rfl rfl ?_
    refine cw_iload_n dJ5_ensureCapacityInternal_d00df_23 2 rfl rfl ?_
    refine cw_sU (o := 0) (As := [.int (nI c)]) (C := RJ4) (ci := 1) ⟨Nat.zero_le _, Nat.zero_le _⟩ (cw_SNof (bu_newCapacity h1 (by omega) hc)) oknJ5_newCapacity_0f7a4 rfl gJ5_ensureCapacityInternal_d00df_J5_newCapacity_0f7a4_u104J4 rfl (by decide +kernel) ⟨Nat.le_of_ble_eq_true rfl, Nat.le_of_ble_eq_true rfl⟩ (show 0 < 2 by decide) rfl rfl rfl (Nat.le_of_ble_eq_true rfl) dJ5_ensureCapacityInternal_d00df_24 (fun r w' I' _ h9 => ?_)
    obtain ⟨rfl, rfl, rfl⟩ := h9
    show cw_B _ _ _ _ _ _ _ _ _ _ _ [.int (nI (bu_nc m c)), .ref a, .ref b]
    refine cw_aload_n dJ5_ensureCapacityInternal_d00df_27 1 rfl rfl ?_
    refine cw_getf (C := RJ4) (T := TJ4) (N := 4) (ci := 1) (v := .int (0)) (by decide +kernel) 0 (Nat.succ_pos _) rfl rfl 1 (by decide) (by decide +kernel) (by show some (Value.int (I 0 1)) = _; rw [h1]) dJ5_ensureCapacityInternal_d00df_28 ?_
    refine cw_ishl dJ5_ensureCapacityInternal_d00df_31 ?_
    rw [bu_shl0]
    refine cw_sA (As := [.ref a, .int (nI (bu_nc m c))]) ⟨by omega, by omega⟩ (bu_copyOf b9.2.2 b9.2.1 hb) oknJ7_copyOf_9075b rfl gJ5_ensureCapacityInternal_d00df_J7_copyOf_9075b ⟨Nat.le_of_ble_eq_true rfl, Nat.le_of_ble_eq_true rfl⟩ rfl (Nat.le_of_ble_eq_true rfl) dJ5_ensureCapacityInternal_d00df_32 (fun r w' I' _ h9 => ?_)
    obtain ⟨q, rfl, rfl, rfl⟩ := h9
    refine cw_putr (w' := lw K [(b, eB (.ref q)), (a, eA K m), (q, eA K (bu_nc m c))]) (I' := cw_up I 2 (va_cpy (I 1) (fun _ => 0) 0 0 m)) (C := RJ4) (T := TJ4) (N := 4) (ci := 1) (by decide +kernel) tyJ4 tyJ4_ok nmJ4 0 (show 0 < 3 by decide) rfl rfl 0 (by decide) (by decide +kernel) rfl rfl rfl (show 0 < 4 by decide) lw_eqv rfl (fun j => by rcases j with _ | _ | _ | j <;> rfl) rfl (fun j hj hj0 => by rcases j with _ | _ | _ | j <;> first | exact absurd rfl hj0 | rfl) dJ5_ensureCapacityInternal_d00df_35 ?_
    refine cw_perm (B2 K b q (bu_nc m c)) (cw_up I 1 (va_cpy (I 1) (fun _ => 0) 0 0 m)) (fun k => if k = 0 then 0 else 2) lw_eqv (fun k hk => by
      rcases k with _ | _ | k
      · exact ⟨show 0 < 3 by decide, rfl, rfl⟩
      · exact ⟨show 2 < 3 by decide, rfl, rfl⟩
      · have : k + 1 + 1 < 2 := hk
        omega) (fun i j hi hj hij => by
      have h1 : i < 2 := hi
      have h2 : j < 2 := hj
      split at hij <;> split at hij <;> omega) ?_
    refine cw_widen (u := 1) (v := 446) ⟨by omega, by omega⟩ ⟨Nat.le_refl _, Nat.le_refl _⟩ ?_
    exact cw_vretS lw_eqv rfl dJ5_ensureCapacityInternal_d00df_38 ⟨q, _, rfl, rfl, b9.1, bu_grown hT b9.2.2 b9.2.1⟩
end SBM
