/-! String.length, String.charAt, Enum.ordinal over the constants. -/
section JDK
variable {w : cw_G} {I : cw_M} {sd sv : Nat → Nat}
theorem jd_coder (h : cw_FS (cw_f w) sd sv) {k : Nat} (hk : k < 16) : cw_C w mJ0_coder_7d493 [.ref (sd k)] I (some (.int 0)) I := by
  refine cw_entry okJ0_coder_7d493 (Nat.le_of_ble_eq_true rfl) (show cw_B w mJ0_coder_7d493 (cw_Z w (some (.int 0)) I) 0 0 I 0 [(0, .ref (sd k))] [] from ?_)
  refine cw_gets (fun A U H q => (h A U H q).1) (by decide +kernel) dJ0_coder_7d493_0 ?_
  refine cw_if_eq (tgt := 13) dJ0_coder_7d493_3 (by decide) (fun q => absurd q (by decide)) (fun q => ?_)
  refine cw_aload_n dJ0_coder_7d493_6 0 rfl rfl ?_
  refine cw_getk (fun A U H q => (h.str A U H q hk).2.1) (by decide +kernel) dJ0_coder_7d493_7 ?_
  refine cw_goto (tgt := 14) dJ0_coder_7d493_10 (by decide) ?_
  exact cw_zret rfl rfl dJ0_coder_7d493_14 ⟨rfl, rfl⟩
theorem jd_isLatin1 (h : cw_FS (cw_f w) sd sv) {k : Nat} (hk : k < 16) : cw_C w mJ0_isLatin1_aae02 [.ref (sd k)] I (some (.int 1)) I := by
  refine cw_entry okJ0_isLatin1_aae02 (Nat.le_of_ble_eq_true rfl) (show cw_B w mJ0_isLatin1_aae02 (cw_Z w (some (.int 1)) I) 0 0 I 0 [(0, .ref (sd k))] [] from ?_)
  refine cw_gets (fun A U H q => (h A U H q).1) (by decide +kernel) dJ0_isLatin1_aae02_0 ?_
  refine cw_if_eq (tgt := 17) dJ0_isLatin1_aae02_3 (by decide) (fun q => absurd q (by decide)) (fun q => ?_)
  refine cw_aload_n dJ0_isLatin1_aae02_6 0 rfl rfl ?_
  refine cw_getk (fun A U H q => (h.str A U H q hk).2.1) (by decide +kernel) dJ0_isLatin1_aae02_7 ?_
  refine cw_if_ne (tgt := 17) dJ0_isLatin1_aae02_10 (by decide) (fun q => absurd rfl q) (fun q => ?_)
  refine cw_iconst (v := 1) dJ0_isLatin1_aae02_13 (by decide) ?_
  refine cw_goto (tgt := 18) dJ0_isLatin1_aae02_14 (by decide) ?_
  exact cw_bret rfl dJ0_isLatin1_aae02_18 (by decide) ⟨rfl, rfl⟩
theorem jd_length (h : cw_FS (cw_f w) sd sv) {k : Nat} (hk : k < 16) : cw_C w mJ0_length_8abf5 [.ref (sd k)] I (some (.int (cw_ln k))) I := by
  refine cw_entry okJ0_length_8abf5 (Nat.le_of_ble_eq_true rfl) (show cw_B w mJ0_length_8abf5 (cw_Z w (some (.int (cw_ln k))) I) 0 0 I 0 [(0, .ref (sd k))] [] from ?_)
  refine cw_aload_n dJ0_length_8abf5_0 0 rfl rfl ?_
  refine cw_getk (fun A U H q => (h.str A U H q hk).2.2.1) (by decide +kernel) dJ0_length_8abf5_1 ?_
  refine cw_tlen (v := cw_ln k) (fun A U H q => (h.str A U H q hk).2.2.2) rfl dJ0_length_8abf5_4 ?_
  refine cw_aload_n dJ0_length_8abf5_5 0 rfl rfl ?_
  refine cw_callK (As := []) (jd_coder h hk) okJ0_coder_7d493 rfl gJ0_length_8abf5_J0_coder_7d493 (by decide) (fun A U H q => (h.str A U H q hk).1) rfl (Nat.le_of_ble_eq_true rfl) dJ0_length_8abf5_6 ?_
  refine cw_ishr dJ0_length_8abf5_9 ?_
  exact cw_iret rfl dJ0_length_8abf5_10 ⟨by
    have h0 : ∀ x : Int32, x >>> ((0 : Int32) &&& 31) = x := fun x => by
      have h1 : ((0 : Int32) &&& 31) = 0 := by decide
      rw [h1]
      apply Int32.toBitVec_inj.mp
      simp
    rw [h0], rfl⟩
theorem jd_check3 {i n : Nat} (hi : i < n) (hn : n < 2 ^ 31) {v : Value} (hv : v = .null ∨ ∃ a : Nat, v = .ref a) : cw_C w mJ3_checkIndex_8e157 [.int (nI i), .int (nI n), v] I (some (.int (nI i))) I := by
  rcases hv with rfl | ⟨a, rfl⟩
  · refine cw_entry okJ3_checkIndex_8e157 (Nat.le_of_ble_eq_true rfl) (show cw_B w mJ3_checkIndex_8e157 (cw_Z w (some (.int (nI i))) I) 0 0 I 0 [(0, .int (nI i)), (1, .int (nI n)), (2, .null)] [] from ?_)
    refine cw_iload_n dJ3_checkIndex_8e157_0 0 rfl rfl ?_
    refine cw_if_lt (tgt := 9) dJ3_checkIndex_8e157_1 (by decide) (fun q => absurd q (nI_pos (by omega))) (fun q => ?_)
    refine cw_iload_n dJ3_checkIndex_8e157_4 0 rfl rfl ?_
    refine cw_iload_n dJ3_checkIndex_8e157_5 1 rfl rfl ?_
    refine cw_icmp_lt (tgt := 16) dJ3_checkIndex_8e157_6 (by decide) (fun q => ?_) (fun q => absurd (nI_lt hi hn) q)
    refine cw_iload_n dJ3_checkIndex_8e157_16 0 rfl rfl ?_
    exact cw_iret rfl dJ3_checkIndex_8e157_17 ⟨rfl, rfl⟩
  · refine cw_entry okJ3_checkIndex_8e157 (Nat.le_of_ble_eq_true rfl) (show cw_B w mJ3_checkIndex_8e157 (cw_Z w (some (.int (nI i))) I) 0 0 I 0 [(0, .int (nI i)), (1, .int (nI n)), (2, .ref a)] [] from ?_)
    refine cw_iload_n dJ3_checkIndex_8e157_0 0 rfl rfl ?_
    refine cw_if_lt (tgt := 9) dJ3_checkIndex_8e157_1 (by decide) (fun q => absurd q (nI_pos (by omega))) (fun q => ?_)
    refine cw_iload_n dJ3_checkIndex_8e157_4 0 rfl rfl ?_
    refine cw_iload_n dJ3_checkIndex_8e157_5 1 rfl rfl ?_
    refine cw_icmp_lt (tgt := 16) dJ3_checkIndex_8e157_6 (by decide) (fun q => ?_) (fun q => absurd (nI_lt hi hn) q)
    refine cw_iload_n dJ3_checkIndex_8e157_16 0 rfl rfl ?_
    exact cw_iret rfl dJ3_checkIndex_8e157_17 ⟨rfl, rfl⟩
theorem jd_check0 (h : cw_FS (cw_f w) sd sv) {i n : Nat} (hi : i < n) (hn : n < 2 ^ 31) : cw_C w mJ0_checkIndex_df160 [.int (nI i), .int (nI n)] I none I := by
  refine cw_entry okJ0_checkIndex_df160 (Nat.le_of_ble_eq_true rfl) (show cw_B w mJ0_checkIndex_df160 (cw_Z w none I) 0 0 I 0 [(0, .int (nI i)), (1, .int (nI n))] [] from ?_)
  refine cw_iload_n dJ0_checkIndex_df160_0 0 rfl rfl ?_
  refine cw_iload_n dJ0_checkIndex_df160_1 1 rfl rfl ?_
  refine cw_getsQ (fun A U H q => (h A U H q).2.1) (by decide +kernel) dJ0_checkIndex_df160_2 ?_ (fun a => ?_)
  · refine cw_callA (As := [.int (nI i), .int (nI n), .null]) (jd_check3 hi hn (Or.inl rfl)) okJ3_checkIndex_8e157 rfl gJ0_checkIndex_df160_J3_checkIndex_8e157 (by decide) rfl (Nat.le_of_ble_eq_true rfl) dJ0_checkIndex_df160_5 ?_
    refine cw_pop dJ0_checkIndex_df160_8 rfl ?_
    exact cw_vret rfl dJ0_checkIndex_df160_9 ⟨rfl, rfl⟩
  · refine cw_callA (As := [.int (nI i), .int (nI n), .ref a]) (jd_check3 hi hn (Or.inr ⟨a, rfl⟩)) okJ3_checkIndex_8e157 rfl gJ0_checkIndex_df160_J3_checkIndex_8e157 (by decide) rfl (Nat.le_of_ble_eq_true rfl) dJ0_checkIndex_df160_5 ?_
    refine cw_pop dJ0_checkIndex_df160_8 rfl ?_
    exact cw_vret rfl dJ0_checkIndex_df160_9 ⟨rfl, rfl⟩
theorem jd_tx : ∀ k, k < 16 → (cw_tx k).length < 2 ^ 31 ∧ ∀ i, i < (cw_tx k).length → ((((cw_tx k).getD i 0) &&& 255).toUInt32 % 65536).toInt32 = (cw_tx k).getD i 0 ∧ narrow .char (.int ((cw_tx k).getD i 0)) = .int ((cw_tx k).getD i 0) := by decide +kernel
theorem jd_char1 (h : cw_FS (cw_f w) sd sv) {k i : Nat} (hk : k < 16) (hi : i < (cw_tx k).length) : cw_C w mJ1_charAt_3b067 [.ref (sv k), .int (nI i)] I (some (.int ((cw_tx k).getD i 0))) I := by
  have hL := (jd_tx k hk).1
  obtain ⟨h1, h2⟩ := (jd_tx k hk).2 i hi
  refine cw_entry okJ1_charAt_3b067 (Nat.le_of_ble_eq_true rfl) (show cw_B w mJ1_charAt_3b067 (cw_Z w (some (.int ((cw_tx k).getD i 0))) I) 0 0 I 0 [(0, .ref (sv k)), (1, .int (nI i))] [] from ?_)
  refine cw_iload_n dJ1_charAt_3b067_0 1 rfl rfl ?_
  refine cw_aload_n dJ1_charAt_3b067_1 0 rfl rfl ?_
  refine cw_tlen (v := nI (cw_tx k).length) (fun A U H q => (h.str A U H q hk).2.2.2) rfl dJ1_charAt_3b067_2 ?_
  refine cw_callA (As := [.int (nI i), .int (nI (cw_tx k).length)]) (jd_check0 h hi hL) okJ0_checkIndex_df160 rfl gJ1_charAt_3b067_J0_checkIndex_df160 (by decide) rfl (Nat.le_of_ble_eq_true rfl) dJ1_charAt_3b067_3 ?_
  refine cw_aload_n dJ1_charAt_3b067_6 0 rfl rfl ?_
  refine cw_iload_n dJ1_charAt_3b067_7 1 rfl rfl ?_
  refine cw_tb (v := .int ((cw_tx k).getD i 0)) (fun A U H q => (h.str A U H q hk).2.2.2) (vp_in_nI hi hL) (by rw [nI_clamp (by omega)]) dJ1_charAt_3b067_8 ?_
  refine cw_sipush (v := 255) dJ1_charAt_3b067_9 (by decide) ?_
  refine cw_iand dJ1_charAt_3b067_12 ?_
  refine cw_i2c (v := (cw_tx k).getD i 0) dJ1_charAt_3b067_13 h1 ?_
  exact cw_zret rfl h2 dJ1_charAt_3b067_14 ⟨rfl, rfl⟩
theorem jd_charN (h : cw_FS (cw_f w) sd sv) {k i : Nat} (hk : k < 16) (hi : i < (cw_tx k).length) : cw_C w mJ0_charAt_5068e [.ref (sd k), .int (nI i)] I (some (.int ((cw_tx k).getD i 0))) I := by
  obtain ⟨h1, h2⟩ := (jd_tx k hk).2 i hi
  refine cw_entry okJ0_charAt_5068e (Nat.le_of_ble_eq_true rfl) (show cw_B w mJ0_charAt_5068e (cw_Z w (some (.int ((cw_tx k).getD i 0))) I) 0 0 I 0 [(0, .ref (sd k)), (1, .int (nI i))] [] from ?_)
  refine cw_aload_n dJ0_charAt_5068e_0 0 rfl rfl ?_
  refine cw_callK (As := []) (jd_isLatin1 h hk) okJ0_isLatin1_aae02 rfl gJ0_charAt_5068e_J0_isLatin1_aae02 (by decide) (fun A U H q => (h.str A U H q hk).1) rfl (Nat.le_of_ble_eq_true rfl) dJ0_charAt_5068e_1 ?_
  refine cw_if_eq (tgt := 16) dJ0_charAt_5068e_4 (by decide) (fun q => absurd q (by decide)) (fun q => ?_)
  refine cw_aload_n dJ0_charAt_5068e_7 0 rfl rfl ?_
  refine cw_getk (fun A U H q => (h.str A U H q hk).2.2.1) (by decide +kernel) dJ0_charAt_5068e_8 ?_
  refine cw_iload_n dJ0_charAt_5068e_11 1 rfl rfl ?_
  refine cw_callA (As := [.ref (sv k), .int (nI i)]) (jd_char1 h hk hi) okJ1_charAt_3b067 rfl gJ0_charAt_5068e_J1_charAt_3b067 (by decide) rfl (Nat.le_of_ble_eq_true rfl) dJ0_charAt_5068e_12 ?_
  exact cw_zret rfl h2 dJ0_charAt_5068e_15 ⟨rfl, rfl⟩
theorem jd_charAt (h : cw_FS (cw_f w) sd sv) {k : Nat} {x : Int32} (hk : k < 16) (hx : vp_in x (cw_tx k).length) : cw_C w mJ0_charAt_5068e [.ref (sd k), .int x] I (some (.int (cw_ch k x))) I := by
  have hL := (jd_tx k hk).1
  have h0 : ¬ x < 0 := fun q => hx (Or.inl q)
  have h1 : x.toNatClampNeg < (cw_tx k).length := Nat.not_le.mp fun q => hx (Or.inr q)
  have e : x = nI x.toNatClampNeg := by
    apply Int32.toInt_inj.mp
    rw [nI_toInt (by omega)]
    have h2 : ¬ x.toInt < 0 := fun q => h0 (Int32.lt_iff_toInt_lt.mpr (by simpa using q))
    simp only [Int32.toNatClampNeg]
    omega
  have hc := jd_charN (w := w) (I := I) h hk h1
  rw [← e] at hc
  exact hc
end JDK
section ORD
variable {K : cw_K} {M : cw_Me} {Z : cw_Zt} {mc ms : Nat} {I : cw_M} {pc : Nat} {L : List (Nat × Value)} {st : List Value}
theorem jd_ord (h : cw_FV K) {j : Nat} (hj : j < 8) : cw_C (cc_w K) mJx29ce0_ordinal_8abf5 [.ref (cw_vd K j)] I (some (.int (nI j))) I := by
  refine cw_entry okJx29ce0_ordinal_8abf5 (Nat.le_of_ble_eq_true rfl) (show cw_B (cc_w K) mJx29ce0_ordinal_8abf5 (cw_Z (cc_w K) (some (.int (nI j))) I) 0 0 I 0 [(0, .ref (cw_vd K j))] [] from ?_)
  refine cw_aload_n dJx29ce0_ordinal_8abf5_0 0 rfl rfl ?_
  refine cw_getk (fun A U H q => h.ord A U H q j hj) (by decide +kernel) dJx29ce0_ordinal_8abf5_1 ?_
  exact cw_iret rfl dJx29ce0_ordinal_8abf5_4 ⟨rfl, rfl⟩
theorem cw_callO {j index : Nat} (hV : cw_FV K) (hj : j < 8) (hG : GoodIn (cw_w M) (va_wsU (cw_y M).cls index RX9 "java/lang/Enum" ⟨"CakeDivision$Verb", "ordinal", "()I"⟩ yJx29ce0_ordinal_8abf5 wsJx29ce0_ordinal_8abf5)) (hR : 1 ≤ cw_fr M ∧ 20 ≤ cw_lo M) (hW : (st.map fun v => v.category).sum ≤ 8) (hd : decode (cw_c M) pc = .ok (.invokevirtual index, 3)) (kk : cw_B (cc_w K) M Z mc ms I (pc + 3) L (.int (nI j) :: st)) : cw_B (cc_w K) M Z mc ms I pc L (.ref (cw_vd K j) :: st) := by
  intro p e s m args below meth c H locs ls X hP hS h
  have hrun := va_runU (p := p) (l := cw_l (cc_w K)) (e := e) (R := cw_R M mc ms) (s := s) (m := m) (args := args) (below := below) (meth := meth) (c := c) (H := H) (locs := locs) (cells := 0) (slots := 0) (As := []) (rest := st) (g := F0 m pc ls (.ref (cw_vd K j) :: st)) (b := cw_vd K j) X.1 (jd_ord (I := I) hV hj H.size)
    (va_cwU (R := cw_R M mc ms) (rm := cw_R mJx29ce0_ordinal_8abf5 0 0) (C := RX9) (ws := wsJx29ce0_ordinal_8abf5) 0 X.1.2.2.2.2 hG rfl rfl rfl rfl ⟨by decide, by decide, by decide +kernel⟩ ⟨hR.1, hR.2⟩)
    ⟨fun a U g mk q => by
      obtain ⟨q1, q2, q3, q4, q5, q6, q7⟩ := q
      exact ⟨q1, q2, q3, va_K.moved (u := U) (U := U.calling g mk a) (Vm.Alike.refl U.vm) q4, q5, q7.1 _ U _ _ (State.WarmedH.refl U) q6, q7⟩,
     (by
      obtain ⟨cell, a1, a2, a3, a4⟩ := hV.obj _ _ _ X.2.2.2.2.2.1 j hj
      exact ⟨cell, by rw [hS.2.1 _ (Array.getElem?_eq_some_iff.mp a1).1 a4]; exact a1, a2, a3⟩),
     fun U hU hW => ⟨rfl, by rw [hU], by rw [hU]; exact hP, va_K.moved hW.alike X.2.2.2.1, X.2.2.2.2.1, by
      rw [hU]
      exact X.2.2.2.2.2.2.1.2.2 _ _ _ _ (X.2.2.2.2.2.2.1.2.1 _ _ _ _ (X.2.2.2.2.2.2.1.1 _ _ _ _ hW X.2.2.2.2.2.1) hS.1 (fun a h1 h2 => hS.2.1 a h1 h2)) (fun q hq => hq.elim Or.inl (fun h => Or.inr (Nat.le_trans hS.1 h))), X.2.2.2.2.2.2.1⟩⟩
    rfl rfl h.1 rfl (by show 2 * 0 + _ ≤ 8; omega) hd ⟨Nat.zero_le _, Nat.zero_le _⟩
  intro T0 hT X0
  obtain ⟨v, st₀, t, T', L1, h0, X', hL, e1, e2, ⟨hv9, hq2, hz, hk2⟩, stp⟩ := hrun T0 hT X0
  cases hv9
  rw [h0] at hz hk2
  have hsub : ∀ q, cw_own (cc_w K) H.size q → cw_own (cc_w K) s.heap.size q := fun q hq => hq.elim Or.inl (fun h => Or.inr (Nat.le_trans hS.1 h))
  obtain ⟨t2, a1, b1⟩ := kk p e s m args below meth c T'.heap (locs ++ L1) ls X (by rw [e1]; exact hq2) ⟨Nat.le_trans hS.1 (by rw [e1]; exact hz), fun q h1 h2 => by rw [e1, hk2 q (Nat.lt_of_lt_of_le h1 hS.1) (fun z => h2 (hsub q z))]; exact hS.2.1 q h1 h2, fun q hq => by
      rcases List.mem_append.mp hq with h | h
      · exact hS.2.2 q h
      · exact hsub _ (hL q h)⟩ h T' rfl X'
  exact ⟨t2, stp t2 a1, b1⟩
end ORD
