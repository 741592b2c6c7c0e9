/-! String.length, String.charAt, over the constants (jd_) and over a text that the law has made (jt_). -/
section JDK
variable {w : cw_G} {I : cw_M} {sd sv : Nat → Nat}
theorem jd_coder (h : cw_FS (cw_f w) sd sv) {k : Nat} (hk : cw_tk k) : cw_C w mJ0_coder_7d493 [.ref (sd k)] I (some (.int 0)) I := by
  refine cw_entry okJ0_coder_7d493 (Nat.le_of_ble_eq_true rfl) (show cw_B w w mJ0_coder_7d493 (cw_Z w (some (.int 0)) I) 0 0 0 0 I 0 [(0, .ref (sd k))] [] from ?_)
  refine cw_gets (fun A U H q => (h A U H q).1) (by decide +kernel) dJ0_coder_7d493_0 ?_
  refine cw_if_eq (tgt := 13) dJ0_coder_7d493_3 (by decide) (fun q => absurd q (by decide)) (fun q => ?_)
  refine cw_aload_n dJ0_coder_7d493_6 0 rfl rfl ?_
  refine cw_getk (fun A U H q => (h.str A U H q hk).2.1) (by decide +kernel) dJ0_coder_7d493_7 ?_
  refine cw_goto (tgt := 14) dJ0_coder_7d493_10 (by decide) ?_
  exact cw_zret rfl rfl dJ0_coder_7d493_14 ⟨rfl, rfl⟩
theorem jd_isLatin1 (h : cw_FS (cw_f w) sd sv) {k : Nat} (hk : cw_tk k) : cw_C w mJ0_isLatin1_aae02 [.ref (sd k)] I (some (.int 1)) I := by
  refine cw_entry okJ0_isLatin1_aae02 (Nat.le_of_ble_eq_true rfl) (show cw_B w w mJ0_isLatin1_aae02 (cw_Z w (some (.int 1)) I) 0 0 0 0 I 0 [(0, .ref (sd k))] [] from ?_)
  refine cw_gets (fun A U H q => (h A U H q).1) (by decide +kernel) dJ0_isLatin1_aae02_0 ?_
  refine cw_if_eq (tgt := 17) dJ0_isLatin1_aae02_3 (by decide) (fun q => absurd q (by decide)) (fun q => ?_)
  refine cw_aload_n dJ0_isLatin1_aae02_6 0 rfl rfl ?_
  refine cw_getk (fun A U H q => (h.str A U H q hk).2.1) (by decide +kernel) dJ0_isLatin1_aae02_7 ?_
  refine cw_if_ne (tgt := 17) dJ0_isLatin1_aae02_10 (by decide) (fun q => absurd rfl q) (fun q => ?_)
  refine cw_iconst (v := 1) dJ0_isLatin1_aae02_13 (by decide) ?_
  refine cw_goto (tgt := 18) dJ0_isLatin1_aae02_14 (by decide) ?_
  exact cw_bret rfl dJ0_isLatin1_aae02_18 (by decide) ⟨rfl, rfl⟩
theorem jd_length (h : cw_FS (cw_f w) sd sv) {k : Nat} (hk : cw_tk k) : cw_C w mJ0_length_8abf5 [.ref (sd k)] I (some (.int (cw_ln k))) I := by
  refine cw_entry okJ0_length_8abf5 (Nat.le_of_ble_eq_true rfl) (show cw_B w w mJ0_length_8abf5 (cw_Z w (some (.int (cw_ln k))) I) 0 0 0 0 I 0 [(0, .ref (sd k))] [] from ?_)
  refine cw_aload_n dJ0_length_8abf5_0 0 rfl rfl ?_
  refine cw_getk (fun A U H q => (h.str A U H q hk).2.2.1) (by decide +kernel) dJ0_length_8abf5_1 ?_
  refine cw_tlen (v := cw_ln k) (fun A U H q => (h.str A U H q hk).2.2.2) rfl dJ0_length_8abf5_4 ?_
  refine cw_aload_n dJ0_length_8abf5_5 0 rfl rfl ?_
  refine cw_callK (As := []) (jd_coder h hk) okJ0_coder_7d493 rfl gJ0_length_8abf5_J0_coder_7d493 (by decide) (fun A U H q => (h.str A U H q hk).1) rfl (Nat.le_of_ble_eq_true rfl) dJ0_length_8abf5_6 ?_
  refine cw_ishr dJ0_length_8abf5_9 ?_
  exact cw_iret rfl dJ0_length_8abf5_10 ⟨by
    have h0 : ∀ x : Int32, x >>> ((0 : Int32) &&& 31) = x := fun x => by
      have h1 : ((0 : Int32) &&& 31) = 0 := by decide
      rw [h1]
      apply Int32.toBitVec_inj.mp
      simp
    rw [h0], rfl⟩
theorem jd_check3 {i n : Nat} (hi : i < n) (hn : n < 2 ^ 31) {v : Value} (hv : v = .null ∨ ∃ a : Nat, v = .ref a) : cw_C w mJ3_checkIndex_8e157 [.int (nI i), .int (nI n), v] I (some (.int (nI i))) I := by
  rcases hv with rfl | ⟨a, rfl⟩
  · refine cw_entry okJ3_checkIndex_8e157 (Nat.le_of_ble_eq_true rfl) (show cw_B w w mJ3_checkIndex_8e157 (cw_Z w (some (.int (nI i))) I) 0 0 0 0 I 0 [(0, .int (nI i)), (1, .int (nI n)), (2, .null)] [] from ?_)
    refine cw_iload_n dJ3_checkIndex_8e157_0 0 rfl rfl ?_
    refine cw_if_lt (tgt := 9) dJ3_checkIndex_8e157_1 (by decide) (fun q => absurd q (nI_pos (by omega))) (fun q => ?_)
    refine cw_iload_n dJ3_checkIndex_8e157_4 0 rfl rfl ?_
    refine cw_iload_n dJ3_checkIndex_8e157_5 1 rfl rfl ?_
    refine cw_icmp_lt (tgt := 16) dJ3_checkIndex_8e157_6 (by decide) (fun q => ?_) (fun q => absurd (nI_lt hi hn) q)
    refine cw_iload_n dJ3_checkIndex_8e157_16 0 rfl rfl ?_
    exact cw_iret rfl dJ3_checkIndex_8e157_17 ⟨rfl, rfl⟩
  · refine cw_entry okJ3_checkIndex_8e157 (Nat.le_of_ble_eq_true rfl) (show cw_B w w mJ3_checkIndex_8e157 (cw_Z w (some (.int (nI i))) I) 0 0 0 0 I 0 [(0, .int (nI i)), (1, .int (nI n)), (2, .ref a)] [] from ?_)
    refine cw_iload_n dJ3_checkIndex_8e157_0 0 rfl rfl ?_
    refine cw_if_lt (tgt := 9) dJ3_checkIndex_8e157_1 (by decide) (fun q => absurd q (nI_pos (by omega))) (fun q => ?_)
    refine cw_iload_n dJ3_checkIndex_8e157_4 0 rfl rfl ?_
    refine cw_iload_n dJ3_checkIndex_8e157_5 1 rfl rfl ?_
    refine cw_icmp_lt (tgt := 16) dJ3_checkIndex_8e157_6 (by decide) (fun q => ?_) (fun q => absurd (nI_lt hi hn) q)
    refine cw_iload_n dJ3_checkIndex_8e157_16 0 rfl rfl ?_
    exact cw_iret rfl dJ3_checkIndex_8e157_17 ⟨rfl, rfl⟩
theorem jd_check0 (h : cw_FS (cw_f w) sd sv) {i n : Nat} (hi : i < n) (hn : n < 2 ^ 31) : cw_C w mJ0_checkIndex_df160 [.int (nI i), .int (nI n)] I none I := by
  refine cw_entry okJ0_checkIndex_df160 (Nat.le_of_ble_eq_true rfl) (show cw_B w w mJ0_checkIndex_df160 (cw_Z w none I) 0 0 0 0 I 0 [(0, .int (nI i)), (1, .int (nI n))] [] from ?_)
  refine cw_iload_n dJ0_checkIndex_df160_0 0 rfl rfl ?_
  refine cw_iload_n dJ0_checkIndex_df160_1 1 rfl rfl ?_
  refine cw_getsQ (fun A U H q => (h A U H q).2.1) (by decide +kernel) dJ0_checkIndex_df160_2 ?_ (fun a => ?_)
  · refine cw_callA (As := [.int (nI i), .int (nI n), .null]) (jd_check3 hi hn (Or.inl rfl)) okJ3_checkIndex_8e157 rfl gJ0_checkIndex_df160_J3_checkIndex_8e157 (by decide) rfl (Nat.le_of_ble_eq_true rfl) dJ0_checkIndex_df160_5 ?_
    refine cw_pop dJ0_checkIndex_df160_8 rfl ?_
    exact cw_vret rfl dJ0_checkIndex_df160_9 ⟨rfl, rfl⟩
  · refine cw_callA (As := [.int (nI i), .int (nI n), .ref a]) (jd_check3 hi hn (Or.inr ⟨a, rfl⟩)) okJ3_checkIndex_8e157 rfl gJ0_checkIndex_df160_J3_checkIndex_8e157 (by decide) rfl (Nat.le_of_ble_eq_true rfl) dJ0_checkIndex_df160_5 ?_
    refine cw_pop dJ0_checkIndex_df160_8 rfl ?_
    exact cw_vret rfl dJ0_checkIndex_df160_9 ⟨rfl, rfl⟩
theorem jd_tx0 : ∀ k, k < 16 → (cw_tx k).length < 2 ^ 31 ∧ ∀ i, i < (cw_tx k).length → ((((cw_tx k).getD i 0) &&& 255).toUInt32 % 65536).toInt32 = (cw_tx k).getD i 0 ∧ narrow .char (.int ((cw_tx k).getD i 0)) = .int ((cw_tx k).getD i 0) := by decide +kernel
theorem jd_tx : ∀ k, cw_tk k → (cw_tx k).length < 2 ^ 31 ∧ ∀ i, i < (cw_tx k).length → ((((cw_tx k).getD i 0) &&& 255).toUInt32 % 65536).toInt32 = (cw_tx k).getD i 0 ∧ narrow .char (.int ((cw_tx k).getD i 0)) = .int ((cw_tx k).getD i 0) := fun k hk => jd_tx0 k (by omega)
theorem jt_tx0 : ∀ b, b < 128 → (((nI b) &&& 255).toUInt32 % 65536).toInt32 = nI b ∧ narrow .char (.int (nI b)) = .int (nI b) := by decide +kernel
theorem jt_tx {tl : List Int32} (hb : cw_Btx tl) : tl.length < 2 ^ 31 ∧ ∀ i, i < tl.length → (((tl.getD i 0) &&& 255).toUInt32 % 65536).toInt32 = tl.getD i 0 ∧ narrow .char (.int (tl.getD i 0)) = .int (tl.getD i 0) := by
  refine ⟨Nat.lt_of_lt_of_le hb.1 (by omega), fun i hi => ?_⟩
  obtain ⟨b, h1, h2⟩ := hb.2 i hi
  rw [h2]
  exact jt_tx0 b h1
theorem jd_char1 (h : cw_FS (cw_f w) sd sv) {k i : Nat} (hk : cw_tk k) (hi : i < (cw_tx k).length) : cw_C w mJ1_charAt_3b067 [.ref (sv k), .int (nI i)] I (some (.int ((cw_tx k).getD i 0))) I := by
  have hL := (jd_tx k hk).1
  obtain ⟨h1, h2⟩ := (jd_tx k hk).2 i hi
  refine cw_entry okJ1_charAt_3b067 (Nat.le_of_ble_eq_true rfl) (show cw_B w w mJ1_charAt_3b067 (cw_Z w (some (.int ((cw_tx k).getD i 0))) I) 0 0 0 0 I 0 [(0, .ref (sv k)), (1, .int (nI i))] [] from ?_)
  refine cw_iload_n dJ1_charAt_3b067_0 1 rfl rfl ?_
  refine cw_aload_n dJ1_charAt_3b067_1 0 rfl rfl ?_
  refine cw_tlen (v := nI (cw_tx k).length) (fun A U H q => (h.str A U H q hk).2.2.2) rfl dJ1_charAt_3b067_2 ?_
  refine cw_callA (As := [.int (nI i), .int (nI (cw_tx k).length)]) (jd_check0 h hi hL) okJ0_checkIndex_df160 rfl gJ1_charAt_3b067_J0_checkIndex_df160 (by decide) rfl (Nat.le_of_ble_eq_true rfl) dJ1_charAt_3b067_3 ?_
  refine cw_aload_n dJ1_charAt_3b067_6 0 rfl rfl ?_
  refine cw_iload_n dJ1_charAt_3b067_7 1 rfl rfl ?_
  refine cw_tb (v := .int ((cw_tx k).getD i 0)) (fun A U H q => (h.str A U H q hk).2.2.2) (vp_in_nI hi hL) (by rw [nI_clamp (by omega)]) dJ1_charAt_3b067_8 ?_
  refine cw_sipush (v := 255) dJ1_charAt_3b067_9 (by decide) ?_
  refine cw_iand dJ1_charAt_3b067_12 ?_
  refine cw_i2c (v := (cw_tx k).getD i 0) dJ1_charAt_3b067_13 h1 ?_
  exact cw_zret rfl h2 dJ1_charAt_3b067_14 ⟨rfl, rfl⟩
theorem jd_charN (h : cw_FS (cw_f w) sd sv) {k i : Nat} (hk : cw_tk k) (hi : i < (cw_tx k).length) : cw_C w mJ0_charAt_5068e [.ref (sd k), .int (nI i)] I (some (.int ((cw_tx k).getD i 0))) I := by
  obtain ⟨h1, h2⟩ := (jd_tx k hk).2 i hi
  refine cw_entry okJ0_charAt_5068e (Nat.le_of_ble_eq_true rfl) (show cw_B w w mJ0_charAt_5068e (cw_Z w (some (.int ((cw_tx k).getD i 0))) I) 0 0 0 0 I 0 [(0, .ref (sd k)), (1, .int (nI i))] [] from ?_)
  refine cw_aload_n dJ0_charAt_5068e_0 0 rfl rfl ?_
  refine cw_callK (As := []) (jd_isLatin1 h hk) okJ0_isLatin1_aae02 rfl gJ0_charAt_5068e_J0_isLatin1_aae02 (by decide) (fun A U H q => (h.str A U H q hk).1) rfl (Nat.le_of_ble_eq_true rfl) dJ0_charAt_5068e_1 ?_
  refine cw_if_eq (tgt := 16) dJ0_charAt_5068e_4 (by decide) (fun q => absurd q (by decide)) (fun q => ?_)
  refine cw_aload_n dJ0_charAt_5068e_7 0 rfl rfl ?_
  refine cw_getk (fun A U H q => (h.str A U H q hk).2.2.1) (by decide +kernel) dJ0_charAt_5068e_8 ?_
  refine cw_iload_n dJ0_charAt_5068e_11 1 rfl rfl ?_
  refine cw_callA (As := [.ref (sv k), .int (nI i)]) (jd_char1 h hk hi) okJ1_charAt_3b067 rfl gJ0_charAt_5068e_J1_charAt_3b067 (by decide) rfl (Nat.le_of_ble_eq_true rfl) dJ0_charAt_5068e_12 ?_
  exact cw_zret rfl h2 dJ0_charAt_5068e_15 ⟨rfl, rfl⟩
theorem jd_charAt (h : cw_FS (cw_f w) sd sv) {k : Nat} {x : Int32} (hk : cw_tk k) (hx : vp_in x (cw_tx k).length) : cw_C w mJ0_charAt_5068e [.ref (sd k), .int x] I (some (.int (cw_ch k x))) I := by
  have hL := (jd_tx k hk).1
  have h0 : ¬ x < 0 := fun q => hx (Or.inl q)
  have h1 : x.toNatClampNeg < (cw_tx k).length := Nat.not_le.mp fun q => hx (Or.inr q)
  have e : x = nI x.toNatClampNeg := by
    apply Int32.toInt_inj.mp
    rw [nI_toInt (by omega)]
    have h2 : ¬ x.toInt < 0 := fun q => h0 (Int32.lt_iff_toInt_lt.mpr (by simpa using q))
    simp only [Int32.toNatClampNeg]
    omega
  have hc := jd_charN (w := w) (I := I) h hk h1
  rw [← e] at hc
  exact hc
theorem jt_coder {ta tv : Nat} {tl : List Int32} (h : cw_Ftx (cw_f w) ta tv tl)  : cw_C w mJ0_coder_7d493 [.ref ta] I (some (.int 0)) I := by
  refine cw_entry okJ0_coder_7d493 (Nat.le_of_ble_eq_true rfl) (show cw_B w w mJ0_coder_7d493 (cw_Z w (some (.int 0)) I) 0 0 0 0 I 0 [(0, .ref ta)] [] from ?_)
  refine cw_gets (fun A U H q => (h A U H q).1) (by decide +kernel) dJ0_coder_7d493_0 ?_
  refine cw_if_eq (tgt := 13) dJ0_coder_7d493_3 (by decide) (fun q => absurd q (by decide)) (fun q => ?_)
  refine cw_aload_n dJ0_coder_7d493_6 0 rfl rfl ?_
  refine cw_getk (fun A U H q => ((h A U H q).2.2).2.1) (by decide +kernel) dJ0_coder_7d493_7 ?_
  refine cw_goto (tgt := 14) dJ0_coder_7d493_10 (by decide) ?_
  exact cw_zret rfl rfl dJ0_coder_7d493_14 ⟨rfl, rfl⟩
theorem jt_isLatin1 {ta tv : Nat} {tl : List Int32} (h : cw_Ftx (cw_f w) ta tv tl)  : cw_C w mJ0_isLatin1_aae02 [.ref ta] I (some (.int 1)) I := by
  refine cw_entry okJ0_isLatin1_aae02 (Nat.le_of_ble_eq_true rfl) (show cw_B w w mJ0_isLatin1_aae02 (cw_Z w (some (.int 1)) I) 0 0 0 0 I 0 [(0, .ref ta)] [] from ?_)
  refine cw_gets (fun A U H q => (h A U H q).1) (by decide +kernel) dJ0_isLatin1_aae02_0 ?_
  refine cw_if_eq (tgt := 17) dJ0_isLatin1_aae02_3 (by decide) (fun q => absurd q (by decide)) (fun q => ?_)
  refine cw_aload_n dJ0_isLatin1_aae02_6 0 rfl rfl ?_
  refine cw_getk (fun A U H q => ((h A U H q).2.2).2.1) (by decide +kernel) dJ0_isLatin1_aae02_7 ?_
  refine cw_if_ne (tgt := 17) dJ0_isLatin1_aae02_10 (by decide) (fun q => absurd rfl q) (fun q => ?_)
  refine cw_iconst (v := 1) dJ0_isLatin1_aae02_13 (by decide) ?_
  refine cw_goto (tgt := 18) dJ0_isLatin1_aae02_14 (by decide) ?_
  exact cw_bret rfl dJ0_isLatin1_aae02_18 (by decide) ⟨rfl, rfl⟩
theorem jt_length {ta tv : Nat} {tl : List Int32} (h : cw_Ftx (cw_f w) ta tv tl)  : cw_C w mJ0_length_8abf5 [.ref ta] I (some (.int (nI tl.length))) I := by
  refine cw_entry okJ0_length_8abf5 (Nat.le_of_ble_eq_true rfl) (show cw_B w w mJ0_length_8abf5 (cw_Z w (some (.int (nI tl.length))) I) 0 0 0 0 I 0 [(0, .ref ta)] [] from ?_)
  refine cw_aload_n dJ0_length_8abf5_0 0 rfl rfl ?_
  refine cw_getk (fun A U H q => ((h A U H q).2.2).2.2.1) (by decide +kernel) dJ0_length_8abf5_1 ?_
  refine cw_tlen (v := nI tl.length) (fun A U H q => ((h A U H q).2.2).2.2.2) rfl dJ0_length_8abf5_4 ?_
  refine cw_aload_n dJ0_length_8abf5_5 0 rfl rfl ?_
  refine cw_callK (As := []) (jt_coder h) okJ0_coder_7d493 rfl gJ0_length_8abf5_J0_coder_7d493 (by decide) (fun A U H q => ((h A U H q).2.2).1) rfl (Nat.le_of_ble_eq_true rfl) dJ0_length_8abf5_6 ?_
  refine cw_ishr dJ0_length_8abf5_9 ?_
  exact cw_iret rfl dJ0_length_8abf5_10 ⟨by
    have h0 : ∀ x : Int32, x >>> ((0 : Int32) &&& 31) = x := fun x => by
      have h1 : ((0 : Int32) &&& 31) = 0 := by decide
      rw [h1]
      apply Int32.toBitVec_inj.mp
      simp
    rw [h0], rfl⟩
theorem jt_check0 {ta tv : Nat} {tl : List Int32} (h : cw_Ftx (cw_f w) ta tv tl) {i n : Nat} (hi : i < n) (hn : n < 2 ^ 31) : cw_C w mJ0_checkIndex_df160 [.int (nI i), .int (nI n)] I none I := by
  refine cw_entry okJ0_checkIndex_df160 (Nat.le_of_ble_eq_true rfl) (show cw_B w w mJ0_checkIndex_df160 (cw_Z w none I) 0 0 0 0 I 0 [(0, .int (nI i)), (1, .int (nI n))] [] from ?_)
  refine cw_iload_n dJ0_checkIndex_df160_0 0 rfl rfl ?_
  refine cw_iload_n dJ0_checkIndex_df160_1 1 rfl rfl ?_
  refine cw_getsQ (fun A U H q => (h A U H q).2.1) (by decide +kernel) dJ0_checkIndex_df160_2 ?_ (fun a => ?_)
  · refine cw_callA (As := [.int (nI i), .int (nI n), .null]) (jd_check3 hi hn (Or.inl rfl)) okJ3_checkIndex_8e157 rfl gJ0_checkIndex_df160_J3_checkIndex_8e157 (by decide) rfl (Nat.le_of_ble_eq_true rfl) dJ0_checkIndex_df160_5 ?_
    refine cw_pop dJ0_checkIndex_df160_8 rfl ?_
    exact cw_vret rfl dJ0_checkIndex_df160_9 ⟨rfl, rfl⟩
  · refine cw_callA (As := [.int (nI i), .int (nI n), .ref a]) (jd_check3 hi hn (Or.inr ⟨a, rfl⟩)) okJ3_checkIndex_8e157 rfl gJ0_checkIndex_df160_J3_checkIndex_8e157 (by decide) rfl (Nat.le_of_ble_eq_true rfl) dJ0_checkIndex_df160_5 ?_
    refine cw_pop dJ0_checkIndex_df160_8 rfl ?_
    exact cw_vret rfl dJ0_checkIndex_df160_9 ⟨rfl, rfl⟩
theorem jt_char1 {ta tv : Nat} {tl : List Int32} (h : cw_Ftx (cw_f w) ta tv tl) (hb : cw_Btx tl) {i : Nat} (hi : i < tl.length) : cw_C w mJ1_charAt_3b067 [.ref tv, .int (nI i)] I (some (.int (tl.getD i 0))) I := by
  have hL := (jt_tx hb).1
  obtain ⟨h1, h2⟩ := (jt_tx hb).2 i hi
  refine cw_entry okJ1_charAt_3b067 (Nat.le_of_ble_eq_true rfl) (show cw_B w w mJ1_charAt_3b067 (cw_Z w (some (.int (tl.getD i 0))) I) 0 0 0 0 I 0 [(0, .ref tv), (1, .int (nI i))] [] from ?_)
  refine cw_iload_n dJ1_charAt_3b067_0 1 rfl rfl ?_
  refine cw_aload_n dJ1_charAt_3b067_1 0 rfl rfl ?_
  refine cw_tlen (v := nI tl.length) (fun A U H q => ((h A U H q).2.2).2.2.2) rfl dJ1_charAt_3b067_2 ?_
  refine cw_callA (As := [.int (nI i), .int (nI tl.length)]) (jt_check0 h hi hL) okJ0_checkIndex_df160 rfl gJ1_charAt_3b067_J0_checkIndex_df160 (by decide) rfl (Nat.le_of_ble_eq_true rfl) dJ1_charAt_3b067_3 ?_
  refine cw_aload_n dJ1_charAt_3b067_6 0 rfl rfl ?_
  refine cw_iload_n dJ1_charAt_3b067_7 1 rfl rfl ?_
  refine cw_tb (v := .int (tl.getD i 0)) (fun A U H q => ((h A U H q).2.2).2.2.2) (vp_in_nI hi hL) (by rw [nI_clamp (by omega)]) dJ1_charAt_3b067_8 ?_
  refine cw_sipush (v := 255) dJ1_charAt_3b067_9 (by decide) ?_
  refine cw_iand dJ1_charAt_3b067_12 ?_
  refine cw_i2c (v := tl.getD i 0) dJ1_charAt_3b067_13 h1 ?_
  exact cw_zret rfl h2 dJ1_charAt_3b067_14 ⟨rfl, rfl⟩
theorem jt_charN {ta tv : Nat} {tl : List Int32} (h : cw_Ftx (cw_f w) ta tv tl) (hb : cw_Btx tl) {i : Nat} (hi : i < tl.length) : cw_C w mJ0_charAt_5068e [.ref ta, .int (nI i)] I (some (.int (tl.getD i 0))) I := by
  obtain ⟨h1, h2⟩ := (jt_tx hb).2 i hi
  refine cw_entry okJ0_charAt_5068e (Nat.le_of_ble_eq_true rfl) (show cw_B w w mJ0_charAt_5068e (cw_Z w (some (.int (tl.getD i 0))) I) 0 0 0 0 I 0 [(0, .ref ta), (1, .int (nI i))] [] from ?_)
  refine cw_aload_n dJ0_charAt_5068e_0 0 rfl rfl ?_
  refine cw_callK (As := []) (jt_isLatin1 h) okJ0_isLatin1_aae02 rfl gJ0_charAt_5068e_J0_isLatin1_aae02 (by decide) (fun A U H q => ((h A U H q).2.2).1) rfl (Nat.le_of_ble_eq_true rfl) dJ0_charAt_5068e_1 ?_
  refine cw_if_eq (tgt := 16) dJ0_charAt_5068e_4 (by decide) (fun q => absurd q (by decide)) (fun q => ?_)
  refine cw_aload_n dJ0_charAt_5068e_7 0 rfl rfl ?_
  refine cw_getk (fun A U H q => ((h A U H q).2.2).2.2.1) (by decide +kernel) dJ0_charAt_5068e_8 ?_
  refine cw_iload_n dJ0_charAt_5068e_11 1 rfl rfl ?_
  refine cw_callA (As := [.ref tv, .int (nI i)]) (jt_char1 h hb hi) okJ1_charAt_3b067 rfl gJ0_charAt_5068e_J1_charAt_3b067 (by decide) rfl (Nat.le_of_ble_eq_true rfl) dJ0_charAt_5068e_12 ?_
  exact cw_zret rfl h2 dJ0_charAt_5068e_15 ⟨rfl, rfl⟩
theorem jt_charAt {ta tv : Nat} {tl : List Int32} (h : cw_Ftx (cw_f w) ta tv tl) (hb : cw_Btx tl) {x : Int32} (hx : vp_in x tl.length) : cw_C w mJ0_charAt_5068e [.ref ta, .int x] I (some (.int (tl.getD x.toNatClampNeg 0))) I := by
  have hL := (jt_tx hb).1
  have h0 : ¬ x < 0 := fun q => hx (Or.inl q)
  have h1 : x.toNatClampNeg < tl.length := Nat.not_le.mp fun q => hx (Or.inr q)
  have e : x = nI x.toNatClampNeg := by
    apply Int32.toInt_inj.mp
    rw [nI_toInt (by omega)]
    have h2 : ¬ x.toInt < 0 := fun q => h0 (Int32.lt_iff_toInt_lt.mpr (by simpa using q))
    simp only [Int32.toNatClampNeg]
    omega
  have hc := jt_charN (w := w) (I := I) h hb h1
  rw [← e] at hc
  exact hc
end JDK
