/-! Rows over cells that nobody writes: texts, constants, statics. -/
section CWK
variable {w : cw_G} {M : cw_Me} {Z : cw_Zt} {mc ms : Nat} {I : cw_M} {pc : Nat} {L L' : List (Nat × Value)} {st stk : List Value}
theorem cw_ldcS {tx : String} {index a : Nat} (hF : ∀ (A : Nat → Prop) (U : State) (H : Heap), cw_f w A U H → vk_R (cw_y M).cls index tx a U) (hd : decode (cw_c M) pc = .ok (.ldc index, 2)) (kk : cw_B w M Z mc ms I (pc + 2) L (.ref a :: st)) : cw_B w M Z mc ms I pc L st :=
  fun p e s m args below meth c H locs ls X hP hS h => va_ldcS X.1.1 X.1.2.1 X.1.2.2.2.1 (hF _ _ _ X.2.2.2.2.2.1) hd (kk p e s m args below meth c H locs ls X hP hS h)
theorem cw_gets {C n d : String} {v : Value} {index : Nat} (hF : ∀ (A : Nat → Prop) (U : State) (H : Heap), cw_f w A U H → va_Z C n d v A U H) (hl : Cond.fieldLink (cw_y M).cls index C n d ∈ cw_w M) (hd : decode (cw_c M) pc = .ok (.getstatic index, 3)) (kk : cw_B w M Z mc ms I (pc + 3) L (v :: st)) : cw_B w M Z mc ms I pc L st :=
  fun p e s m args below meth c H locs ls X hP hS h => va_gets X.1.1 X.1.2.1 (hF _ _ _ X.2.2.2.2.2.1) hS X.1.2.2.2.1 (X.1.2.2.2.2 _ hl) (fun _ h9 => h9) hd (kk p e s m args below meth c H locs ls X hP hS h)
theorem cw_getsQ {C n d : String} {index : Nat} (hF : ∀ (A : Nat → Prop) (U : State) (H : Heap), cw_f w A U H → va_Zq C n d A U H) (hl : Cond.fieldLink (cw_y M).cls index C n d ∈ cw_w M) (hd : decode (cw_c M) pc = .ok (.getstatic index, 3)) (k1 : cw_B w M Z mc ms I (pc + 3) L (.null :: st)) (k2 : ∀ a : Nat, cw_B w M Z mc ms I (pc + 3) L (.ref a :: st)) : cw_B w M Z mc ms I pc L st := by
  intro p e s m args below meth c H locs ls X hP hS h
  rcases hF _ _ _ X.2.2.2.2.2.1 with q | ⟨a, q⟩
  · exact va_gets X.1.1 X.1.2.1 q hS X.1.2.2.2.1 (X.1.2.2.2.2 _ hl) (fun _ h9 => h9) hd (k1 p e s m args below meth c H locs ls X hP hS h)
  · exact va_gets X.1.1 X.1.2.1 q hS X.1.2.2.2.1 (X.1.2.2.2.2 _ hl) (fun _ h9 => h9) hd (k2 a p e s m args below meth c H locs ls X hP hS h)
theorem cw_getk {o n d : String} {v : Value} {index q : Nat} (hF : ∀ (A : Nat → Prop) (U : State) (H : Heap), cw_f w A U H → va_OF o n d v q A U H) (hl : Cond.fieldLink (cw_y M).cls index o n d ∈ cw_w M) (hd : decode (cw_c M) pc = .ok (.getfield index, 3)) (kk : cw_B w M Z mc ms I (pc + 3) L (v :: st)) : cw_B w M Z mc ms I pc L (.ref q :: st) :=
  fun p e s m args below meth c H locs ls X hP hS h => vk_getf X.1.1 X.1.2.1 (hF _ _ _ X.2.2.2.2.2.1) hS X.1.2.2.2.1 (X.1.2.2.2.2 _ hl) (fun _ h9 => h9) hd (kk p e s m args below meth c H locs ls X hP hS h)
theorem cw_tb {t N : Nat} {f : Nat → Value} {i : Int32} {v : Value} (hF : ∀ (A : Nat → Prop) (U : State) (H : Heap), cw_f w A U H → va_T .byte t N f A U H) (hin : vp_in i N) (hv : f i.toNatClampNeg = v) (hd : decode (cw_c M) pc = .ok (.baload, 1)) (kk : cw_B w M Z mc ms I (pc + 1) L (v :: st)) : cw_B w M Z mc ms I pc L (.int i :: .ref t :: st) :=
  fun p e s m args below meth c H locs ls X hP hS h => va_tb X.1.1 X.1.2.1 (hF _ _ _ X.2.2.2.2.2.1) hS hin hv hd (kk p e s m args below meth c H locs ls X hP hS h)
theorem cw_ti {t N : Nat} {f : Nat → Value} {i : Int32} {v : Value} (hF : ∀ (A : Nat → Prop) (U : State) (H : Heap), cw_f w A U H → va_T .int t N f A U H) (hin : vp_in i N) (hv : f i.toNatClampNeg = v) (hd : decode (cw_c M) pc = .ok (.iaload, 1)) (kk : cw_B w M Z mc ms I (pc + 1) L (v :: st)) : cw_B w M Z mc ms I pc L (.int i :: .ref t :: st) :=
  fun p e s m args below meth c H locs ls X hP hS h => va_ti X.1.1 X.1.2.1 (hF _ _ _ X.2.2.2.2.2.1) hS hin hv hd (kk p e s m args below meth c H locs ls X hP hS h)
theorem cw_tlen {ty : FieldType} {t N : Nat} {f : Nat → Value} {v : Int32} (hF : ∀ (A : Nat → Prop) (U : State) (H : Heap), cw_f w A U H → va_T ty t N f A U H) (hv : Int32.ofNat N = v) (hd : decode (cw_c M) pc = .ok (.arraylength, 1)) (kk : cw_B w M Z mc ms I (pc + 1) L (.int v :: st)) : cw_B w M Z mc ms I pc L (.ref t :: st) :=
  fun p e s m args below meth c H locs ls X hP hS h => va_tlen X.1.1 X.1.2.1 (hF _ _ _ X.2.2.2.2.2.1) hS hv hd (kk p e s m args below meth c H locs ls X hP hS h)
theorem cw_i2c {x v : Int32} (hd : decode (cw_c M) pc = .ok (.i2c, 1)) (hv : (x.toUInt32 % 65536).toInt32 = v) (kk : cw_B w M Z mc ms I (pc + 1) L (.int v :: st)) : cw_B w M Z mc ms I pc L (.int x :: st) :=
  fun p e s m args below meth c H locs ls X hP hS h => lv_i2c X.1.1 X.1.2.1 hd hv (kk p e s m args below meth c H locs ls X hP hS h)
theorem cw_zret {v : Int32} {ty : FieldType} {r : Option Value} {I2 : cw_M} (hr : cw_r M = some ty) (hn : narrow ty (.int v) = .int v) (hd : decode (cw_c M) pc = .ok (.ireturn, 1)) (h : r = some (.int v) ∧ I2 = I) : cw_B w M (cw_Z w r I2) 0 0 I pc L [.int v] := by
  obtain ⟨rfl, rfl⟩ := h
  intro p e s m args below meth c H locs ls X hP hS hl
  exact W.zret X.1.1 X.1.2.1 (X.2.1.trans hr) hn (fun t ht hW => ⟨rfl, by rw [ht]; exact hP, hS.F ht⟩) hS.2.2 hd X.2.2.1
theorem cw_aret {v : Value} {rt : FieldType} {r : Option Value} {I2 : cw_M} (hr : cw_r M = some rt) (hrt : (∃ n, rt = .object n) ∨ ∃ t, rt = .array t) (hv : v = .null ∨ ∃ a, v = .ref a) (hd : decode (cw_c M) pc = .ok (.areturn, 1)) (h : r = some v ∧ I2 = I) : cw_B w M (cw_Z w r I2) 0 0 I pc L [v] := by
  obtain ⟨rfl, rfl⟩ := h
  intro p e s m args below meth c H locs ls X hP hS hl
  exact W.aret X.1.1 X.1.2.1 (X.2.1.trans hr) hrt hv (fun t ht hW => ⟨rfl, by rw [ht]; exact hP, hS.F ht⟩) hS.2.2 hd X.2.2.1
theorem cw_null (hd : decode (cw_c M) pc = .ok (.aconst_null, 1)) (kk : cw_B w M Z mc ms I (pc + 1) L (.null :: st)) : cw_B w M Z mc ms I pc L st :=
  fun p e s m args below meth c H locs ls X hP hS h => lv_null X.1.1 X.1.2.1 hd (kk p e s m args below meth c H locs ls X hP hS h)
theorem cw_ifnonnull {x : Nat} {off : Int} {tgt : Nat} (hd : decode (cw_c M) pc = .ok (.ifnonnull off, 3)) (ht : (pc : Int) + off = (tgt : Int)) (kk : cw_B w M Z mc ms I tgt L st) : cw_B w M Z mc ms I pc L (.ref x :: st) :=
  fun p e s m args below meth c H locs ls X hP hS h => lv_ifnonnull X.1.1 X.1.2.1 hd ht (kk p e s m args below meth c H locs ls X hP hS h)
theorem cw_ifnonnullN {off : Int} (hd : decode (cw_c M) pc = .ok (.ifnonnull off, 3)) (kk : cw_B w M Z mc ms I (pc + 3) L st) : cw_B w M Z mc ms I pc L (.null :: st) :=
  fun p e s m args below meth c H locs ls X hP hS h => lv_ifnonnullN X.1.1 X.1.2.1 hd (kk p e s m args below meth c H locs ls X hP hS h)
theorem cw_ifnull {x : Nat} {off : Int} (hd : decode (cw_c M) pc = .ok (.ifnull off, 3)) (kk : cw_B w M Z mc ms I (pc + 3) L st) : cw_B w M Z mc ms I pc L (.ref x :: st) :=
  fun p e s m args below meth c H locs ls X hP hS h => lv_ifnull X.1.1 X.1.2.1 hd (kk p e s m args below meth c H locs ls X hP hS h)
theorem cw_ifnullN {off : Int} {tgt : Nat} (hd : decode (cw_c M) pc = .ok (.ifnull off, 3)) (ht : (pc : Int) + off = (tgt : Int)) (kk : cw_B w M Z mc ms I tgt L st) : cw_B w M Z mc ms I pc L (.null :: st) :=
  fun p e s m args below meth c H locs ls X hP hS h => lv_ifnullN X.1.1 X.1.2.1 hd ht (kk p e s m args below meth c H locs ls X hP hS h)
theorem cw_aloadN_n {k : Fin 4} {i : Nat} (hd : decode (cw_c M) pc = .ok (.aload_n k, 1)) (j : Nat) (hi : (k : Nat) = i) (hl : L[j]? = some (i, .null)) (kk : cw_B w M Z mc ms I (pc + 1) L (.null :: st)) : cw_B w M Z mc ms I pc L st :=
  fun p e s m args below meth c H locs ls X hP hS h => lv_aload_nN X.1.1 X.1.2.1 hd hi (lv_at h j hl) (kk p e s m args below meth c H locs ls X hP hS h)
theorem cw_ialdL {i : Int32} {cA : ClassId} {n j : Nat} (o : Nat) (ho : o < cw_n w) (he : cw_e w o (I o) = .inl (cA, n, .inl (I o))) (t0 : Nat) (ht : (cw_t w)[t0]? = some (cA, .int)) (hd : decode (cw_c M) pc = .ok (.iaload, 1)) (hj : i = nI j) (hin : j < n) (hn : n < 2 ^ 31) (kk : cw_B w M Z mc ms I (pc + 1) L (.int (I o j) :: st)) : cw_B w M Z mc ms I pc L (.int i :: .ref (cw_a w o) :: st) := by
  subst hj
  refine cw_iald o ho he t0 ht hd (vp_in_nI hin hn) ?_
  rw [nI_clamp (by omega)]
  exact kk
theorem cw_iastL {i x : Int32} {cA : ClassId} {n j : Nat} (o : Nat) (ho : o < cw_n w) (he : ∀ f, cw_e w o f = .inl (cA, n, .inl f)) (t0 : Nat) (ht : (cw_t w)[t0]? = some (cA, .int)) (hd : decode (cw_c M) pc = .ok (.iastore, 1)) (hj : i = nI j) (hin : j < n) (hn : n < 2 ^ 31) (kk : cw_B w M Z mc ms (cw_st I o j x) (pc + 1) L st) : cw_B w M Z mc ms I pc L (.int x :: .int i :: .ref (cw_a w o) :: st) := by
  subst hj
  refine cw_iast o ho he t0 ht hd (vp_in_nI hin hn) ?_
  rw [nI_clamp (by omega)]
  exact kk
theorem cw_callK {b : Nat} {M2 : cw_Me} {As : List Value} {r : Option Value} {I2 : cw_M} {index n2 : Nat} (hC : cw_C w M2 (.ref b :: As) I r I2) (hk : cw_ok M2 n2) (hn : As.length = n2) (hG : GoodIn (cw_w M) (wsV (cw_y M).cls index (cw_y M2).cls (cw_y M2) (cw_w M2))) (hR : cw_fr M2 + 1 ≤ cw_fr M ∧ 8 + (cw_k M2 + 11) + cw_lo M2 ≤ cw_lo M) (hF : ∀ (A : Nat → Prop) (U : State) (H : Heap), cw_f w A U H → va_O (cw_y M2).cls b A U H) (hst : stk = As.reverse ++ .ref b :: st) (hW : (st.map fun v => v.category).sum ≤ 8) (hd : decode (cw_c M) pc = .ok (.invokevirtual index, 3))
    (kk : cw_B w M Z mc ms I2 (pc + 3) L (r.toList ++ st)) : cw_B w M Z mc ms I pc L stk := by
  intro p e s m args below meth c H locs ls X hP hS h
  obtain ⟨ws', hw⟩ := hk.2.1
  have hrun := va_runV (p := p) (l := cw_l w) (e := e) (R := cw_R M mc ms) (s := s) (m := m) (args := args) (below := below) (meth := meth) (c := c) (H := H) (locs := locs) (cells := 0) (slots := 0) (As := As) (rest := st) (g := F0 m pc ls stk) (b := b) X.1 (hC H.size)
    (cwV (R := cw_R M mc ms) (rm := cw_R M2 0 0) n2 X.1.2.2.2.2 hG hw rfl rfl ⟨rfl, hk.2.2⟩ hR)
    ⟨fun a U g mk q => by
      obtain ⟨q1, q2, q3, q4, q5, q6, q7⟩ := q
      exact ⟨q1, q2, q3, va_K.moved (u := U) (U := U.calling g mk a) (Vm.Alike.refl U.vm) q4, q5, q7.1 _ U _ _ (State.WarmedH.refl U) q6, q7⟩,
     (by
      obtain ⟨cell, a1, a2, a3, a4⟩ := hF _ _ _ X.2.2.2.2.2.1
      exact ⟨cell, by rw [hS.2.1 b (Array.getElem?_eq_some_iff.mp a1).1 a4]; exact a1, a2, a3⟩),
     fun U hU hW => ⟨rfl, by rw [hU], by rw [hU]; exact hP, va_K.moved hW.alike X.2.2.2.1, X.2.2.2.2.1, by
      rw [hU]
      exact X.2.2.2.2.2.2.1.2.2 _ _ _ _ (X.2.2.2.2.2.2.1.2.1 _ _ _ _ (X.2.2.2.2.2.2.1.1 _ _ _ _ hW X.2.2.2.2.2.1) hS.1 (fun a h1 h2 => hS.2.1 a h1 h2)) (fun q hq => hq.elim Or.inl (fun h => Or.inr (Nat.le_trans hS.1 h))), X.2.2.2.2.2.2.1⟩⟩
    rfl hn h.1 hst (by show 2 * 0 + _ ≤ 8; omega) hd ⟨Nat.zero_le _, Nat.zero_le _⟩
  intro T0 hT X0
  obtain ⟨v, st₀, t, T', L1, h0, X', hL, e1, e2, ⟨hv9, hq2, hz, hk2⟩, stp⟩ := hrun T0 hT X0
  cases hv9
  rw [h0] at hz hk2
  have hsub : ∀ q, cw_own w H.size q → cw_own w s.heap.size q := fun q hq => hq.elim Or.inl (fun h => Or.inr (Nat.le_trans hS.1 h))
  obtain ⟨t2, a1, b1⟩ := kk p e s m args below meth c T'.heap (locs ++ L1) ls X (by rw [e1]; exact hq2) ⟨Nat.le_trans hS.1 (by rw [e1]; exact hz), fun q h1 h2 => by rw [e1, hk2 q (Nat.lt_of_lt_of_le h1 hS.1) (fun z => h2 (hsub q z))]; exact hS.2.1 q h1 h2, fun q hq => by
      rcases List.mem_append.mp hq with h | h
      · exact hS.2.2 q h
      · exact hsub _ (hL q h)⟩ h T' rfl X'
  exact ⟨t2, stp t2 a1, b1⟩
theorem cw_callA {M2 : cw_Me} {As : List Value} {r : Option Value} {I2 : cw_M} {index n2 : Nat} (hC : cw_C w M2 As I r I2) (hk : cw_ok M2 n2) (hn : As.length = n2) (hG : GoodIn (cw_w M) (va_wsS (cw_y M).cls index (cw_y M2) (cw_w M2))) (hR : cw_fr M2 + 1 ≤ cw_fr M ∧ 8 + (cw_k M2 + 11) + cw_lo M2 ≤ cw_lo M) (hst : stk = As.reverse ++ st) (hW : (st.map fun v => v.category).sum ≤ 8) (hd : decode (cw_c M) pc = .ok (.invokestatic index, 3))
    (kk : cw_B w M Z mc ms I2 (pc + 3) L (r.toList ++ st)) : cw_B w M Z mc ms I pc L stk := by
  intro p e s m args below meth c H locs ls X hP hS h
  obtain ⟨ws', hw⟩ := hk.2.1
  have hrun := va_runS (p := p) (l := cw_l w) (e := e) (R := cw_R M mc ms) (s := s) (m := m) (args := args) (below := below) (meth := meth) (c := c) (H := H) (locs := locs) (cells := 0) (slots := 0) (As := As) (rest := st) (g := F0 m pc ls stk) X.1 (hC H.size)
    (va_cwS (R := cw_R M mc ms) (rm := cw_R M2 0 0) n2 X.1.2.2.2.2 hG hw rfl rfl hk.2.2 hR)
    ⟨fun a U g mk q => by
      obtain ⟨q1, q2, q3, q4, q5, q6, q7⟩ := q
      exact ⟨q1, q2, q3, va_K.moved (u := U) (U := U.calling g mk a) (Vm.Alike.refl U.vm) q4, q5, q7.1 _ U _ _ (State.WarmedH.refl U) q6, q7⟩,
     fun U hU hW => ⟨rfl, by rw [hU], by rw [hU]; exact hP, va_K.moved hW.alike X.2.2.2.1, X.2.2.2.2.1, by
      rw [hU]
      exact X.2.2.2.2.2.2.1.2.2 _ _ _ _ (X.2.2.2.2.2.2.1.2.1 _ _ _ _ (X.2.2.2.2.2.2.1.1 _ _ _ _ hW X.2.2.2.2.2.1) hS.1 (fun a h1 h2 => hS.2.1 a h1 h2)) (fun q hq => hq.elim Or.inl (fun h => Or.inr (Nat.le_trans hS.1 h))), X.2.2.2.2.2.2.1⟩⟩
    rfl hn h.1 hst (by show 2 * 0 + _ ≤ 8; omega) hd ⟨Nat.zero_le _, Nat.zero_le _⟩
  intro T0 hT X0
  obtain ⟨v, st₀, t, T', L1, h0, X', hL, e1, e2, ⟨hv9, hq2, hz, hk2⟩, stp⟩ := hrun T0 hT X0
  cases hv9
  rw [h0] at hz hk2
  have hsub : ∀ q, cw_own w H.size q → cw_own w s.heap.size q := fun q hq => hq.elim Or.inl (fun h => Or.inr (Nat.le_trans hS.1 h))
  obtain ⟨t2, a1, b1⟩ := kk p e s m args below meth c T'.heap (locs ++ L1) ls X (by rw [e1]; exact hq2) ⟨Nat.le_trans hS.1 (by rw [e1]; exact hz), fun q h1 h2 => by rw [e1, hk2 q (Nat.lt_of_lt_of_le h1 hS.1) (fun z => h2 (hsub q z))]; exact hS.2.1 q h1 h2, fun q hq => by
      rcases List.mem_append.mp hq with h | h
      · exact hS.2.2 q h
      · exact hsub _ (hL q h)⟩ h T' rfl X'
  exact ⟨t2, stp t2 a1, b1⟩
end CWK
