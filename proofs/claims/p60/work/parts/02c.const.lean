/-! Rows over cells that nobody writes: texts, constants, statics. -/
section CWK
variable {w w0 : cw_G} {M : cw_Me} {Z : cw_Zt} {mc ms uc us : Nat} {I : cw_M} {pc : Nat} {L L' : List (Nat × Value)} {st stk : List Value}
theorem cw_ldcS {tx : String} {index a : Nat} (hF : ∀ (A : Nat → Prop) (U : State) (H : Heap), cw_f w A U H → vk_R (cw_y M).cls index tx a U) (hd : decode (cw_c M) pc = .ok (.ldc index, 2)) (kk : cw_B w w0 M Z mc ms uc us I (pc + 2) L (.ref a :: st)) : cw_B w w0 M Z mc ms uc us I pc L st :=
  fun p e s m args below meth c H locs ls X hP hS h => va_ldcS X.1.1 X.1.2.1 X.1.2.2.2.1 (hF _ _ _ X.2.2.2.2.2.1) hd (kk p e s m args below meth c H locs ls X hP hS h)
theorem cw_gets {C n d : String} {v : Value} {index : Nat} (hF : ∀ (A : Nat → Prop) (U : State) (H : Heap), cw_f w A U H → va_Z C n d v A U H) (hl : Cond.fieldLink (cw_y M).cls index C n d ∈ cw_w M) (hd : decode (cw_c M) pc = .ok (.getstatic index, 3)) (kk : cw_B w w0 M Z mc ms uc us I (pc + 3) L (v :: st)) : cw_B w w0 M Z mc ms uc us I pc L st :=
  fun p e s m args below meth c H locs ls X hP hS h => va_gets X.1.1 X.1.2.1 (hF _ _ _ X.2.2.2.2.2.1) hS X.1.2.2.2.1 (X.1.2.2.2.2 _ hl) (fun _ h9 => h9) hd (kk p e s m args below meth c H locs ls X hP hS h)
theorem cw_getsQ {C n d : String} {index : Nat} (hF : ∀ (A : Nat → Prop) (U : State) (H : Heap), cw_f w A U H → va_Zq C n d A U H) (hl : Cond.fieldLink (cw_y M).cls index C n d ∈ cw_w M) (hd : decode (cw_c M) pc = .ok (.getstatic index, 3)) (k1 : cw_B w w0 M Z mc ms uc us I (pc + 3) L (.null :: st)) (k2 : ∀ a : Nat, cw_B w w0 M Z mc ms uc us I (pc + 3) L (.ref a :: st)) : cw_B w w0 M Z mc ms uc us I pc L st := by
  intro p e s m args below meth c H locs ls X hP hS h
  rcases hF _ _ _ X.2.2.2.2.2.1 with q | ⟨a, q⟩
  · exact va_gets X.1.1 X.1.2.1 q hS X.1.2.2.2.1 (X.1.2.2.2.2 _ hl) (fun _ h9 => h9) hd (k1 p e s m args below meth c H locs ls X hP hS h)
  · exact va_gets X.1.1 X.1.2.1 q hS X.1.2.2.2.1 (X.1.2.2.2.2 _ hl) (fun _ h9 => h9) hd (k2 a p e s m args below meth c H locs ls X hP hS h)
theorem cw_getk {o n d : String} {v : Value} {index q : Nat} (hF : ∀ (A : Nat → Prop) (U : State) (H : Heap), cw_f w A U H → va_OF o n d v q A U H) (hl : Cond.fieldLink (cw_y M).cls index o n d ∈ cw_w M) (hd : decode (cw_c M) pc = .ok (.getfield index, 3)) (kk : cw_B w w0 M Z mc ms uc us I (pc + 3) L (v :: st)) : cw_B w w0 M Z mc ms uc us I pc L (.ref q :: st) :=
  fun p e s m args below meth c H locs ls X hP hS h => vk_getf X.1.1 X.1.2.1 (hF _ _ _ X.2.2.2.2.2.1) hS X.1.2.2.2.1 (X.1.2.2.2.2 _ hl) (fun _ h9 => h9) hd (kk p e s m args below meth c H locs ls X hP hS h)
theorem cw_tb {t N : Nat} {f : Nat → Value} {i : Int32} {v : Value} (hF : ∀ (A : Nat → Prop) (U : State) (H : Heap), cw_f w A U H → va_T .byte t N f A U H) (hin : vp_in i N) (hv : f i.toNatClampNeg = v) (hd : decode (cw_c M) pc = .ok (.baload, 1)) (kk : cw_B w w0 M Z mc ms uc us I (pc + 1) L (v :: st)) : cw_B w w0 M Z mc ms uc us I pc L (.int i :: .ref t :: st) :=
  fun p e s m args below meth c H locs ls X hP hS h => va_tb X.1.1 X.1.2.1 (hF _ _ _ X.2.2.2.2.2.1) hS hin hv hd (kk p e s m args below meth c H locs ls X hP hS h)
theorem cw_ti {t N : Nat} {f : Nat → Value} {i : Int32} {v : Value} (hF : ∀ (A : Nat → Prop) (U : State) (H : Heap), cw_f w A U H → va_T .int t N f A U H) (hin : vp_in i N) (hv : f i.toNatClampNeg = v) (hd : decode (cw_c M) pc = .ok (.iaload, 1)) (kk : cw_B w w0 M Z mc ms uc us I (pc + 1) L (v :: st)) : cw_B w w0 M Z mc ms uc us I pc L (.int i :: .ref t :: st) :=
  fun p e s m args below meth c H locs ls X hP hS h => va_ti X.1.1 X.1.2.1 (hF _ _ _ X.2.2.2.2.2.1) hS hin hv hd (kk p e s m args below meth c H locs ls X hP hS h)
theorem cw_tlen {ty : FieldType} {t N : Nat} {f : Nat → Value} {v : Int32} (hF : ∀ (A : Nat → Prop) (U : State) (H : Heap), cw_f w A U H → va_T ty t N f A U H) (hv : Int32.ofNat N = v) (hd : decode (cw_c M) pc = .ok (.arraylength, 1)) (kk : cw_B w w0 M Z mc ms uc us I (pc + 1) L (.int v :: st)) : cw_B w w0 M Z mc ms uc us I pc L (.ref t :: st) :=
  fun p e s m args below meth c H locs ls X hP hS h => va_tlen X.1.1 X.1.2.1 (hF _ _ _ X.2.2.2.2.2.1) hS hv hd (kk p e s m args below meth c H locs ls X hP hS h)
theorem cw_i2c {x v : Int32} (hd : decode (cw_c M) pc = .ok (.i2c, 1)) (hv : (x.toUInt32 % 65536).toInt32 = v) (kk : cw_B w w0 M Z mc ms uc us I (pc + 1) L (.int v :: st)) : cw_B w w0 M Z mc ms uc us I pc L (.int x :: st) :=
  fun p e s m args below meth c H locs ls X hP hS h => lv_i2c X.1.1 X.1.2.1 hd hv (kk p e s m args below meth c H locs ls X hP hS h)
theorem cw_zretX (hle : cw_le w0 w) {v : Int32} {ty : FieldType} {r : Option Value} {I2 : cw_M} (hr : cw_r M = some ty) (hn : narrow ty (.int v) = .int v) (hd : decode (cw_c M) pc = .ok (.ireturn, 1)) (h : r = some (.int v) ∧ I2 = I) : cw_B w w0 M (cw_ZN uc us w0 r I2) mc ms uc us I pc L [.int v] := by
  obtain ⟨rfl, rfl⟩ := h
  intro p e s m args below meth c H locs ls X hP hS hl
  exact W.zret X.1.1 X.1.2.1 (X.2.1.trans hr) hn (fun t ht hW => ⟨rfl, by rw [ht]; exact cw_le.P hle hP, hS.F ht⟩) hS.2.2 hd X.2.2.1
theorem cw_zret {v : Int32} {ty : FieldType} {r : Option Value} {I2 : cw_M} (hr : cw_r M = some ty) (hn : narrow ty (.int v) = .int v) (hd : decode (cw_c M) pc = .ok (.ireturn, 1)) (h : r = some (.int v) ∧ I2 = I) : cw_B w w M (cw_Z w r I2) mc ms 0 0 I pc L [.int v] := cw_zretX (cw_le.rfl) hr hn hd h
theorem cw_aretX (hle : cw_le w0 w) {v : Value} {rt : FieldType} {r : Option Value} {I2 : cw_M} (hr : cw_r M = some rt) (hrt : (∃ n, rt = .object n) ∨ ∃ t, rt = .array t) (hv : v = .null ∨ ∃ a, v = .ref a) (hd : decode (cw_c M) pc = .ok (.areturn, 1)) (h : r = some v ∧ I2 = I) : cw_B w w0 M (cw_ZN uc us w0 r I2) mc ms uc us I pc L [v] := by
  obtain ⟨rfl, rfl⟩ := h
  intro p e s m args below meth c H locs ls X hP hS hl
  exact W.aret X.1.1 X.1.2.1 (X.2.1.trans hr) hrt hv (fun t ht hW => ⟨rfl, by rw [ht]; exact cw_le.P hle hP, hS.F ht⟩) hS.2.2 hd X.2.2.1
theorem cw_aret {v : Value} {rt : FieldType} {r : Option Value} {I2 : cw_M} (hr : cw_r M = some rt) (hrt : (∃ n, rt = .object n) ∨ ∃ t, rt = .array t) (hv : v = .null ∨ ∃ a, v = .ref a) (hd : decode (cw_c M) pc = .ok (.areturn, 1)) (h : r = some v ∧ I2 = I) : cw_B w w M (cw_Z w r I2) mc ms 0 0 I pc L [v] := cw_aretX (cw_le.rfl) hr hrt hv hd h
theorem cw_null (hd : decode (cw_c M) pc = .ok (.aconst_null, 1)) (kk : cw_B w w0 M Z mc ms uc us I (pc + 1) L (.null :: st)) : cw_B w w0 M Z mc ms uc us I pc L st :=
  fun p e s m args below meth c H locs ls X hP hS h => lv_null X.1.1 X.1.2.1 hd (kk p e s m args below meth c H locs ls X hP hS h)
theorem cw_ifnonnull {x : Nat} {off : Int} {tgt : Nat} (hd : decode (cw_c M) pc = .ok (.ifnonnull off, 3)) (ht : (pc : Int) + off = (tgt : Int)) (kk : cw_B w w0 M Z mc ms uc us I tgt L st) : cw_B w w0 M Z mc ms uc us I pc L (.ref x :: st) :=
  fun p e s m args below meth c H locs ls X hP hS h => lv_ifnonnull X.1.1 X.1.2.1 hd ht (kk p e s m args below meth c H locs ls X hP hS h)
theorem cw_ifnonnullN {off : Int} (hd : decode (cw_c M) pc = .ok (.ifnonnull off, 3)) (kk : cw_B w w0 M Z mc ms uc us I (pc + 3) L st) : cw_B w w0 M Z mc ms uc us I pc L (.null :: st) :=
  fun p e s m args below meth c H locs ls X hP hS h => lv_ifnonnullN X.1.1 X.1.2.1 hd (kk p e s m args below meth c H locs ls X hP hS h)
theorem cw_ifnull {x : Nat} {off : Int} (hd : decode (cw_c M) pc = .ok (.ifnull off, 3)) (kk : cw_B w w0 M Z mc ms uc us I (pc + 3) L st) : cw_B w w0 M Z mc ms uc us I pc L (.ref x :: st) :=
  fun p e s m args below meth c H locs ls X hP hS h => lv_ifnull X.1.1 X.1.2.1 hd (kk p e s m args below meth c H locs ls X hP hS h)
theorem cw_ifnullN {off : Int} {tgt : Nat} (hd : decode (cw_c M) pc = .ok (.ifnull off, 3)) (ht : (pc : Int) + off = (tgt : Int)) (kk : cw_B w w0 M Z mc ms uc us I tgt L st) : cw_B w w0 M Z mc ms uc us I pc L (.null :: st) :=
  fun p e s m args below meth c H locs ls X hP hS h => lv_ifnullN X.1.1 X.1.2.1 hd ht (kk p e s m args below meth c H locs ls X hP hS h)
theorem cw_aloadN_n {k : Fin 4} {i : Nat} (hd : decode (cw_c M) pc = .ok (.aload_n k, 1)) (j : Nat) (hi : (k : Nat) = i) (hl : L[j]? = some (i, .null)) (kk : cw_B w w0 M Z mc ms uc us I (pc + 1) L (.null :: st)) : cw_B w w0 M Z mc ms uc us I pc L st :=
  fun p e s m args below meth c H locs ls X hP hS h => lv_aload_nN X.1.1 X.1.2.1 hd hi (lv_at h j hl) (kk p e s m args below meth c H locs ls X hP hS h)
theorem cw_ialdL {i : Int32} {cA : ClassId} {n j : Nat} (o : Nat) (ho : o < cw_n w) (he : cw_e w o (I o) = .inl (cA, n, .inl (I o))) (t0 : Nat) (ht : (cw_t w)[t0]? = some (cA, .int)) (hd : decode (cw_c M) pc = .ok (.iaload, 1)) (hj : i = nI j) (hin : j < n) (hn : n < 2 ^ 31) (kk : cw_B w w0 M Z mc ms uc us I (pc + 1) L (.int (I o j) :: st)) : cw_B w w0 M Z mc ms uc us I pc L (.int i :: .ref (cw_a w o) :: st) := by
  subst hj
  refine cw_iald o ho he t0 ht hd (vp_in_nI hin hn) ?_
  rw [nI_clamp (by omega)]
  exact kk
theorem cw_iastL {i x : Int32} {cA : ClassId} {n j : Nat} (o : Nat) (ho : o < cw_n w) (he : ∀ f, cw_e w o f = .inl (cA, n, .inl f)) (t0 : Nat) (ht : (cw_t w)[t0]? = some (cA, .int)) (hd : decode (cw_c M) pc = .ok (.iastore, 1)) (hj : i = nI j) (hin : j < n) (hn : n < 2 ^ 31) (kk : cw_B w w0 M Z mc ms uc us (cw_st I o j x) (pc + 1) L st) : cw_B w w0 M Z mc ms uc us I pc L (.int x :: .int i :: .ref (cw_a w o) :: st) := by
  subst hj
  refine cw_iast o ho he t0 ht hd (vp_in_nI hin hn) ?_
  rw [nI_clamp (by omega)]
  exact kk
/-- what a callee's own cells are, is the caller's -/
theorem cw_Xsub {p : Program} {s : State} {m : MethodId} {args : Array Value} {meth : Method} {c : Code} {H : Heap} (X : cw_X w w0 M mc ms uc us p s m args meth c) (hS : s.heap.size ≤ H.size) : ∀ q, cw_own w H.size q → cw_own w0 s.heap.size q := fun q hq => by
  rcases hq with ⟨k, hk, rfl⟩ | hq
  · exact X.2.2.2.2.2.2.2.2.1 k hk
  · exact Or.inr (Nat.le_trans hS hq)
theorem cw_Xpre {p : Program} {s : State} {m : MethodId} {args : Array Value} {meth : Method} {c : Code} {H : Heap} {locs : List Loc} (X : cw_X w w0 M mc ms uc us p s m args meth c) (hP : va_P (cw_d w) vwCl (cw_W w I) H) (hS : va_S (cw_own w0 s.heap.size) s.heap H locs) : ∀ U : State, U.heap = H → s.WarmedH U.vm → (U.heap.size = H.size ∧ va_P (cw_d w) vwCl (cw_W w I) U.heap ∧ va_K (cw_d w) vwCl (cw_t w) U ∧ cw_inj (cw_a w) (cw_n w) ∧ cw_f w (cw_own w H.size) U U.heap ∧ cw_Fok (cw_f w)) := fun U hU hW =>
  ⟨by rw [hU], by rw [hU]; exact hP, va_K.moved hW.alike X.2.2.2.1, X.2.2.2.2.1, by
    rw [hU]
    exact X.2.2.2.2.2.2.1.2.2 _ _ _ _ (X.2.2.2.2.2.2.1.2.1 _ _ _ _ (X.2.2.2.2.2.2.1.1 _ _ _ _ hW X.2.2.2.2.2.1) hS.1 (fun a h1 h2 => hS.2.1 a h1 h2)) (cw_Xsub X hS.1), X.2.2.2.2.2.2.1⟩
theorem cw_blind {as : List Value} {sz : Nat} : ∀ (a : Array Value) (U : State) (g : JFrame) (mk : MethodId), cw_Pc w as I sz a U → cw_Pc w as I sz a (U.calling g mk a) := fun a U g mk q => by
  obtain ⟨q1, q2, q3, q4, q5, q6, q7⟩ := q
  exact ⟨q1, q2, q3, va_K.moved (u := U) (U := U.calling g mk a) (Vm.Alike.refl U.vm) q4, q5, q7.1 _ U _ _ (State.WarmedH.refl U) q6, q7⟩
/-- behind a call -/
theorem cw_tail {p : Program} {e : Env} {s : State} {m : MethodId} {args : Array Value} {below : List Frame} {meth : Method} {c : Code} {H : Heap} {locs : List Loc} {ls : Array Slot} {c2 s2 : Nat} {r : Option Value} {I2 : cw_M} {as : Array Value} (X : cw_X w w0 M mc ms uc us p s m args meth c) (hS : va_S (cw_own w0 s.heap.size) s.heap H locs) (h : lv_has ls (cw_k M) L) (hu : uc + c2 ≤ mc ∧ us + s2 ≤ ms) (hrun : va_Run p (cw_l w) e (cw_R M mc ms) s m args below meth c H locs uc us c2 s2 (F0 m pc ls stk) st (cw_Q w r I2 as) (cw_own w H.size)) (kk : cw_B w w0 M Z mc ms (uc + c2) (us + s2) I2 (pc + 3) L (r.toList ++ st)) : W p (cw_l w) e (cw_R M mc ms) s m args below meth c H locs uc us (Z below args s) (F0 m pc ls stk) := by
  intro T0 hT X0
  obtain ⟨v, st₀, t, T', L1, h0, X', hL, e1, e2, ⟨hv9, hq2, hz, hk2⟩, stp⟩ := hrun T0 hT X0
  cases hv9
  rw [h0] at hz hk2
  have hsub := cw_Xsub X hS.1
  have X2 : cw_X w w0 M mc ms (uc + c2) (us + s2) p s m args meth c := ⟨X.1, X.2.1, X.2.2.1, X.2.2.2.1, X.2.2.2.2.1, X.2.2.2.2.2.1, X.2.2.2.2.2.2.1, X.2.2.2.2.2.2.2.1, X.2.2.2.2.2.2.2.2.1, hu⟩
  obtain ⟨t2, a1, b1⟩ := kk p e s m args below meth c T'.heap (locs ++ L1) ls X2 (by rw [e1]; exact hq2) ⟨Nat.le_trans hS.1 (by rw [e1]; exact hz), fun q h1 h2 => by rw [e1, hk2 q (Nat.lt_of_lt_of_le h1 hS.1) (fun z => h2 (hsub q z))]; exact hS.2.1 q h1 h2, fun q hq => by
      rcases List.mem_append.mp hq with h | h
      · exact hS.2.2 q h
      · exact hsub _ (hL q h)⟩ h T' rfl X'
  exact ⟨t2, stp t2 a1, b1⟩
theorem cw_callVN {o c2 s2 : Nat} {M2 : cw_Me} {As : List Value} {r : Option Value} {I2 : cw_M} {index n2 ci : Nat} {fs : List Value} {T : u_T} {N : Nat} (hu : uc + c2 ≤ mc ∧ us + s2 ≤ ms) (hC : cw_CN c2 s2 w M2 (.ref (cw_a w o) :: As) I r I2) (hk : cw_ok M2 n2) (hn : As.length = n2) (hG : GoodIn (cw_w M) (wsV (cw_y M).cls index (cw_y M2).cls (cw_y M2) (cw_w M2))) (hR : cw_fr M2 + 1 ≤ cw_fr M ∧ 8 + (cw_k M2 + 11) + cw_lo M2 ≤ cw_lo M) (ho : o < cw_n w) (he : cw_e w o (I o) = .inr (ci, fs)) (hc : vwCl[ci]? = some ((cw_y M2).cls, T, N)) (hst : stk = As.reverse ++ .ref (cw_a w o) :: st) (hW : (st.map fun v => v.category).sum ≤ 8) (hd : decode (cw_c M) pc = .ok (.invokevirtual index, 3))
    (kk : cw_B w w0 M Z mc ms (uc + c2) (us + s2) I2 (pc + 3) L (r.toList ++ st)) : cw_B w w0 M Z mc ms uc us I pc L stk := by
  intro p e s m args below meth c H locs ls X hP hS h
  obtain ⟨ws', hw⟩ := hk.2.1
  exact cw_tail X hS h hu (va_runV (p := p) (l := cw_l w) (e := e) (R := cw_R M mc ms) (s := s) (m := m) (args := args) (below := below) (meth := meth) (c := c) (H := H) (locs := locs) (cells := uc) (slots := us) (As := As) (rest := st) (g := F0 m pc ls stk) (b := cw_a w o) X.1 (hC H.size)
    (cwV (R := cw_R M mc ms) (rm := cw_R M2 c2 s2) n2 X.1.2.2.2.2 hG hw rfl rfl ⟨rfl, hk.2.2⟩ hR)
    ⟨cw_blind, va_recv X.2.2.2.1 hP hc (q0 := o) (by rw [cw_wd_get ho, he]), fun U hU hW => ⟨rfl, cw_Xpre X hP hS U hU hW⟩⟩
    rfl hn h.1 hst (by show 2 * 0 + _ ≤ 8; omega) hd hu) kk
theorem cw_callV {o : Nat} {M2 : cw_Me} {As : List Value} {r : Option Value} {I2 : cw_M} {index n2 ci : Nat} {fs : List Value} {T : u_T} {N : Nat} (hC : cw_C w M2 (.ref (cw_a w o) :: As) I r I2) (hk : cw_ok M2 n2) (hn : As.length = n2) (hG : GoodIn (cw_w M) (wsV (cw_y M).cls index (cw_y M2).cls (cw_y M2) (cw_w M2))) (hR : cw_fr M2 + 1 ≤ cw_fr M ∧ 8 + (cw_k M2 + 11) + cw_lo M2 ≤ cw_lo M) (ho : o < cw_n w) (he : cw_e w o (I o) = .inr (ci, fs)) (hc : vwCl[ci]? = some ((cw_y M2).cls, T, N)) (hst : stk = As.reverse ++ .ref (cw_a w o) :: st) (hW : (st.map fun v => v.category).sum ≤ 8) (hd : decode (cw_c M) pc = .ok (.invokevirtual index, 3))
    (kk : cw_B w w0 M Z mc ms uc us I2 (pc + 3) L (r.toList ++ st)) : cw_B w w0 M Z mc ms uc us I pc L stk := by
  intro p e s m args below meth c H locs ls X hP hS h
  exact cw_callVN (cw_Xc X) hC hk hn hG hR ho he hc hst hW hd kk p e s m args below meth c H locs ls X hP hS h
theorem cw_callSN {c2 s2 : Nat} {M2 : cw_Me} {As : List Value} {r : Option Value} {I2 : cw_M} {index n2 : Nat} (hu : uc + c2 ≤ mc ∧ us + s2 ≤ ms) (hC : cw_CN c2 s2 w M2 As I r I2) (hk : cw_ok M2 n2) (hn : As.length = n2) (hG : GoodIn (cw_w M) (wsS (cw_y M).cls index (cw_y M2) (cw_w M2))) (hR : cw_fr M2 + 1 ≤ cw_fr M ∧ 8 + (cw_k M2 + 11) + cw_lo M2 ≤ cw_lo M) (hcl : (cw_y M2).cls = (cw_y M).cls) (hst : stk = As.reverse ++ st) (hW : (st.map fun v => v.category).sum ≤ 8) (hd : decode (cw_c M) pc = .ok (.invokestatic index, 3))
    (kk : cw_B w w0 M Z mc ms (uc + c2) (us + s2) I2 (pc + 3) L (r.toList ++ st)) : cw_B w w0 M Z mc ms uc us I pc L stk := by
  intro p e s m args below meth c H locs ls X hP hS h
  obtain ⟨ws', hw⟩ := hk.2.1
  exact cw_tail X hS h hu (va_runS (p := p) (l := cw_l w) (e := e) (R := cw_R M mc ms) (s := s) (m := m) (args := args) (below := below) (meth := meth) (c := c) (H := H) (locs := locs) (cells := uc) (slots := us) (As := As) (rest := st) (g := F0 m pc ls stk) X.1 (hC H.size)
    (cwS (R := cw_R M mc ms) (rm := cw_R M2 c2 s2) n2 X.1.2.2.2.2 hG hw rfl rfl ⟨hcl, hk.2.2⟩ hR)
    ⟨cw_blind, fun U hU hW => ⟨rfl, cw_Xpre X hP hS U hU hW⟩⟩
    rfl hn h.1 hst (by show 2 * 0 + _ ≤ 8; omega) hd hu) kk
theorem cw_callS {M2 : cw_Me} {As : List Value} {r : Option Value} {I2 : cw_M} {index n2 : Nat} (hC : cw_C w M2 As I r I2) (hk : cw_ok M2 n2) (hn : As.length = n2) (hG : GoodIn (cw_w M) (wsS (cw_y M).cls index (cw_y M2) (cw_w M2))) (hR : cw_fr M2 + 1 ≤ cw_fr M ∧ 8 + (cw_k M2 + 11) + cw_lo M2 ≤ cw_lo M) (hcl : (cw_y M2).cls = (cw_y M).cls) (hst : stk = As.reverse ++ st) (hW : (st.map fun v => v.category).sum ≤ 8) (hd : decode (cw_c M) pc = .ok (.invokestatic index, 3))
    (kk : cw_B w w0 M Z mc ms uc us I2 (pc + 3) L (r.toList ++ st)) : cw_B w w0 M Z mc ms uc us I pc L stk := by
  intro p e s m args below meth c H locs ls X hP hS h
  exact cw_callSN (cw_Xc X) hC hk hn hG hR hcl hst hW hd kk p e s m args below meth c H locs ls X hP hS h
theorem cw_callK {b : Nat} {M2 : cw_Me} {As : List Value} {r : Option Value} {I2 : cw_M} {index n2 : Nat} (hC : cw_C w M2 (.ref b :: As) I r I2) (hk : cw_ok M2 n2) (hn : As.length = n2) (hG : GoodIn (cw_w M) (wsV (cw_y M).cls index (cw_y M2).cls (cw_y M2) (cw_w M2))) (hR : cw_fr M2 + 1 ≤ cw_fr M ∧ 8 + (cw_k M2 + 11) + cw_lo M2 ≤ cw_lo M) (hF : ∀ (A : Nat → Prop) (U : State) (H : Heap), cw_f w A U H → va_O (cw_y M2).cls b A U H) (hst : stk = As.reverse ++ .ref b :: st) (hW : (st.map fun v => v.category).sum ≤ 8) (hd : decode (cw_c M) pc = .ok (.invokevirtual index, 3))
    (kk : cw_B w w0 M Z mc ms uc us I2 (pc + 3) L (r.toList ++ st)) : cw_B w w0 M Z mc ms uc us I pc L stk := by
  intro p e s m args below meth c H locs ls X hP hS h
  obtain ⟨ws', hw⟩ := hk.2.1
  exact cw_tail (c2 := 0) (s2 := 0) X hS h (cw_Xc X) (va_runV (p := p) (l := cw_l w) (e := e) (R := cw_R M mc ms) (s := s) (m := m) (args := args) (below := below) (meth := meth) (c := c) (H := H) (locs := locs) (cells := uc) (slots := us) (As := As) (rest := st) (g := F0 m pc ls stk) (b := b) X.1 (hC H.size)
    (cwV (R := cw_R M mc ms) (rm := cw_R M2 0 0) n2 X.1.2.2.2.2 hG hw rfl rfl ⟨rfl, hk.2.2⟩ hR)
    ⟨cw_blind, (by
      obtain ⟨cell, a1, a2, a3, a4⟩ := hF _ _ _ X.2.2.2.2.2.1
      exact ⟨cell, by rw [hS.2.1 b (Array.getElem?_eq_some_iff.mp a1).1 a4]; exact a1, a2, a3⟩), fun U hU hW => ⟨rfl, cw_Xpre X hP hS U hU hW⟩⟩
    rfl hn h.1 hst (by show 2 * 0 + _ ≤ 8; omega) hd (cw_Xc X)) kk
theorem cw_callA {M2 : cw_Me} {As : List Value} {r : Option Value} {I2 : cw_M} {index n2 : Nat} (hC : cw_C w M2 As I r I2) (hk : cw_ok M2 n2) (hn : As.length = n2) (hG : GoodIn (cw_w M) (va_wsS (cw_y M).cls index (cw_y M2) (cw_w M2))) (hR : cw_fr M2 + 1 ≤ cw_fr M ∧ 8 + (cw_k M2 + 11) + cw_lo M2 ≤ cw_lo M) (hst : stk = As.reverse ++ st) (hW : (st.map fun v => v.category).sum ≤ 8) (hd : decode (cw_c M) pc = .ok (.invokestatic index, 3))
    (kk : cw_B w w0 M Z mc ms uc us I2 (pc + 3) L (r.toList ++ st)) : cw_B w w0 M Z mc ms uc us I pc L stk := by
  intro p e s m args below meth c H locs ls X hP hS h
  obtain ⟨ws', hw⟩ := hk.2.1
  exact cw_tail (c2 := 0) (s2 := 0) X hS h (cw_Xc X) (va_runS (p := p) (l := cw_l w) (e := e) (R := cw_R M mc ms) (s := s) (m := m) (args := args) (below := below) (meth := meth) (c := c) (H := H) (locs := locs) (cells := uc) (slots := us) (As := As) (rest := st) (g := F0 m pc ls stk) X.1 (hC H.size)
    (va_cwS (R := cw_R M mc ms) (rm := cw_R M2 0 0) n2 X.1.2.2.2.2 hG hw rfl rfl hk.2.2 hR)
    ⟨cw_blind, fun U hU hW => ⟨rfl, cw_Xpre X hP hS U hU hW⟩⟩
    rfl hn h.1 hst (by show 2 * 0 + _ ≤ 8; omega) hd (cw_Xc X)) kk
/-- a contract in a part of the world -/
theorem cw_lift {c2 s2 : Nat} {w1 : cw_G} {M2 : cw_Me} {as : List Value} {r : Option Value} {I2 : cw_M} (hle : cw_le w1 w) (hf : cw_f w1 = cw_f w) (hC : cw_CN c2 s2 w1 M2 as I r I2) (hI : ∀ k, cw_n w1 ≤ k → I2 k = I k) : cw_CN c2 s2 w M2 as I r I2 := by
  intro sz
  have hm := hC sz
  have hown : ∀ q, cw_own w1 sz q → cw_own w sz q := fun q hq => by
    rcases hq with ⟨k, hk, rfl⟩ | hq
    · exact Or.inl ⟨k, Nat.lt_of_lt_of_le hk hle.2.2.2.1, hle.2.2.2.2.1 k hk⟩
    · exact Or.inr hq
  have hm2 : Met (cw_l w1) (cw_y M2) (cw_w M2) (cw_R M2 c2 s2) (cw_Pc w as I sz) (cw_Q w r I2) c2 s2 (cw_own w sz) := by
    refine MetFree.mono hm (fun a U hp => ?_) (fun _ _ _ _ _ h => h) (fun a st o t hp hq => ?_)
    · obtain ⟨p1, p2, p3, p4, p5, p6, p7⟩ := hp
      have hok : cw_Fok (cw_f w1) := by rw [hf]; exact p7
      refine ⟨p1, p2, cw_le.P hle p3, ?_, fun i j hi hj hij => p5 i j (Nat.lt_of_lt_of_le hi hle.2.2.2.1) (Nat.lt_of_lt_of_le hj hle.2.2.2.1) (by rw [← hle.2.2.2.2.1 i hi, ← hle.2.2.2.2.1 j hj]; exact hij), hok.2.2 _ _ _ _ (hle.2.2.2.2.2.2 _ _ _ p6) hown, hok⟩
      have h9 := p4
      rw [← hle.2.1, ← hle.2.2.1] at h9
      exact h9
    · obtain ⟨p1, p2, p3, p4, p5, p6, p7⟩ := hp
      obtain ⟨⟨q1, q2, q3, q4⟩, L, hF, hL⟩ := hq
      have hlt : ∀ k, k < cw_n w → cw_a w k < st.heap.size := fun k hk => (p3 k _ (cw_wd_get hk)).lt
      refine ⟨⟨q1, ?_, q3, fun q h1 h2 => q4 q h1 (fun z => h2 (by rw [p2] at z ⊢; exact hown q z))⟩, L, hF, fun q hq => hown _ (hL q hq)⟩
      intro k q hq
      have hk : k < cw_n w := by
        have := (List.getElem?_eq_some_iff.mp hq).1
        simpa [cw_wd] using this
      rw [cw_wd_get hk] at hq
      cases hq
      by_cases h1 : k < cw_n w1
      · have h9 := q2 k (cw_a w1 k, cw_e w1 k (I2 k)) (cw_wd_get h1)
        rw [hle.2.1, hle.2.2.2.2.1 k h1, hle.2.2.2.2.2.1 k h1] at h9
        exact h9
      · rw [hI k (by omega)]
        refine (p3 k (cw_a w k, cw_e w k (I k)) (cw_wd_get hk)).kept (q4 _ (hlt k hk) (fun z => ?_))
        rcases z with ⟨j, hj, z⟩ | z
        · rw [hle.2.2.2.2.1 j hj] at z
          exact h1 (by rw [p5 k j hk (Nat.lt_of_lt_of_le hj hle.2.2.2.1) z]; exact hj)
        · have := hlt k hk
          omega
  rw [← hle.1]
  exact hm2
/-- of the ints behind a contract those of the world's cells count alone -/
theorem cw_CNj {c2 s2 : Nat} {M2 : cw_Me} {as : List Value} {r : Option Value} {I2 I3 : cw_M} (h : ∀ k, k < cw_n w → I2 k = I3 k) (hC : cw_CN c2 s2 w M2 as I r I2) : cw_CN c2 s2 w M2 as I r I3 := by
  have e : cw_W w I2 = cw_W w I3 := List.map_congr_left (fun k hk => by rw [h k (List.mem_range.mp hk)])
  intro sz
  have h9 := hC sz
  unfold cw_Q at h9 ⊢
  rw [e] at h9
  exact h9
end CWK
