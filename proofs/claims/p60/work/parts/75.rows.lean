/-! ## a world that changes: rows and contracts for what the setup's text is made of -/
/-- as the world w, but for its cells -/
def cw_eqv (w w2 : cw_G) : Prop := cw_l w2 = cw_l w ∧ cw_d w2 = cw_d w ∧ cw_t w2 = cw_t w ∧ cw_f w2 = cw_f w
theorem cw_eqv.rfl {w : cw_G} : cw_eqv w w := ⟨Eq.refl _, Eq.refl _, Eq.refl _, Eq.refl _⟩
theorem cw_eqv.trans {w1 w2 w3 : cw_G} (h : cw_eqv w1 w2) (g : cw_eqv w2 w3) : cw_eqv w1 w3 := ⟨g.1.trans h.1, g.2.1.trans h.2.1, g.2.2.1.trans h.2.2.1, g.2.2.2.trans h.2.2.2⟩
/-- the end: a world that S names, with what S says -/
def cw_QS (w : cw_G) (S : Option Value → cw_G → cw_M → Prop) : Array Value → State → Outcome → State → Prop := fun _ st oc t => ∃ (r : Option Value) (w' : cw_G) (I' : cw_M), S r w' I' ∧ cw_eqv w w' ∧ oc = .returned r ∧ va_P (cw_d w') vwCl (cw_W w' I') t.heap ∧ va_F (cw_own w st.heap.size) st t ∧ cw_inj (cw_a w') (cw_n w') ∧ ∀ k, k < cw_n w' → cw_own w st.heap.size (cw_a w' k)
/-- THE CONTRACT with a world that changes -/
def cw_SN (uc us : Nat) (w : cw_G) (M : cw_Me) (as : List Value) (I : cw_M) (S : Option Value → cw_G → cw_M → Prop) : Prop :=
  ∀ sz : Nat, Met (cw_l w) (cw_y M) (cw_w M) (cw_R M uc us) (cw_Pc w as I sz) (cw_QS w S) uc us (cw_own w sz)
def cw_ZS (uc us : Nat) (w : cw_G) (S : Option Value → cw_G → cw_M → Prop) : cw_Zt := fun below args s => MQ below (cw_QS w S) args s uc us (cw_own w s.heap.size)
theorem cw_entryS {uc us : Nat} {w : cw_G} {M : cw_Me} {n : Nat} {as : List Value} {I : cw_M} {S : Option Value → cw_G → cw_M → Prop} (ho : cw_ok M n) (hl : (lg_sl as).length ≤ cw_k M) (k : cw_B w w M (cw_ZS uc us w S) uc us 0 0 I 0 (lv_args 0 as) []) : cw_SN uc us w M as I S := by
  intro sz
  obtain ⟨hy, ⟨ws', hw⟩, -⟩ := ho
  refine Met.ofW (cc := cw_c M) (maxL := cw_k M) (ret := cw_r M) hy hw ?_
  intro p e s m args below meth c s₁ B hml hv
  obtain ⟨rfl, hsz, hP, hK, hi, hf, hk⟩ := hv
  subst hsz
  have hx := B.exec
  have hb := B.bytes
  have hr := B.returns
  have hts := atoms_spec (ws := cw_w M) B.pre
  have hown : s.vm.findClass (cw_y M).cls = some m.cls := findClass_of_methodNamed B.named
  have hlocks := B.notSynchronized
  have htab : ∀ x ∈ c.exceptionTable.toList, False := by
    obtain ⟨meth9, c9, h1, h2, -, -, -, -, h7, -⟩ := Cond.code_spec B.named (hts _ (by rw [hw]; exact List.mem_cons_self))
    cases Option.some.inj (h1.symm.trans B.method)
    cases Option.some.inj (h2.symm.trans (Stand.of_body B).code)
    intro x hx
    rw [Array.isEmpty_iff.mp h7] at hx
    cases hx
  have hl := lv_entry as (n := cw_k M) hl
  rw [lg_entry_eq]
  generalize (lg_sl as ++ List.replicate (cw_k M - (lg_sl as).length) Slot.unset).toArray = ls at hl ⊢
  exact k p e s m _ below meth c s.heap [] ls ⟨⟨hx, hb, hml, hown, hts⟩, hr, hlocks, hK, hi, hf, hk, (fun _ => (name_of_methodNamed B.named B.method).1), fun k hk => Or.inl ⟨k, hk, rfl⟩, Nat.zero_le _, Nat.zero_le _⟩ hP va_S.rf hl
/-- a contract of a world that stays, as one -/
theorem cw_SNof {c2 s2 : Nat} {w : cw_G} {M : cw_Me} {as : List Value} {I I2 : cw_M} {r : Option Value} (h : cw_CN c2 s2 w M as I r I2) : cw_SN c2 s2 w M as I (fun r' w' I' => r = r' ∧ w = w' ∧ I2 = I') := by
  intro sz
  refine MetFree.mono (h sz) (fun a U hp => hp) (fun _ _ _ _ _ h => h) (fun a st o t hp hq => ?_)
  obtain ⟨p1, p2, p3, p4, p5, p6, p7⟩ := hp
  obtain ⟨⟨q1, q2, q3⟩, L, hF, hL⟩ := hq
  exact ⟨⟨r, w, I2, ⟨rfl, rfl, rfl⟩, cw_eqv.rfl, q1, q2, q3, p5, fun k hk => Or.inl ⟨k, hk, rfl⟩⟩, L, hF, hL⟩
/-- less said of the end -/
theorem cw_SN.mono {c2 s2 : Nat} {w : cw_G} {M : cw_Me} {as : List Value} {I : cw_M} {S S2 : Option Value → cw_G → cw_M → Prop} (h : cw_SN c2 s2 w M as I S) (hS : ∀ r w' I', S r w' I' → S2 r w' I') : cw_SN c2 s2 w M as I S2 := by
  intro sz
  refine MetFree.mono (h sz) (fun a U hp => hp) (fun _ _ _ _ _ h => h) (fun a st o t hp hq => ?_)
  obtain ⟨⟨r, w', I', q0, q1⟩, L, hF, hL⟩ := hq
  exact ⟨⟨r, w', I', hS _ _ _ q0, q1⟩, L, hF, hL⟩
section SBR
variable {w w0 : cw_G} {M : cw_Me} {Z : cw_Zt} {mc ms uc us : Nat} {I : cw_M} {pc : Nat} {L L' : List (Nat × Value)} {st stk : List Value} {S : Option Value → cw_G → cw_M → Prop}
theorem cw_aretS {v : Value} {rt : FieldType} (he : cw_eqv w0 w) (hr : cw_r M = some rt) (hrt : (∃ n, rt = .object n) ∨ ∃ t, rt = .array t) (hv : v = .null ∨ ∃ a, v = .ref a) (hd : decode (cw_c M) pc = .ok (.areturn, 1)) (h : S (some v) w I) : cw_B w w0 M (cw_ZS uc us w0 S) mc ms uc us I pc L [v] := by
  intro p e s m args below meth c H locs ls X hP hS hl
  exact W.aret X.1.1 X.1.2.1 (X.2.1.trans hr) hrt hv (fun t ht hW => ⟨_, w, I, h, he, rfl, by rw [ht]; exact hP, hS.F ht, X.2.2.2.2.1, X.2.2.2.2.2.2.2.2.1⟩) hS.2.2 hd X.2.2.1
theorem cw_vretS (he : cw_eqv w0 w) (hr : cw_r M = none) (hd : decode (cw_c M) pc = .ok (.return_, 1)) (h : S none w I) : cw_B w w0 M (cw_ZS uc us w0 S) mc ms uc us I pc L [] := by
  intro p e s m args below meth c H locs ls X hP hS hl
  exact W.vret X.1.1 X.1.2.1 (X.2.1.trans hr) (fun t ht hW => ⟨_, w, I, h, he, rfl, by rw [ht]; exact hP, hS.F ht, X.2.2.2.2.1, X.2.2.2.2.2.2.2.2.1⟩) hS.2.2 hd X.2.2.1
/-- behind a call that changes the world -/
theorem cw_tailS {p : Program} {e : Env} {s : State} {m : MethodId} {args : Array Value} {below : List Frame} {meth : Method} {c : Code} {H : Heap} {locs : List Loc} {ls : Array Slot} {c2 s2 : Nat} {as : Array Value} (X : cw_X w w0 M mc ms uc us p s m args meth c) (hS : va_S (cw_own w0 s.heap.size) s.heap H locs) (h : lv_has ls (cw_k M) L) (hu : uc + c2 ≤ mc ∧ us + s2 ≤ ms) (hrun : va_Run p (cw_l w) e (cw_R M mc ms) s m args below meth c H locs uc us c2 s2 (F0 m pc ls stk) st (cw_QS w S as) (cw_own w H.size)) (kk : ∀ r w' I', cw_eqv w w' → S r w' I' → cw_B w' w0 M Z mc ms (uc + c2) (us + s2) I' (pc + 3) L (r.toList ++ st)) : W p (cw_l w) e (cw_R M mc ms) s m args below meth c H locs uc us (Z below args s) (F0 m pc ls stk) := by
  intro T0 hT X0
  obtain ⟨v, st₀, t, T', L1, h0, X', hL, e1, e2, ⟨r, w', I', hS9, he, hv9, hq2, ⟨hz, hk2⟩, hi, ho⟩, stp⟩ := hrun T0 hT X0
  cases hv9
  rw [h0] at hz hk2 ho
  have hsub := cw_Xsub X hS.1
  have h9 := kk v w' I' he hS9
  obtain ⟨g1, g2, g3, g4⟩ := he
  have X2 : cw_X w' w0 M mc ms (uc + c2) (us + s2) p s m args meth c := ⟨X.1, X.2.1, X.2.2.1, by rw [g2, g3]; exact X.2.2.2.1, hi, by rw [g4]; exact X.2.2.2.2.2.1, by rw [g4]; exact X.2.2.2.2.2.2.1, X.2.2.2.2.2.2.2.1, fun k hk => hsub _ (ho k hk), hu⟩
  have h10 := h9 p e s m args below meth c T'.heap (locs ++ L1) ls X2 (by rw [e1]; exact hq2) ⟨Nat.le_trans hS.1 (by rw [e1]; exact hz), fun q h1 h2 => by rw [e1, hk2 q (Nat.lt_of_lt_of_le h1 hS.1) (fun z => h2 (hsub q z))]; exact hS.2.1 q h1 h2, fun q hq => by
      rcases List.mem_append.mp hq with h | h
      · exact hS.2.2 q h
      · exact hsub _ (hL q h)⟩ h
  rw [g1] at h10
  obtain ⟨t2, a1, b1⟩ := h10 T' rfl X'
  exact ⟨t2, stp t2 a1, b1⟩
/-! the calls -/
theorem cw_sV {o c2 s2 : Nat} {M2 : cw_Me} {As : List Value} {index n2 ci : Nat} {fs : List Value} {T : u_T} {N : Nat} (hu : uc + c2 ≤ mc ∧ us + s2 ≤ ms) (hC : cw_SN c2 s2 w M2 (.ref (cw_a w o) :: As) I S) (hk : cw_ok M2 n2) (hn : As.length = n2) (hG : GoodIn (cw_w M) (wsV (cw_y M).cls index (cw_y M2).cls (cw_y M2) (cw_w M2))) (hR : cw_fr M2 + 1 ≤ cw_fr M ∧ 8 + (cw_k M2 + 11) + cw_lo M2 ≤ cw_lo M) (ho : o < cw_n w) (he : cw_e w o (I o) = .inr (ci, fs)) (hc : vwCl[ci]? = some ((cw_y M2).cls, T, N)) (hst : stk = As.reverse ++ .ref (cw_a w o) :: st) (hW : (st.map fun v => v.category).sum ≤ 8) (hd : decode (cw_c M) pc = .ok (.invokevirtual index, 3))
    (kk : ∀ r w' I', cw_eqv w w' → S r w' I' → cw_B w' w0 M Z mc ms (uc + c2) (us + s2) I' (pc + 3) L (r.toList ++ st)) : cw_B w w0 M Z mc ms uc us I pc L stk := by
  intro p e s m args below meth c H locs ls X hP hS h
  obtain ⟨ws', hw⟩ := hk.2.1
  exact cw_tailS X hS h hu (va_runV (p := p) (l := cw_l w) (e := e) (R := cw_R M mc ms) (s := s) (m := m) (args := args) (below := below) (meth := meth) (c := c) (H := H) (locs := locs) (cells := uc) (slots := us) (As := As) (rest := st) (g := F0 m pc ls stk) (b := cw_a w o) X.1 (hC H.size)
    (cwV (R := cw_R M mc ms) (rm := cw_R M2 c2 s2) n2 X.1.2.2.2.2 hG hw rfl rfl ⟨rfl, hk.2.2⟩ hR)
    ⟨cw_blind, va_recv X.2.2.2.1 hP hc (q0 := o) (by rw [cw_wd_get ho, he]), fun U hU hW => ⟨rfl, cw_Xpre X hP hS U hU hW⟩⟩
    rfl hn h.1 hst (by show 2 * 0 + _ ≤ 8; omega) hd hu) kk
theorem cw_sU {o c2 s2 : Nat} {M2 : cw_Me} {As : List Value} {C owner : String} {x : MethodName} {index n2 ci : Nat} {fs : List Value} {T : u_T} {N : Nat} (hu : uc + c2 ≤ mc ∧ us + s2 ≤ ms) (hC : cw_SN c2 s2 w M2 (.ref (cw_a w o) :: As) I S) (hk : cw_ok M2 n2) (hn : As.length = n2) (hG : GoodIn (cw_w M) (va_wsU (cw_y M).cls index C owner x (cw_y M2) (cw_w M2))) (hyx : cw_y M2 = ⟨owner, x.name, x.desc⟩) (hdx : owner ≠ "java/lang/invoke/MethodHandle" ∧ owner ≠ "java/lang/invoke/VarHandle" ∧ (parseMethodDescriptor x.desc).map (fun d => d.parameters.length) = some n2) (hR : cw_fr M2 + 1 ≤ cw_fr M ∧ 8 + (cw_k M2 + 11) + cw_lo M2 ≤ cw_lo M) (ho : o < cw_n w) (he : cw_e w o (I o) = .inr (ci, fs)) (hc : vwCl[ci]? = some (C, T, N)) (hst : stk = As.reverse ++ .ref (cw_a w o) :: st) (hW : (st.map fun v => v.category).sum ≤ 8) (hd : decode (cw_c M) pc = .ok (.invokevirtual index, 3))
    (kk : ∀ r w' I', cw_eqv w w' → S r w' I' → cw_B w' w0 M Z mc ms (uc + c2) (us + s2) I' (pc + 3) L (r.toList ++ st)) : cw_B w w0 M Z mc ms uc us I pc L stk := by
  intro p e s m args below meth c H locs ls X hP hS h
  obtain ⟨ws', hw⟩ := hk.2.1
  exact cw_tailS X hS h hu (va_runU (p := p) (l := cw_l w) (e := e) (R := cw_R M mc ms) (s := s) (m := m) (args := args) (below := below) (meth := meth) (c := c) (H := H) (locs := locs) (cells := uc) (slots := us) (As := As) (rest := st) (g := F0 m pc ls stk) (b := cw_a w o) X.1 (hC H.size)
    (va_cwU (R := cw_R M mc ms) (rm := cw_R M2 c2 s2) n2 X.1.2.2.2.2 hG hw rfl rfl hyx hdx hR)
    ⟨cw_blind, va_recv X.2.2.2.1 hP hc (q0 := o) (by rw [cw_wd_get ho, he]), fun U hU hW => ⟨rfl, cw_Xpre X hP hS U hU hW⟩⟩
    rfl hn h.1 hst (by show 2 * 0 + _ ≤ 8; omega) hd hu) kk
theorem cw_sO {o c2 s2 : Nat} {M2 : cw_Me} {As : List Value} {C owner : String} {x : MethodName} {index n2 ci : Nat} {fs : List Value} {T : u_T} {N : Nat} {b0 : ByteArray} {m0 : Nat} {r0 : Option FieldType} (hu : uc + c2 ≤ mc ∧ us + s2 ≤ ms) (hC : cw_SN c2 s2 w M2 (.ref (cw_a w o) :: As) I S) (hk : cw_ok M2 n2) (hn : As.length = n2) (hG : GoodIn (cw_w M) (va_wsO (cw_y M).cls index C owner x (cw_y M2) (cw_w M2))) (h0 : Cond.code ⟨owner, x.name, x.desc⟩ b0 m0 r0 ∈ cw_w M) (hdx : owner ≠ "java/lang/invoke/MethodHandle" ∧ owner ≠ "java/lang/invoke/VarHandle" ∧ (parseMethodDescriptor x.desc).map (fun d => d.parameters.length) = some n2) (hR : cw_fr M2 + 1 ≤ cw_fr M ∧ 8 + (cw_k M2 + 11) + cw_lo M2 ≤ cw_lo M) (ho : o < cw_n w) (he : cw_e w o (I o) = .inr (ci, fs)) (hc : vwCl[ci]? = some (C, T, N)) (hst : stk = As.reverse ++ .ref (cw_a w o) :: st) (hW : (st.map fun v => v.category).sum ≤ 8) (hd : decode (cw_c M) pc = .ok (.invokevirtual index, 3))
    (kk : ∀ r w' I', cw_eqv w w' → S r w' I' → cw_B w' w0 M Z mc ms (uc + c2) (us + s2) I' (pc + 3) L (r.toList ++ st)) : cw_B w w0 M Z mc ms uc us I pc L stk := by
  intro p e s m args below meth c H locs ls X hP hS h
  obtain ⟨ws', hw⟩ := hk.2.1
  exact cw_tailS X hS h hu (va_runU (p := p) (l := cw_l w) (e := e) (R := cw_R M mc ms) (s := s) (m := m) (args := args) (below := below) (meth := meth) (c := c) (H := H) (locs := locs) (cells := uc) (slots := us) (As := As) (rest := st) (g := F0 m pc ls stk) (b := cw_a w o) X.1 (hC H.size)
    (va_cwO (R := cw_R M mc ms) (rm := cw_R M2 c2 s2) n2 X.1.2.2.2.2 hG hw rfl rfl h0 hdx hR)
    ⟨cw_blind, va_recv X.2.2.2.1 hP hc (q0 := o) (by rw [cw_wd_get ho, he]), fun U hU hW => ⟨rfl, cw_Xpre X hP hS U hU hW⟩⟩
    rfl hn h.1 hst (by show 2 * 0 + _ ≤ 8; omega) hd hu) kk
theorem cw_sSU {o c2 s2 : Nat} {M2 : cw_Me} {As : List Value} {C : String} {index n2 ci : Nat} {fs : List Value} {T : u_T} {N : Nat} (hu : uc + c2 ≤ mc ∧ us + s2 ≤ ms) (hC : cw_SN c2 s2 w M2 (.ref (cw_a w o) :: As) I S) (hk : cw_ok M2 n2) (hn : As.length = n2) (hG : GoodIn (cw_w M) (va_wsSU (cw_y M).cls index (cw_y M2) (cw_w M2))) (hdx : (cw_y M2).name ≠ "<init>" ∧ (parseMethodDescriptor (cw_y M2).desc).map (fun d => d.parameters.length) = some n2) (hR : cw_fr M2 + 1 ≤ cw_fr M ∧ 8 + (cw_k M2 + 11) + cw_lo M2 ≤ cw_lo M) (ho : o < cw_n w) (he : cw_e w o (I o) = .inr (ci, fs)) (hc : vwCl[ci]? = some (C, T, N)) (hst : stk = As.reverse ++ .ref (cw_a w o) :: st) (hW : (st.map fun v => v.category).sum ≤ 8) (hd : decode (cw_c M) pc = .ok (.invokespecial index, 3))
    (kk : ∀ r w' I', cw_eqv w w' → S r w' I' → cw_B w' w0 M Z mc ms (uc + c2) (us + s2) I' (pc + 3) L (r.toList ++ st)) : cw_B w w0 M Z mc ms uc us I pc L stk := by
  intro p e s m args below meth c H locs ls X hP hS h
  obtain ⟨ws', hw⟩ := hk.2.1
  exact cw_tailS X hS h hu (va_runSU (p := p) (l := cw_l w) (e := e) (R := cw_R M mc ms) (s := s) (m := m) (args := args) (below := below) (meth := meth) (c := c) (H := H) (locs := locs) (cells := uc) (slots := us) (As := As) (rest := st) (g := F0 m pc ls stk) (b := cw_a w o) (X.2.2.2.1.1 ci _ hc).2 X.1 (hC H.size)
    (va_cwSU (R := cw_R M mc ms) (rm := cw_R M2 c2 s2) n2 X.1.2.2.2.2 hG hw rfl rfl hdx hR)
    ⟨cw_blind, va_recv X.2.2.2.1 hP hc (q0 := o) (by rw [cw_wd_get ho, he]), fun U hU hW => ⟨rfl, cw_Xpre X hP hS U hU hW⟩⟩
    rfl hn h.1 hst (by show 2 * 0 + _ ≤ 8; omega) hd hu) kk
theorem cw_sI {b c2 s2 : Nat} {M2 : cw_Me} {As : List Value} {index n2 : Nat} (hu : uc + c2 ≤ mc ∧ us + s2 ≤ ms) (hC : cw_SN c2 s2 w M2 (.ref b :: As) I S) (hk : cw_ok M2 n2) (hn : As.length = n2) (hG : GoodIn (cw_w M) (cw_w M2)) (hr2 : cw_r M2 = none) (h1 : Cond.initialized (cw_y M2).cls ∈ cw_w M) (h2 : Cond.methodLink (cw_y M).cls index (cw_y M2) ∈ cw_w M) (h3 : Cond.instanceMethod (cw_y M2) ∈ cw_w M) (hy : (cw_y M2).name = "<init>") (hR : cw_fr M2 + 1 ≤ cw_fr M ∧ 8 + (cw_k M2 + 11) + cw_lo M2 ≤ cw_lo M) (hst : stk = As.reverse ++ .ref b :: st) (hW : (st.map fun v => v.category).sum ≤ 8) (hd : decode (cw_c M) pc = .ok (.invokespecial index, 3))
    (kk : ∀ r w' I', cw_eqv w w' → S r w' I' → cw_B w' w0 M Z mc ms (uc + c2) (us + s2) I' (pc + 3) L (r.toList ++ st)) : cw_B w w0 M Z mc ms uc us I pc L stk := by
  intro p e s m args below meth c H locs ls X hP hS h
  obtain ⟨ws', hw⟩ := hk.2.1
  rw [hr2] at hw
  exact cw_tailS X hS h hu (va_runI (p := p) (l := cw_l w) (e := e) (R := cw_R M mc ms) (s := s) (m := m) (args := args) (below := below) (meth := meth) (c := c) (H := H) (locs := locs) (cells := uc) (slots := us) (As := As) (rest := st) (g := F0 m pc ls stk) (b := b) X.1 (hC H.size)
    (cwI (R := cw_R M mc ms) (rm := cw_R M2 c2 s2) n2 X.1.2.2.2.2 hG hw rfl rfl (X.1.2.2.2.2 _ h1) (X.1.2.2.2.2 _ h2) (X.1.2.2.2.2 _ h3) hy hk.2.2 hR)
    ⟨cw_blind, fun U hU hW => ⟨rfl, cw_Xpre X hP hS U hU hW⟩⟩
    rfl hn h.1 hst (by show 2 * 0 + _ ≤ 8; omega) hd hu) kk
theorem cw_sA {c2 s2 : Nat} {M2 : cw_Me} {As : List Value} {index n2 : Nat} (hu : uc + c2 ≤ mc ∧ us + s2 ≤ ms) (hC : cw_SN c2 s2 w M2 As I S) (hk : cw_ok M2 n2) (hn : As.length = n2) (hG : GoodIn (cw_w M) (va_wsS (cw_y M).cls index (cw_y M2) (cw_w M2))) (hR : cw_fr M2 + 1 ≤ cw_fr M ∧ 8 + (cw_k M2 + 11) + cw_lo M2 ≤ cw_lo M) (hst : stk = As.reverse ++ st) (hW : (st.map fun v => v.category).sum ≤ 8) (hd : decode (cw_c M) pc = .ok (.invokestatic index, 3))
    (kk : ∀ r w' I', cw_eqv w w' → S r w' I' → cw_B w' w0 M Z mc ms (uc + c2) (us + s2) I' (pc + 3) L (r.toList ++ st)) : cw_B w w0 M Z mc ms uc us I pc L stk := by
  intro p e s m args below meth c H locs ls X hP hS h
  obtain ⟨ws', hw⟩ := hk.2.1
  exact cw_tailS X hS h hu (va_runS (p := p) (l := cw_l w) (e := e) (R := cw_R M mc ms) (s := s) (m := m) (args := args) (below := below) (meth := meth) (c := c) (H := H) (locs := locs) (cells := uc) (slots := us) (As := As) (rest := st) (g := F0 m pc ls stk) X.1 (hC H.size)
    (va_cwS (R := cw_R M mc ms) (rm := cw_R M2 c2 s2) n2 X.1.2.2.2.2 hG hw rfl rfl hk.2.2 hR)
    ⟨cw_blind, fun U hU hW => ⟨rfl, cw_Xpre X hP hS U hU hW⟩⟩
    rfl hn h.1 hst (by show 2 * 0 + _ ≤ 8; omega) hd hu) kk
/-! bytes -/
theorem cw_bald {i : Int32} {cA : ClassId} {n : Nat} (o : Nat) (ho : o < cw_n w) (he : cw_e w o (I o) = .inl (cA, n, .inl (I o))) (t0 : Nat) (ht : (cw_t w)[t0]? = some (cA, .byte)) (hd : decode (cw_c M) pc = .ok (.baload, 1)) (hin : vp_in i n) (kk : cw_B w w0 M Z mc ms uc us I (pc + 1) L (.int (I o i.toNatClampNeg) :: st)) : cw_B w w0 M Z mc ms uc us I pc L (.int i :: .ref (cw_a w o) :: st) :=
  fun p e s m args below meth c H locs ls X hP hS h => va_bald X.1.1 X.1.2.1 X.2.2.2.1 hP o t0 (by rw [cw_wd_get ho, he]) ht hin hd (kk p e s m args below meth c H locs ls X hP hS h)
theorem cw_bast {i x : Int32} {cA : ClassId} {n : Nat} (o : Nat) (ho : o < cw_n w) (he : ∀ f, cw_e w o f = .inl (cA, n, .inl f)) (t0 : Nat) (ht : (cw_t w)[t0]? = some (cA, .byte)) (hd : decode (cw_c M) pc = .ok (.bastore, 1)) (hin : vp_in i n) (kk : cw_B w w0 M Z mc ms uc us (cw_st I o i.toNatClampNeg (vp_nar .byte x)) (pc + 1) L st) : cw_B w w0 M Z mc ms uc us I pc L (.int x :: .int i :: .ref (cw_a w o) :: st) := by
  intro p e s m args below meth c H locs ls X hP hS h
  refine va_bast X.1.1 X.1.2.1 X.2.2.2.1 hP (cw_XD X) hS o t0 (by rw [cw_wd_get ho, he]) ht hin hd (fun H1 locs1 hP1 hD1 hS1 => ?_)
  rw [← he, cw_wd_set ho] at hP1
  exact kk p e s m args below meth c H1 locs1 ls X hP1 hS1 h
theorem cw_i2b {x v : Int32} (hd : decode (cw_c M) pc = .ok (.i2b, 1)) (hv : x.toInt8.toInt32 = v) (kk : cw_B w w0 M Z mc ms uc us I (pc + 1) L (.int v :: st)) : cw_B w w0 M Z mc ms uc us I pc L (.int x :: st) :=
  fun p e s m args below meth c H locs ls X hP hS h => lv_i2b X.1.1 X.1.2.1 hd hv (kk p e s m args below meth c H locs ls X hP hS h)
theorem cw_dupx1 {va vb : Value} (hd : decode (cw_c M) pc = .ok (.dup_x1, 1)) (h1 : va.category = 1) (h2 : vb.category = 1) (kk : cw_B w w0 M Z mc ms uc us I (pc + 1) L (va :: vb :: va :: st)) : cw_B w w0 M Z mc ms uc us I pc L (va :: vb :: st) :=
  fun p e s m args below meth c H locs ls X hP hS h => lv_dup_x1 X.1.1 X.1.2.1 hd h1 h2 (kk p e s m args below meth c H locs ls X hP hS h)
/-- a byte is put into a field -/
theorem cw_putb {C : String} {T : u_T} {N ci index : Nat} {fs : List Value} {x : Int32} (hin : ∀ x ∈ u_ws C T N, x ∈ cw_w M) (ty0 : Nat → FieldType) (hty : ∀ k, k < N → parseFieldDescriptor (T k).2.2.1 = some (ty0 k)) (hnm : ∀ a, a < N → ∀ b, b < N → a ≠ b → (T a).2.1 ≠ (T b).2.1) (o : Nat) (ho : o < cw_n w) (he : cw_e w o (I o) = .inr (ci, fs)) (hc : vwCl[ci]? = some (C, T, N)) (k : Nat) (hk : k < N) (hlink : Cond.fieldLink (cw_y M).cls index (T k).1 (T k).2.1 (T k).2.2.1 ∈ cw_w M) (hfin : (T k).2.2.2 = false) (hnr : narrow (ty0 k) (.int x) = .int x) (hfit : fits (ty0 k) (.int x) = true) (hl : k < fs.length) (he2 : cw_e w o (upd (I o) k x) = .inr (ci, fs.set k (.int x))) (hd : decode (cw_c M) pc = .ok (.putfield index, 3))
    (kk : cw_B w w0 M Z mc ms uc us (cw_st I o k x) (pc + 3) L st) : cw_B w w0 M Z mc ms uc us I pc L (.int x :: .ref (cw_a w o) :: st) := by
  intro p e s m args below meth c H locs ls X hP hS h
  refine va_put X.1.1 X.1.2.1 X.1.2.2.2.2 hin ty0 hty hnm X.1.2.2.2.1 X.2.2.2.1 hP (cw_XD X) hS o (by rw [cw_wd_get ho, he]) hc k hk (X.1.2.2.2.2 _ hlink) (fun _ h9 => h9) hfin (ty := ty0 k) (hty k hk) hnr hfit hl hd (fun H1 locs1 hP1 hD1 hS1 => ?_)
  rw [← he2, cw_wd_set ho] at hP1
  exact kk p e s m args below meth c H1 locs1 ls X hP1 hS1 h
/-- another world over the same cells -/
theorem cw_to {w' : cw_G} {p : Program} {s : State} {m : MethodId} {args : Array Value} {meth : Method} {c : Code} (he : cw_eqv w w') (hn : ∀ k, k < cw_n w' → ∃ j, j < cw_n w ∧ cw_a w' k = cw_a w j) (hi : cw_inj (cw_a w') (cw_n w')) (X : cw_X w w0 M mc ms uc us p s m args meth c) : cw_X w' w0 M mc ms uc us p s m args meth c := by
  obtain ⟨g1, g2, g3, g4⟩ := he
  exact ⟨X.1, X.2.1, X.2.2.1, by rw [g2, g3]; exact X.2.2.2.1, hi, by rw [g4]; exact X.2.2.2.2.2.1, by rw [g4]; exact X.2.2.2.2.2.2.1, X.2.2.2.2.2.2.2.1, fun k hk => by
    obtain ⟨j, hj, e⟩ := hn k hk
    rw [e]
    exact X.2.2.2.2.2.2.2.2.1 j hj, cw_Xc X⟩
/-- cells forgotten, in another order -/
theorem cw_perm (w' : cw_G) (I' : cw_M) (σ : Nat → Nat) (he : cw_eqv w w') (hσ : ∀ k, k < cw_n w' → σ k < cw_n w ∧ cw_a w' k = cw_a w (σ k) ∧ cw_e w' k (I' k) = cw_e w (σ k) (I (σ k))) (hinj : ∀ i j, i < cw_n w' → j < cw_n w' → σ i = σ j → i = j) (kk : cw_B w' w0 M Z mc ms uc us I' pc L st) : cw_B w w0 M Z mc ms uc us I pc L st := by
  intro p e s m args below meth c H locs ls X hP hS h
  have X' : cw_X w' w0 M mc ms uc us p s m args meth c := cw_to he (fun k hk => ⟨σ k, (hσ k hk).1, (hσ k hk).2.1⟩) (fun i j hi hj hij => hinj i j hi hj (X.2.2.2.2.1 _ _ (hσ i hi).1 (hσ j hj).1 (by rw [← (hσ i hi).2.1, ← (hσ j hj).2.1]; exact hij))) X
  have hP' : va_P (cw_d w') vwCl (cw_W w' I') H := by
    intro k q hq
    have hk : k < cw_n w' := by
      have := (List.getElem?_eq_some_iff.mp hq).1
      simpa [cw_wd] using this
    rw [cw_wd_get hk] at hq
    cases hq
    have h9 := hP (σ k) _ (cw_wd_get (hσ k hk).1)
    rw [he.2.1, (hσ k hk).2.1, (hσ k hk).2.2]
    exact h9
  have h9 := kk p e s m args below meth c H locs ls X' hP' hS h
  rw [he.1] at h9
  exact h9
/-- a reference (or what isn't of the ints) is put into a field that isn't final -/
theorem cw_putr {w' : cw_G} {I' : cw_M} {C : String} {T : u_T} {N ci index : Nat} {fs : List Value} {v : Value} (hin : ∀ x ∈ u_ws C T N, x ∈ cw_w M) (ty0 : Nat → FieldType) (hty : ∀ k, k < N → parseFieldDescriptor (T k).2.2.1 = some (ty0 k)) (hnm : ∀ a, a < N → ∀ b, b < N → a ≠ b → (T a).2.1 ≠ (T b).2.1) (o : Nat) (ho : o < cw_n w) (he : cw_e w o (I o) = .inr (ci, fs)) (hc : vwCl[ci]? = some (C, T, N)) (k : Nat) (hk : k < N) (hlink : Cond.fieldLink (cw_y M).cls index (T k).1 (T k).2.1 (T k).2.2.1 ∈ cw_w M) (hfin : (T k).2.2.2 = false) (hnr : narrow (ty0 k) v = v) (hfit : fits (ty0 k) v = true) (hl : k < fs.length) (hv : cw_eqv w w') (hn : cw_n w' = cw_n w) (ha : ∀ j, cw_a w' j = cw_a w j) (he2 : cw_e w' o (I' o) = .inr (ci, fs.set k v)) (he3 : ∀ j, j < cw_n w → j ≠ o → cw_e w' j (I' j) = cw_e w j (I j)) (hd : decode (cw_c M) pc = .ok (.putfield index, 3))
    (kk : cw_B w' w0 M Z mc ms uc us I' (pc + 3) L st) : cw_B w w0 M Z mc ms uc us I pc L (v :: .ref (cw_a w o) :: st) := by
  intro p e s m args below meth c H locs ls X hP hS h
  refine va_put X.1.1 X.1.2.1 X.1.2.2.2.2 hin ty0 hty hnm X.1.2.2.2.1 X.2.2.2.1 hP (cw_XD X) hS o (by rw [cw_wd_get ho, he]) hc k hk (X.1.2.2.2.2 _ hlink) (fun _ h9 => h9) hfin (ty := ty0 k) (hty k hk) hnr hfit hl hd (fun H1 locs1 hP1 hD1 hS1 => ?_)
  have eW : (cw_W w I).set o (cw_a w o, .inr (ci, fs.set k v)) = cw_W w' I' := by
    apply List.ext_getElem?
    intro i
    by_cases hi : i < cw_n w
    · rw [cw_wd_get (by rw [hn]; exact hi), ha]
      by_cases q : i = o
      · subst q
        rw [List.getElem?_set_self (by simp [cw_wd, hi]), he2]
      · rw [List.getElem?_set_ne (fun z => q z.symm), cw_wd_get hi, he3 i hi q]
    · rw [List.getElem?_eq_none (by simp [cw_wd]; omega), List.getElem?_eq_none (by simp [cw_wd]; omega)]
  rw [eW] at hP1
  have X' : cw_X w' w0 M mc ms uc us p s m args meth c := cw_to hv (fun j hj => ⟨j, by rw [← hn]; exact hj, ha j⟩) (fun i j hi hj hij => X.2.2.2.2.1 i j (by rw [← hn]; exact hi) (by rw [← hn]; exact hj) (by rw [← ha, ← ha]; exact hij)) X
  have h9 := kk p e s m args below meth c H1 locs1 ls X' (by rw [hv.2.1]; exact hP1) hS1 h
  rw [hv.1] at h9
  exact h9
/-- the same, into a final field, in a constructor -/
theorem cw_putF {w' : cw_G} {I' : cw_M} {C : String} {T : u_T} {N ci index : Nat} {fs : List Value} {v : Value} (hinit : (cw_y M).name = "<init>") (hin : ∀ x ∈ u_ws C T N, x ∈ cw_w M) (ty0 : Nat → FieldType) (hty : ∀ k, k < N → parseFieldDescriptor (T k).2.2.1 = some (ty0 k)) (hnm : ∀ a, a < N → ∀ b, b < N → a ≠ b → (T a).2.1 ≠ (T b).2.1) (o : Nat) (ho : o < cw_n w) (he : cw_e w o (I o) = .inr (ci, fs)) (hc : vwCl[ci]? = some (C, T, N)) (k : Nat) (hk : k < N) (hlink : Cond.fieldLink (cw_y M).cls index (T k).1 (T k).2.1 (T k).2.2.1 ∈ cw_w M) (hfin : (T k).2.2.2 = true) (hdecl : (T k).1 = (cw_y M).cls) (hnr : narrow (ty0 k) v = v) (hfit : fits (ty0 k) v = true) (hl : k < fs.length) (hv : cw_eqv w w') (hn : cw_n w' = cw_n w) (ha : ∀ j, cw_a w' j = cw_a w j) (he2 : cw_e w' o (I' o) = .inr (ci, fs.set k v)) (he3 : ∀ j, j < cw_n w → j ≠ o → cw_e w' j (I' j) = cw_e w j (I j)) (hd : decode (cw_c M) pc = .ok (.putfield index, 3))
    (kk : cw_B w' w0 M Z mc ms uc us I' (pc + 3) L st) : cw_B w w0 M Z mc ms uc us I pc L (v :: .ref (cw_a w o) :: st) := by
  intro p e s m args below meth c H locs ls X hP hS h
  refine va_putF X.1.1 X.1.2.1 X.1.2.2.2.2 hin ty0 hty hnm X.1.2.2.2.1 X.2.2.2.1 hP (cw_XD X) hS o (by rw [cw_wd_get ho, he]) hc k hk (X.1.2.2.2.2 _ hlink) (fun _ h9 => h9) hfin ((X.2.2.2.2.2.2.2.1 hinit).trans hinit) hdecl (ty := ty0 k) (hty k hk) hnr hfit hl hd (fun H1 locs1 hP1 hD1 hS1 => ?_)
  have eW : (cw_W w I).set o (cw_a w o, .inr (ci, fs.set k v)) = cw_W w' I' := by
    apply List.ext_getElem?
    intro i
    by_cases hi : i < cw_n w
    · rw [cw_wd_get (by rw [hn]; exact hi), ha]
      by_cases q : i = o
      · subst q
        rw [List.getElem?_set_self (by simp [cw_wd, hi]), he2]
      · rw [List.getElem?_set_ne (fun z => q z.symm), cw_wd_get hi, he3 i hi q]
    · rw [List.getElem?_eq_none (by simp [cw_wd]; omega), List.getElem?_eq_none (by simp [cw_wd]; omega)]
  rw [eW] at hP1
  have X' : cw_X w' w0 M mc ms uc us p s m args meth c := cw_to hv (fun j hj => ⟨j, by rw [← hn]; exact hj, ha j⟩) (fun i j hi hj hij => X.2.2.2.2.1 i j (by rw [← hn]; exact hi) (by rw [← hn]; exact hj) (by rw [← ha, ← ha]; exact hij)) X
  have h9 := kk p e s m args below meth c H1 locs1 ls X' (by rw [hv.2.1]; exact hP1) hS1 h
  rw [hv.1] at h9
  exact h9
/-- a new array of bytes -/
theorem cw_newb {n : Int32} {N : Nat} {cA : ClassId} {w' : Nat → cw_G} (hx : ∀ q, cw_ext w (w' q) q (fun f => .inl (cA, N, .inl f))) (t0 : Nat) (ht : (cw_t w)[t0]? = some (cA, .byte)) (ha : Cond.arrayClass .byte ∈ cw_w M) (hn : n = nI N) (hN : N < 2 ^ 20) (hu : uc + 1 ≤ mc ∧ us + N ≤ ms) (hd : decode (cw_c M) pc = .ok (.newarray .byte, 2)) (kk : ∀ q : Nat, cw_B (w' q) w0 M Z mc ms (uc + 1) (us + N) (cw_up I (cw_n w) (fun _ => 0)) (pc + 2) L (.ref q :: st)) : cw_B w w0 M Z mc ms uc us I pc L (.int n :: st) := by
  subst hn
  intro p e s m args below meth c H locs ls X hP hS h
  have hc : (nI N).toNatClampNeg = N := nI_clamp (by omega)
  refine va_newaK (atype := .byte) X.1.1 X.1.2.1 (X.1.2.2.2.2 _ ha) rfl hd rfl (nI_pos (by omega)) hc (by show N * 1 ≤ _; omega) hu.1 hu.2 rfl (fun H1 cB e1 z1 o1 hAr hNm => ?_)
  have hcc : cA = cB := by
    have h9 := (X.2.2.2.1.2 t0 _ ht).2
    exact Option.some.inj (h9.symm.trans hNm)
  subst hcc
  obtain ⟨X1, P1, S1⟩ := cw_extX (f := fun _ => 0) (hx H.size) X hP hS hu o1 z1 (show va_at (cw_d w) vwCl (H.size, .inl (cA, N, .inl (fun _ => 0))) H1 from e1)
  have h9 := kk H.size p e s m args below meth c H1 locs ls X1 P1 S1 h
  rw [(hx H.size).1] at h9
  exact h9
/-- bytes copied out of an array that nobody writes -/
theorem cw_copyT {index t n0 : Nat} {f : Nat → Int32} {sp dp n : Int32} {c1 : ClassId} {n1 : Nat} (hl : Cond.methodLink (cw_y M).cls index arraycopyName ∈ cw_w M) (h2 : Cond.native arraycopyName ∈ cw_w M) (h3 : Cond.static arraycopyName ∈ cw_w M) (h4 : Cond.initialized "java/lang/System" ∈ cw_w M) (hF : ∀ (A : Nat → Prop) (U : State) (H : Heap), cw_f w A U H → va_T .byte t n0 (fun j => .int (f j)) A U H) (o1 : Nat) (ho1 : o1 < cw_n w) (he1 : ∀ f, cw_e w o1 f = .inl (c1, n1, .inl f)) (t0 : Nat) (ht : (cw_t w)[t0]? = some (c1, .byte)) (hb : ¬ sp < 0 ∧ ¬ dp < 0 ∧ ¬ n < 0 ∧ sp.toNatClampNeg + n.toNatClampNeg ≤ n0 ∧ dp.toNatClampNeg + n.toNatClampNeg ≤ n1) (hfit : ∀ i : Nat, i < n.toNatClampNeg → fits .byte (.int (f (sp.toNatClampNeg + i))) = true) (hr : 1 ≤ cw_fr M ∧ (st.map fun v => v.category).sum + 18 ≤ cw_lo M) (hd : decode (cw_c M) pc = .ok (.invokestatic index, 3)) (kk : cw_B w w0 M Z mc ms uc us (cw_up I o1 (va_cpy f (I o1) sp.toNatClampNeg dp.toNatClampNeg n.toNatClampNeg)) (pc + 3) L st) : cw_B w w0 M Z mc ms uc us I pc L (.int n :: .int dp :: .ref (cw_a w o1) :: .int sp :: .ref t :: st) := by
  intro p e s m args below meth c H locs ls X hP hS h
  have hlo : (st.map fun v => v.category).sum + (nativeFrameWords "java/lang/System" "arraycopy" 5 + 11) ≤ (cw_R M mc ms).locals := by
    have h18 : nativeFrameWords "java/lang/System" "arraycopy" 5 + 11 = 18 := by decide +kernel
    rw [h18]
    exact hr.2
  refine vk_copyt X.1.1 X.1.2.1 (X.1.2.2.1.trans h.1.symm) X.1.2.2.2.1 (X.1.2.2.2.2 _ hl) (X.1.2.2.2.2 _ h2) (X.1.2.2.2.2 _ h3) (X.1.2.2.2.2 _ h4) X.2.2.2.1 hP (cw_XD X) hS (hF _ _ _ X.2.2.2.2.2.1) o1 t0 (by rw [cw_wd_get ho1, he1]) ht hb.1 hb.2.1 hb.2.2.1 hb.2.2.2.1 hb.2.2.2.2 hfit hr.1 hlo hd (fun H1 locs1 hP1 hD1 hS1 => ?_)
  rw [← he1, cw_wd_set ho1] at hP1
  exact kk p e s m args below meth c H1 locs1 ls X hP1 hS1 h
/-- bytes copied between two arrays of the world -/
theorem cw_copyb {index : Nat} {sp dp n : Int32} {c0 : ClassId} {n0 n1 : Nat} (hl : Cond.methodLink (cw_y M).cls index arraycopyName ∈ cw_w M) (h2 : Cond.native arraycopyName ∈ cw_w M) (h3 : Cond.static arraycopyName ∈ cw_w M) (h4 : Cond.initialized "java/lang/System" ∈ cw_w M) (o o1 : Nat) (ho : o < cw_n w) (ho1 : o1 < cw_n w) (he : cw_e w o (I o) = .inl (c0, n0, .inl (I o))) (he1 : ∀ f, cw_e w o1 f = .inl (c0, n1, .inl f)) (t0 : Nat) (ht : (cw_t w)[t0]? = some (c0, .byte)) (hb : ¬ sp < 0 ∧ ¬ dp < 0 ∧ ¬ n < 0 ∧ sp.toNatClampNeg + n.toNatClampNeg ≤ n0 ∧ dp.toNatClampNeg + n.toNatClampNeg ≤ n1) (hfit : ∀ i : Nat, i < n.toNatClampNeg → fits .byte (.int (I o (sp.toNatClampNeg + i))) = true) (hr : 1 ≤ cw_fr M ∧ (st.map fun v => v.category).sum + 18 ≤ cw_lo M) (hd : decode (cw_c M) pc = .ok (.invokestatic index, 3)) (kk : cw_B w w0 M Z mc ms uc us (cw_up I o1 (va_cpy (I o) (I o1) sp.toNatClampNeg dp.toNatClampNeg n.toNatClampNeg)) (pc + 3) L st) : cw_B w w0 M Z mc ms uc us I pc L (.int n :: .int dp :: .ref (cw_a w o1) :: .int sp :: .ref (cw_a w o) :: st) := by
  intro p e s m args below meth c H locs ls X hP hS h
  have hlo : (st.map fun v => v.category).sum + (nativeFrameWords "java/lang/System" "arraycopy" 5 + 11) ≤ (cw_R M mc ms).locals := by
    have h18 : nativeFrameWords "java/lang/System" "arraycopy" 5 + 11 = 18 := by decide +kernel
    rw [h18]
    exact hr.2
  refine va_copyi X.1.1 X.1.2.1 (X.1.2.2.1.trans h.1.symm) X.1.2.2.2.1 (X.1.2.2.2.2 _ hl) (X.1.2.2.2.2 _ h2) (X.1.2.2.2.2 _ h3) (X.1.2.2.2.2 _ h4) X.2.2.2.1 hP (cw_XD X) hS o o1 t0 t0 (by rw [cw_wd_get ho, he]) (by rw [cw_wd_get ho1, he1]) ht ht rfl hb.1 hb.2.1 hb.2.2.1 hb.2.2.2.1 hb.2.2.2.2 hfit hr.1 hlo hd (fun H1 locs1 hP1 hD1 hS1 => ?_)
  rw [← he1, cw_wd_set ho1] at hP1
  exact kk p e s m args below meth c H1 locs1 ls X hP1 hS1 h
/-- Object's constructor -/
theorem cw_objI {a index : Nat} (hl : Cond.methodLink (cw_y M).cls index Lib.objectInit ∈ cw_w M) (h2 : Cond.instanceMethod Lib.objectInit ∈ cw_w M) (h3 : Cond.code Lib.objectInit ⟨#[0xb1]⟩ 1 none ∈ cw_w M) (hr : 1 ≤ cw_fr M ∧ (st.map fun v => v.category).sum + 12 ≤ cw_lo M) (hd : decode (cw_c M) pc = .ok (.invokespecial index, 3)) (kk : cw_B w w0 M Z mc ms uc us I (pc + 3) L st) : cw_B w w0 M Z mc ms uc us I pc L (.ref a :: st) :=
  fun p e s m args below meth c H locs ls X hP hS h => W.objInit X.1.1 X.1.2.1 X.1.2.2.2.1 (X.1.2.2.2.2 _ hl) (X.1.2.2.2.2 _ h2) (X.1.2.2.2.2 _ h3) rfl (h.1.trans X.1.2.2.1.symm) rfl hd hr.1 (by show 2 * 0 + _ + 12 ≤ cw_lo M; have := hr.2; omega) (kk p e s m args below meth c H locs ls X hP hS h)
/-- a cell behind the others -/
theorem cw_extW {w2 : cw_G} {q : Nat} {E f : _} (hx : cw_ext w w2 q E) : cw_W w2 (cw_up I (cw_n w) f) = cw_W w I ++ [(q, E f)] := by
  obtain ⟨-, -, -, e4, e5, e6, e7, e8, -⟩ := hx
  show (List.range (cw_n w2)).map (fun k => (cw_a w2 k, cw_e w2 k (cw_up I (cw_n w) f k))) = (List.range (cw_n w)).map (fun k => (cw_a w k, cw_e w k (I k))) ++ [(q, E f)]
  rw [e4, List.range_succ, List.map_append]
  congr 1
  · refine List.map_congr_left (fun k hk => ?_)
    have h := List.mem_range.mp hk
    rw [e5 k h, e6 k h]
    have e : cw_up I (cw_n w) f k = I k := by
      unfold cw_up
      rw [if_neg (by omega)]
    rw [e]
  · show [(cw_a w2 (cw_n w), cw_e w2 (cw_n w) (cw_up I (cw_n w) f (cw_n w)))] = _
    have e : cw_up I (cw_n w) f (cw_n w) = f := by
      unfold cw_up
      rw [if_pos rfl]
    rw [e7, e8, e]
/-- a world whose cells are known to be apart, and of the kind -/
theorem cw_XofD {w2 : cw_G} {I2 : cw_M} {p : Program} {s : State} {m : MethodId} {args : Array Value} {meth : Method} {c : Code} {u v : Nat} (he : cw_eqv w w2) (hu : u ≤ mc ∧ v ≤ ms) (X : cw_X w w0 M mc ms uc us p s m args meth c) (hD : va_D (cw_own w0 s.heap.size) (cw_W w2 I2)) : cw_X w2 w0 M mc ms u v p s m args meth c := by
  obtain ⟨g1, g2, g3, g4⟩ := he
  refine ⟨X.1, X.2.1, X.2.2.1, by rw [g2, g3]; exact X.2.2.2.1, fun i j hi hj hij => hD.1 i j _ _ (cw_wd_get hi) (cw_wd_get hj) hij, by rw [g4]; exact X.2.2.2.2.2.1, by rw [g4]; exact X.2.2.2.2.2.2.1, X.2.2.2.2.2.2.2.1, fun k hk => hD.2 k _ (cw_wd_get hk), hu⟩
/-- a new object -/
theorem cw_newo {C : String} {T : u_T} {N ci index : Nat} {fs : List Value} {E : (Nat → Int32) → va_E} {w' : Nat → cw_G} (hin : ∀ x ∈ u_ws C T N, x ∈ cw_w M) (ty : Nat → FieldType) (hty : ∀ k, k < N → parseFieldDescriptor (T k).2.2.1 = some (ty k)) (h1 : Cond.classLink (cw_y M).cls index C ∈ cw_w M) (h2 : Cond.instantiable C N ∈ cw_w M) (h3 : Cond.initialized C ∈ cw_w M) (hc : vwCl[ci]? = some (C, T, N)) (hfs : ∀ j, j < N → defaultValue (ty j) = vp_V fs j) (hx : ∀ q, cw_ext w (w' q) q E) (hE : E (fun _ => 0) = .inr (ci, fs)) (hu : uc + 1 ≤ mc ∧ us + N ≤ ms) (hd : decode (cw_c M) pc = .ok (.new index, 3)) (kk : ∀ q : Nat, cw_B (w' q) w0 M Z mc ms (uc + 1) (us + N) (cw_up I (cw_n w) (fun _ => 0)) (pc + 3) L (.ref q :: st)) : cw_B w w0 M Z mc ms uc us I pc L st := by
  intro p e s m args below meth c H locs ls X hP hS h
  refine va_new X.1.1 X.1.2.1 X.1.2.2.2.2 hin ty hty X.1.2.2.2.1 (X.1.2.2.2.2 _ h1) (X.1.2.2.2.2 _ h2) (X.1.2.2.2.2 _ h3) X.2.2.2.1 hP (cw_XD X) hS (fun q hq => Or.inr hq) hc hfs hu.1 hu.2 hd (fun q H1 hP1 hD1 hS1 => ?_)
  obtain ⟨g1, g2, g3, g4, -, -, -, -, g9⟩ := id (hx q)
  rw [← hE, ← cw_extW (hx q)] at hP1 hD1
  have h9 := kk q p e s m args below meth c H1 locs ls (cw_XofD ⟨g1, g2, g3, g9⟩ hu X hD1) (by rw [g2]; exact hP1) hS1 h
  rw [g1] at h9
  exact h9
/-- an array's clone -/
theorem cw_clone {ad : String} {index n : Nat} {cA : ClassId} {w' : Nat → cw_G} (hx : ∀ q, cw_ext w (w' q) q (fun f => .inl (cA, n, .inl f))) (h1 : Cond.methodLink (cw_y M).cls index ⟨ad, "clone", "()Ljava/lang/Object;"⟩ ∈ cw_w M) (h2 : Cond.sameMethod ad "java/lang/Object" "clone" "()Ljava/lang/Object;" ∈ cw_w M) (h3 : Cond.native ⟨"java/lang/Object", "clone", "()Ljava/lang/Object;"⟩ ∈ cw_w M) (h4 : Cond.instanceMethod ⟨"java/lang/Object", "clone", "()Ljava/lang/Object;"⟩ ∈ cw_w M) (h5 : Cond.selects ad ⟨ad, "clone", "()Ljava/lang/Object;"⟩ ⟨"java/lang/Object", "clone", "()Ljava/lang/Object;"⟩ ∈ cw_w M) (hF : ∀ (A : Nat → Prop) (U : State) (H : Heap), cw_f w A U H → va_Nw (.castable ad "java/lang/Cloneable") U) (o : Nat) (ho : o < cw_n w) (he : cw_e w o (I o) = .inl (cA, n, .inl (I o))) (t0 : Nat) (ht : (cw_t w)[t0]? = some (cA, .byte)) (hnm : ad = "[" ++ FieldType.byte.toString) (hfit : ∀ i, i < n → fits .byte (.int (I o i)) = true) (hr : 1 ≤ cw_fr M ∧ (st.map fun v => v.category).sum + 14 ≤ cw_lo M) (hu : uc + 1 ≤ mc ∧ us + n ≤ ms) (hd : decode (cw_c M) pc = .ok (.invokevirtual index, 3)) (kk : ∀ q : Nat, cw_B (w' q) w0 M Z mc ms (uc + 1) (us + n) (cw_up I (cw_n w) (I o)) (pc + 3) L (.ref q :: st)) : cw_B w w0 M Z mc ms uc us I pc L (.ref (cw_a w o) :: st) := by
  intro p e s m args below meth c H locs ls X hP hS h
  have hn9 : s.vm.findClass ad = some cA := by
    rw [hnm]
    exact (X.2.2.2.1.2 t0 _ ht).2
  refine va_clone X.1.1 X.1.2.1 (X.1.2.2.1.trans h.1.symm) X.1.2.2.2.1 (X.1.2.2.2.2 _ h1) (X.1.2.2.2.2 _ h2) (X.1.2.2.2.2 _ h3) (X.1.2.2.2.2 _ h4) (X.1.2.2.2.2 _ h5) (hF _ _ _ X.2.2.2.2.2.1) X.2.2.2.1 hP (cw_XD X) hS (fun q hq => Or.inr hq) o t0 (by rw [cw_wd_get ho, he]) ht hn9 (fun i v hv => ?_) hr.1 hr.2 hu.1 hu.2 hd (fun q H1 _ hP1 hD1 hS1 => ?_)
  · rw [vp_cell_i] at hv
    have hi : i < n := by
      have h9 := (Array.getElem?_eq_some_iff.mp hv).1
      rw [arrV_size] at h9
      exact h9
    rw [arrV_read _ _ hi] at hv
    cases hv
    exact hfit i hi
  · obtain ⟨g1, g2, g3, g4, -, -, -, -, g9⟩ := id (hx q)
    have hP2 : va_P (cw_d w) vwCl (cw_W (w' q) (cw_up I (cw_n w) (I o))) H1 := by rw [cw_extW (hx q)]; exact hP1
    have hD2 : va_D (cw_own w0 s.heap.size) (cw_W (w' q) (cw_up I (cw_n w) (I o))) := by rw [cw_extW (hx q)]; exact hD1
    have h9 := kk q p e s m args below meth c H1 locs ls (cw_XofD ⟨g1, g2, g3, g9⟩ hu X hD2) (by rw [g2]; exact hP2) hS1 h
    rw [g1] at h9
    exact h9
theorem cw_castA {nm : String} {index : Nat} {cA : ClassId} {x : vp_A} (hl : Cond.classLink (cw_y M).cls index nm ∈ cw_w M) (o : Nat) (ho : o < cw_n w) (he : cw_e w o (I o) = .inl (cA, x)) (t0 : Nat) (ht : (cw_t w)[t0]? = some (cA, .byte)) (hnm : nm = "[" ++ FieldType.byte.toString) (hd : decode (cw_c M) pc = .ok (.checkcast index, 3)) (kk : cw_B w w0 M Z mc ms uc us I (pc + 3) L (.ref (cw_a w o) :: st)) : cw_B w w0 M Z mc ms uc us I pc L (.ref (cw_a w o) :: st) :=
  fun p e s m args below meth c H locs ls X hP hS h => va_castA X.1.1 X.1.2.1 X.1.2.2.2.1 (X.1.2.2.2.2 _ hl) hP o (by rw [cw_wd_get ho, he]) (by rw [hnm]; exact (X.2.2.2.1.2 t0 _ ht).2) hd (kk p e s m args below meth c H locs ls X hP hS h)
end SBR
