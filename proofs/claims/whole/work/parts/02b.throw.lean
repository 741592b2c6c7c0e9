/-! A method that throws at its arguments: its contract (one cell of six slots is new), its rows. -/
def cw_XC (w : cw_G) (E : String) (I2 : cw_M) : String → State → State → Prop := fun E9 st t => E9 = E ∧ va_P (cw_d w) vwCl (cw_W w I2) t.heap ∧ va_F (cw_own w st.heap.size) st t
def cw_Zx (w : cw_G) (E : String) (I2 : cw_M) : cw_Zt := fun below args s => vx_MQ below (fun _ _ _ _ => False) (cw_XC w E I2) args s 1 6 (cw_own w s.heap.size)
/-- THE CONTRACT OF A THROW: called with 'as' where the ints are I it throws an E, and the ints are I2 -/
def cw_T (w : cw_G) (M : cw_Me) (as : List Value) (I : cw_M) (E : String) (I2 : cw_M) : Prop :=
  ∀ sz : Nat, vx_Met (cw_l w) (cw_y M) (cw_w M) (cw_R M 1 6) (cw_Pc w as I sz) (fun _ _ _ _ => False) (cw_XC w E I2) 1 6 (cw_own w sz)
/-- what a throw needs of what nobody writes: two statics of Throwable, its text, the words that are not the method's own -/
def cw_Ft (F : cw_F) (own : String) (ic : Nat) (cls : String) (names : List String) (k : Nat) (tx : String) : Prop := ∀ (A : Nat → Prop) (U : State) (H : Heap), F A U H → vx_Zq Bundle.tN "UNASSIGNED_STACK" Bundle.steD A U H ∧ vx_Zq Bundle.tN "SUPPRESSED_SENTINEL" Bundle.listD A U H ∧ (∃ a : Nat, vk_R own k tx a U) ∧ ∀ x ∈ (vx_atS own ic cls names).filter (fun w => !goodWord w), va_Nw x U
theorem cw_Ft.at {F : cw_F} {own cls : String} {names : List String} {ic ik k : Nat} {tx : String} (h : cw_Ft F own ic cls names k tx) {A : Nat → Prop} {s : State} {args : Array Value} (hf : F A s s.heap) (h1 : ∀ x ∈ (vx_atS own ic cls names).filter goodWord, x.before args s = true) (hgood : ∀ x ∈ Cond.classLink own ik cls :: Cond.initialized cls :: vx_atS own ic cls names, vx_ot x = true) : ∀ x ∈ vx_atS own ic cls names, x.before args s = true := by
  refine vx_hat h1 (fun _ q => q) (fun x hx => ?_)
  obtain ⟨hm, hn⟩ := List.mem_filter.mp hx
  have hg := hgood x (List.mem_cons_of_mem _ (List.mem_cons_of_mem _ hm))
  refine va_Nw.use ?_ ((h _ _ _ hf).2.2.2 x hx)
  simp only [vx_ot, Bool.or_eq_true] at hg
  rcases hg with q | q
  · exact q
  · rw [q] at hn
    cases hn
theorem cw_tentry {w : cw_G} {M : cw_Me} {n : Nat} {as : List Value} {I I2 : cw_M} {E : String} (ho : cw_ok M n) (hl : (lg_sl as).length ≤ cw_k M) (k : cw_B w M (cw_Zx w E I2) 1 6 I 0 (lv_args 0 as) []) : cw_T w M as I E I2 := by
  intro sz
  obtain ⟨hy, ⟨ws', hw⟩, -⟩ := ho
  refine vx_ofW (cc := cw_c M) (maxL := cw_k M) (ret := cw_r M) hy hw ?_
  intro p e s m args below meth c s₁ B hml htab hv
  obtain ⟨rfl, hsz, hP, hK, hi, hf, hk⟩ := hv
  subst hsz
  have hx := B.exec
  have hb := B.bytes
  have hr := B.returns
  have hts := atoms_spec (ws := cw_w M) B.pre
  have hown : s.vm.findClass (cw_y M).cls = some m.cls := findClass_of_methodNamed B.named
  have hlocks := B.notSynchronized
  have hl := lv_entry as (n := cw_k M) hl
  rw [lg_entry_eq]
  generalize (lg_sl as ++ List.replicate (cw_k M - (lg_sl as).length) Slot.unset).toArray = ls at hl ⊢
  exact k p e s m _ below meth c s.heap [] ls ⟨⟨hx, hb, hml, hown, hts⟩, hr, hlocks, hK, hi, hf, hk, htab⟩ hP va_S.rf hl
section CWX
variable {w : cw_G} {M : cw_Me} {Z : cw_Zt} {mc ms : Nat} {I : cw_M} {pc : Nat} {L L' : List (Nat × Value)} {st stk : List Value}
theorem cw_throwS {cls text : String} {names : List String} {ik is ic : Nat} {E : String} {I2 : cw_M} (hl : (cw_l w).stackTraces = false) (hF : cw_Ft (cw_f w) (cw_y M).cls ic cls names is text)
    (hcls : Bundle.fit cls = true) (hnames : ∀ n ∈ names, Bundle.fit n = true) (hk : Cond.classLink (cw_y M).cls ik cls ∈ cw_w M) (hini : Cond.initialized cls ∈ cw_w M) (hat : ∀ x ∈ (vx_atS (cw_y M).cls ic cls names).filter goodWord, x ∈ cw_w M)
    (hgood : ∀ x ∈ Cond.classLink (cw_y M).cls ik cls :: Cond.initialized cls :: vx_atS (cw_y M).cls ic cls names, vx_ot x = true)
    (d0 : decode (cw_c M) pc = .ok (.new ik, 3)) (d3 : decode (cw_c M) (pc + 3) = .ok (.dup, 1)) (d4 : decode (cw_c M) (pc + 4) = .ok (.ldc is, 2)) (d6 : decode (cw_c M) (pc + 6) = .ok (.invokespecial ic, 3)) (d9 : decode (cw_c M) (pc + 9) = .ok (.athrow, 1))
    (hr : names.length + 3 < cw_fr M ∧ (st.map fun v => v.category).sum + (13 * (names.length + 1) + 43) ≤ cw_lo M) (h : E = cls ∧ I2 = I) : cw_B w M (cw_Zx w E I2) 1 6 I pc L st := by
  obtain ⟨rfl, rfl⟩ := h
  intro p e s m args below meth c H locs ls X hP hS hl9
  obtain ⟨hU, hN, ⟨sa, hsa⟩, -⟩ := hF _ _ _ X.2.2.2.2.2.1
  refine vx_throwS X.1.1 X.1.2.1 hl X.1.2.2.2.1 hcls hnames (X.1.2.2.2.2 _ hk) (X.1.2.2.2.2 _ hini) hsa (hF.at X.2.2.2.2.2.1 (fun x hx => X.1.2.2.2.2 _ (hat x hx)) hgood) hgood hU hN hS (hl9.1.trans X.1.2.2.1.symm) d0 d3 d4 d6 d9 (fun x hx => (X.2.2.2.2.2.2.2 x hx).elim) hr.1 hr.2 (Nat.le_refl 1) (Nat.le_refl 6) X.2.2.1 (fun t hvm hz hk9 => ⟨rfl, hP.kept fun k q hq => hk9 _ (hP k q hq).lt, ⟨Nat.le_trans hS.1 hz, fun q h1 h2 => by rw [hk9 q (Nat.lt_of_lt_of_le h1 hS.1)]; exact hS.2.1 q h1 h2⟩⟩) hS.2.2 (Nat.le_refl 1) (Nat.le_refl 6)
theorem cw_throwSW {cls text : String} {names : List String} {ik is ic : Nat} {E : String} {I2 : cw_M} (hl : (cw_l w).stackTraces = false) (hF : cw_Ft (cw_f w) (cw_y M).cls ic cls names is text)
    (hcls : Bundle.fit cls = true) (hnames : ∀ n ∈ names, Bundle.fit n = true) (hk : Cond.classLink (cw_y M).cls ik cls ∈ cw_w M) (hini : Cond.initialized cls ∈ cw_w M) (hat : ∀ x ∈ (vx_atS (cw_y M).cls ic cls names).filter goodWord, x ∈ cw_w M)
    (hgood : ∀ x ∈ Cond.classLink (cw_y M).cls ik cls :: Cond.initialized cls :: vx_atS (cw_y M).cls ic cls names, vx_ot x = true)
    (d0 : decode (cw_c M) pc = .ok (.new ik, 3)) (d3 : decode (cw_c M) (pc + 3) = .ok (.dup, 1)) (d4 : decode (cw_c M) (pc + 4) = .ok (.ldc_w is, 3)) (d6 : decode (cw_c M) (pc + 7) = .ok (.invokespecial ic, 3)) (d9 : decode (cw_c M) (pc + 10) = .ok (.athrow, 1))
    (hr : names.length + 3 < cw_fr M ∧ (st.map fun v => v.category).sum + (13 * (names.length + 1) + 43) ≤ cw_lo M) (h : E = cls ∧ I2 = I) : cw_B w M (cw_Zx w E I2) 1 6 I pc L st := by
  obtain ⟨rfl, rfl⟩ := h
  intro p e s m args below meth c H locs ls X hP hS hl9
  obtain ⟨hU, hN, ⟨sa, hsa⟩, -⟩ := hF _ _ _ X.2.2.2.2.2.1
  refine vx_throwSW X.1.1 X.1.2.1 hl X.1.2.2.2.1 hcls hnames (X.1.2.2.2.2 _ hk) (X.1.2.2.2.2 _ hini) hsa (hF.at X.2.2.2.2.2.1 (fun x hx => X.1.2.2.2.2 _ (hat x hx)) hgood) hgood hU hN hS (hl9.1.trans X.1.2.2.1.symm) d0 d3 d4 d6 d9 (fun x hx => (X.2.2.2.2.2.2.2 x hx).elim) hr.1 hr.2 (Nat.le_refl 1) (Nat.le_refl 6) X.2.2.1 (fun t hvm hz hk9 => ⟨rfl, hP.kept fun k q hq => hk9 _ (hP k q hq).lt, ⟨Nat.le_trans hS.1 hz, fun q h1 h2 => by rw [hk9 q (Nat.lt_of_lt_of_le h1 hS.1)]; exact hS.2.1 q h1 h2⟩⟩) hS.2.2 (Nat.le_refl 1) (Nat.le_refl 6)
/-- a callee that throws: nothing here catches it -/
theorem cw_callX {o : Nat} {M2 : cw_Me} {As : List Value} {E E1 : String} {I2 I1 : cw_M} {index n2 ci : Nat} {fs : List Value} {T : u_T} {N : Nat} (hC : cw_T w M2 (.ref (cw_a w o) :: As) I E1 I1) (hk : cw_ok M2 n2) (hn : As.length = n2) (hG : GoodIn (cw_w M) (wsV (cw_y M).cls index (cw_y M2).cls (cw_y M2) (cw_w M2))) (hR : cw_fr M2 + 1 ≤ cw_fr M ∧ 8 + (cw_k M2 + 11) + cw_lo M2 ≤ cw_lo M) (ho : o < cw_n w) (he : cw_e w o (I o) = .inr (ci, fs)) (hc : vwCl[ci]? = some ((cw_y M2).cls, T, N)) (hst : stk = As.reverse ++ .ref (cw_a w o) :: st) (hW : (st.map fun v => v.category).sum ≤ 8) (hd : decode (cw_c M) pc = .ok (.invokevirtual index, 3))
    (h : E = E1 ∧ I2 = I1) : cw_B w M (cw_Zx w E I2) 1 6 I pc L stk := by
  obtain ⟨rfl, rfl⟩ := h
  intro p e s m args below meth c H locs ls X hP hS h
  obtain ⟨ws', hw⟩ := hk.2.1
  have hrun := vx_runV (p := p) (l := cw_l w) (e := e) (R := cw_R M 1 6) (s := s) (m := m) (args := args) (below := below) (meth := meth) (c := c) (H := H) (locs := locs) (cells := 0) (slots := 0) (As := As) (rest := st) (g := F0 m pc ls stk) (b := cw_a w o) X.1 (hC H.size)
    (cwV (R := cw_R M 1 6) (rm := cw_R M2 1 6) n2 X.1.2.2.2.2 hG hw rfl rfl ⟨rfl, hk.2.2⟩ hR)
    ⟨fun a U g mk q => by
      obtain ⟨q1, q2, q3, q4, q5, q6, q7⟩ := q
      exact ⟨q1, q2, q3, va_K.moved (u := U) (U := U.calling g mk a) (Vm.Alike.refl U.vm) q4, q5, q7.1 _ U _ _ (State.WarmedH.refl U) q6, q7⟩,
     va_recv X.2.2.2.1 hP hc (q0 := o) (by rw [cw_wd_get ho, he]),
     fun U hU hW => ⟨rfl, by rw [hU], by rw [hU]; exact hP, va_K.moved hW.alike X.2.2.2.1, X.2.2.2.2.1, by
      rw [hU]
      exact X.2.2.2.2.2.2.1.2.2 _ _ _ _ (X.2.2.2.2.2.2.1.2.1 _ _ _ _ (X.2.2.2.2.2.2.1.1 _ _ _ _ hW X.2.2.2.2.2.1) hS.1 (fun a h1 h2 => hS.2.1 a h1 h2)) (fun q hq => hq.elim Or.inl (fun h => Or.inr (Nat.le_trans hS.1 h))), X.2.2.2.2.2.2.1⟩⟩
    rfl hn h.1 hst (by show 2 * 0 + _ ≤ 8; omega) hd ⟨by show 0 + 1 ≤ 1; omega, by show 0 + 6 ≤ 6; omega⟩
  intro T0 hT X0
  rcases hrun T0 hT X0 with ⟨v, st₀, t, T', L1, h0, X', hL, e1, e2, hq, stp⟩ | ⟨q, st₀, t, T', L1, E9, ce, h0, X', hL, e1, e2, ⟨hE, hq2, hz, hk2⟩, hce, hcv, hcl, stp⟩
  · exact hq.elim
  · cases hE
    rw [h0] at hz hk2
    have hsub : ∀ q, cw_own w H.size q → cw_own w s.heap.size q := fun q hq => hq.elim Or.inl (fun h => Or.inr (Nat.le_trans hS.1 h))
    have hout := vx_out (p := p) (l := cw_l w) (e := e) (R := cw_R M 1 6) (s := s) (m := m) (args := args) (below := below) (meth := meth) (c := c) (H := T'.heap) (locs := locs ++ L1) (cells := 0 + 1) (slots := 0 + 6) (Qc := fun _ _ _ _ => False) (XC := cw_XC w E I2) (free := cw_own w s.heap.size) (pc := pc) (E := E) (ce := ce) (q := q) (mc := 1) (ms := 6) (ls := ls) (rest := st)
      (fun x hx => (X.2.2.2.2.2.2.2 x hx).elim) X.2.2.1 (by rw [e1]; exact hce) hcv hcl
      (fun t9 ht9 _ => ⟨rfl, by rw [ht9, e1]; exact hq2, ⟨by rw [ht9, e1]; exact Nat.le_trans hS.1 hz, fun q h1 h2 => by rw [ht9, e1, hk2 q (Nat.lt_of_lt_of_le h1 hS.1) (fun z => h2 (hsub q z))]; exact hS.2.1 q h1 h2⟩⟩)
      (fun z hz => by
        rcases List.mem_append.mp hz with h | h
        · exact hS.2.2 z h
        · exact hsub _ (hL z h)) (Nat.le_refl 1) (Nat.le_refl 6)
    obtain ⟨t2, a1, b1⟩ := hout T' rfl X'
    exact ⟨t2, stp.trans a1, b1⟩
end CWX
