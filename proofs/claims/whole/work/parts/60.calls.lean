/-! ## a world called from outside: rows at W, for the law and its wrappers -/
/-- what a caller knows of a world; A0: what may change since its start -/
def wk (w : cw_G) (A0 : Nat → Prop) (s : State) : Prop := va_K (cw_d w) vwCl (cw_t w) s ∧ cw_inj (cw_a w) (cw_n w) ∧ cw_f w A0 s s.heap ∧ cw_Fok (cw_f w) ∧ (∀ k, k < cw_n w → A0 (cw_a w k)) ∧ ∀ q, s.heap.size ≤ q → A0 q
theorem wk_own {w : cw_G} {A0 : Nat → Prop} {s : State} {H : Heap} (h : wk w A0 s) (hs : s.heap.size ≤ H.size) : ∀ q, cw_own w H.size q → A0 q := fun q hq => by
  rcases hq with ⟨k, hk, rfl⟩ | hq
  · exact h.2.2.2.2.1 k hk
  · exact h.2.2.2.2.2 q (Nat.le_trans hs hq)
/-- a world's cells stand when nothing of it changed -/
theorem wk_kept {w : cw_G} {I : cw_M} {H H1 : Heap} (h : va_P (cw_d w) vwCl (cw_W w I) H) (e : ∀ k, k < cw_n w → H1[cw_a w k]? = H[cw_a w k]?) : va_P (cw_d w) vwCl (cw_W w I) H1 := by
  intro k q hq
  have hk : k < cw_n w := by
    have := (List.getElem?_eq_some_iff.mp hq).1
    simpa [cw_wd] using this
  have h1 := h k q hq
  rw [cw_wd_get hk] at hq
  cases hq
  exact h1.kept (e k hk)
theorem wk_lt {w : cw_G} {I : cw_M} {H : Heap} (h : va_P (cw_d w) vwCl (cw_W w I) H) {k : Nat} (hk : k < cw_n w) : cw_a w k < H.size := (h k _ (cw_wd_get hk)).lt
section WLC
variable {p : Program} {e : Env} {R : Room} {s : State} {m : MethodId} {args : Array Value} {below : List Frame} {meth : Method} {c : Code} {H : Heap} {locs : List Loc} {cells slots : Nat} {Q : State → Prop} {pc nL : Nat} {ls : Array Slot} {Ts : List Cond} {own : String} {cc : ByteArray} {A0 : Nat → Prop} {w : cw_G} {st stk : List Value} {I : cw_M}
/-- the start that a contract asks for -/
theorem wk_pre (h : wk w A0 s) (hP : va_P (cw_d w) vwCl (cw_W w I) H) (hS : va_S A0 s.heap H locs) : ∀ U : State, U.heap = H → s.WarmedH U.vm → (U.heap.size = H.size ∧ va_P (cw_d w) vwCl (cw_W w I) U.heap ∧ va_K (cw_d w) vwCl (cw_t w) U ∧ cw_inj (cw_a w) (cw_n w) ∧ cw_f w (cw_own w H.size) U U.heap ∧ cw_Fok (cw_f w)) := fun U hU hW =>
  ⟨by rw [hU], by rw [hU]; exact hP, va_K.moved hW.alike h.1, h.2.1, by
    rw [hU]
    exact h.2.2.2.1.2.2 _ _ _ _ (h.2.2.2.1.2.1 _ _ _ _ (h.2.2.2.1.1 _ _ _ _ hW h.2.2.1) hS.1 (fun a h1 h2 => hS.2.1 a h1 h2)) (wk_own h hS.1), h.2.2.2.1⟩
theorem wk_blind {as : List Value} {sz : Nat} : ∀ (a : Array Value) (U : State) (g : JFrame) (mk : MethodId), cw_Pc w as I sz a U → cw_Pc w as I sz a (U.calling g mk a) := fun a U g mk q => by
  obtain ⟨q1, q2, q3, q4, q5, q6, q7⟩ := q
  exact ⟨q1, q2, q3, va_K.moved (u := U) (U := U.calling g mk a) (Vm.Alike.refl U.vm) q4, q5, q7.1 _ U _ _ (State.WarmedH.refl U) q6, q7⟩
/-- a call that returns -/
theorem wl_call {o : Nat} {M2 : cw_Me} {As : List Value} {r : Option Value} {I2 : cw_M} {index n2 ci : Nat} {fs : List Value} {T : u_T} {N : Nat} (S : CallFix p m c cc nL s args Ts own) (hw0 : wk w A0 s) (hC : cw_C w M2 (.ref (cw_a w o) :: As) I r I2) (hk : cw_ok M2 n2) (hn : As.length = n2) (hG : GoodIn Ts (wsV own index (cw_y M2).cls (cw_y M2) (cw_w M2))) (hR : cw_fr M2 + 1 ≤ R.frames ∧ 8 + (cw_k M2 + 11) + cw_lo M2 ≤ R.locals) (hcs : cells ≤ R.cells ∧ slots ≤ R.slots) (ho : o < cw_n w) (he : cw_e w o (I o) = .inr (ci, fs)) (hc : vwCl[ci]? = some ((cw_y M2).cls, T, N)) (hls : ls.size = nL) (hst : stk = As.reverse ++ .ref (cw_a w o) :: st) (hW : (st.map fun v => v.category).sum ≤ 8) (hd : decode cc pc = .ok (.invokevirtual index, 3)) (hP : va_P (cw_d w) vwCl (cw_W w I) H) (hS : va_S A0 s.heap H locs)
    (kk : ∀ (H1 : Heap) (locs1 : List Loc), va_P (cw_d w) vwCl (cw_W w I2) H1 → H.size ≤ H1.size → (∀ q, q < H.size → (∀ k, k < cw_n w → q ≠ cw_a w k) → H1[q]? = H[q]?) → va_S A0 s.heap H1 locs1 → W p (cw_l w) e R s m args below meth c H1 locs1 cells slots Q (F0 m (pc + 3) ls (r.toList ++ st))) : W p (cw_l w) e R s m args below meth c H locs cells slots Q (F0 m pc ls stk) := by
  obtain ⟨ws', hw⟩ := hk.2.1
  have hrun := va_runV (p := p) (l := cw_l w) (e := e) (R := R) (s := s) (m := m) (args := args) (below := below) (meth := meth) (c := c) (H := H) (locs := locs) (cells := cells) (slots := slots) (As := As) (rest := st) (g := F0 m pc ls stk) (b := cw_a w o) S (hC H.size)
    (cwV (R := R) (rm := cw_R M2 0 0) n2 S.2.2.2.2 hG hw rfl rfl ⟨rfl, hk.2.2⟩ hR)
    ⟨wk_blind, va_recv hw0.1 hP hc (q0 := o) (by rw [cw_wd_get ho, he]), fun U hU hW => ⟨rfl, wk_pre hw0 hP hS U hU hW⟩⟩
    rfl hn hls hst (by show 2 * 0 + _ ≤ 8; omega) hd ⟨by omega, by omega⟩
  intro T0 hT X0
  obtain ⟨v, st₀, t, T', L1, h0, X', hL, e1, e2, ⟨hv9, hq2, hz, hk2⟩, stp⟩ := hrun T0 hT X0
  cases hv9
  rw [h0] at hz hk2
  have hsub := wk_own hw0 hS.1
  obtain ⟨t2, a1, b1⟩ := kk T'.heap (locs ++ L1) (by rw [e1]; exact hq2) (by rw [e1]; exact hz) (fun q h1 h2 => by
      rw [e1]
      refine hk2 q h1 (fun z => ?_)
      rcases z with ⟨k, hk9, hq⟩ | z
      · exact h2 k hk9 hq
      · omega) ⟨Nat.le_trans hS.1 (by rw [e1]; exact hz), fun q h1 h2 => by rw [e1, hk2 q (Nat.lt_of_lt_of_le h1 hS.1) (fun z => h2 (hsub q z))]; exact hS.2.1 q h1 h2, fun q hq => by
      rcases List.mem_append.mp hq with h | h
      · exact hS.2.2 q h
      · exact hsub _ (hL q h)⟩ T' rfl X'
  exact ⟨t2, stp t2 a1, b1⟩
/-- a call that throws: q9 is thrown over the frame -/
theorem wl_callT {o : Nat} {M2 : cw_Me} {As : List Value} {E : String} {I2 : cw_M} {index n2 ci : Nat} {fs : List Value} {T : u_T} {N : Nat} (S : CallFix p m c cc nL s args Ts own) (hw0 : wk w A0 s) (hC : cw_T w M2 (.ref (cw_a w o) :: As) I E I2) (hk : cw_ok M2 n2) (hn : As.length = n2) (hG : GoodIn Ts (wsV own index (cw_y M2).cls (cw_y M2) (cw_w M2))) (hR : cw_fr M2 + 1 ≤ R.frames ∧ 8 + (cw_k M2 + 11) + cw_lo M2 ≤ R.locals) (hcs : cells + 1 ≤ R.cells ∧ slots + 6 ≤ R.slots) (ho : o < cw_n w) (he : cw_e w o (I o) = .inr (ci, fs)) (hc : vwCl[ci]? = some ((cw_y M2).cls, T, N)) (hls : ls.size = nL) (hst : stk = As.reverse ++ .ref (cw_a w o) :: st) (hW : (st.map fun v => v.category).sum ≤ 8) (hd : decode cc pc = .ok (.invokevirtual index, 3)) (hP : va_P (cw_d w) vwCl (cw_W w I) H) (hS : va_S A0 s.heap H locs)
    (kk : ∀ (H1 : Heap) (locs1 : List Loc) (q9 : Nat) (ce : Cell), va_P (cw_d w) vwCl (cw_W w I2) H1 → H.size ≤ H1.size → (∀ q, q < H.size → (∀ k, k < cw_n w → q ≠ cw_a w k) → H1[q]? = H[q]?) → va_S A0 s.heap H1 locs1 → H1[q9]? = some ce → ce.vm = .none → s.vm.findClass E = some ce.cls → vx_W p (cw_l w) e R s m args below meth c H1 locs1 (cells + 1) (slots + 6) Q (F0 m pc ls st) q9) : W p (cw_l w) e R s m args below meth c H locs cells slots Q (F0 m pc ls stk) := by
  obtain ⟨ws', hw⟩ := hk.2.1
  have hrun := vx_runV (p := p) (l := cw_l w) (e := e) (R := R) (s := s) (m := m) (args := args) (below := below) (meth := meth) (c := c) (H := H) (locs := locs) (cells := cells) (slots := slots) (As := As) (rest := st) (g := F0 m pc ls stk) (b := cw_a w o) S (hC H.size)
    (cwV (R := R) (rm := cw_R M2 1 6) n2 S.2.2.2.2 hG hw rfl rfl ⟨rfl, hk.2.2⟩ hR)
    ⟨wk_blind, va_recv hw0.1 hP hc (q0 := o) (by rw [cw_wd_get ho, he]), fun U hU hW => ⟨rfl, wk_pre hw0 hP hS U hU hW⟩⟩
    rfl hn hls hst (by show 2 * 0 + _ ≤ 8; omega) hd hcs
  intro T0 hT X0
  rcases hrun T0 hT X0 with ⟨v, st₀, t, T', L1, h0, X', hL, e1, e2, hq, stp⟩ | ⟨q, st₀, t, T', L1, E9, ce, h0, X', hL, e1, e2, ⟨hE, hq2, hz, hk2⟩, hce, hcv, hcl, stp⟩
  · exact hq.elim
  · cases hE
    rw [h0] at hz hk2
    have hsub := wk_own hw0 hS.1
    obtain ⟨t2, a1, b1⟩ := kk T'.heap (locs ++ L1) q ce (by rw [e1]; exact hq2) (by rw [e1]; exact hz) (fun q h1 h2 => by
      rw [e1]
      refine hk2 q h1 (fun z => ?_)
      rcases z with ⟨k, hk9, hq⟩ | z
      · exact h2 k hk9 hq
      · omega) ⟨Nat.le_trans hS.1 (by rw [e1]; exact hz), fun q h1 h2 => by rw [e1, hk2 q (Nat.lt_of_lt_of_le h1 hS.1) (fun z => h2 (hsub q z))]; exact hS.2.1 q h1 h2, fun q hq => by
      rcases List.mem_append.mp hq with h | h
      · exact hS.2.2 q h
      · exact hsub _ (hL q h)⟩ (by rw [e1]; exact hce) hcv hcl T' rfl X'
    exact ⟨t2, stp.trans a1, b1⟩
/-- out[0] = x; for a cell of longs that stands alone -/
theorem wl_last {D : va_G} {tys : List (ClassId × FieldType)} {a t0 : Nat} {cA : ClassId} {n : Nat} {f : Nat → Int64} {l : Launch} (hexec : p.tables.exec = Jvm.exec) (hb : c.code = cc) (hK : va_K D vwCl tys s) (hP : va_P D vwCl [(a, .inl (cA, n, .inr (.inl f)))] H) (hS : va_S A0 s.heap H locs) (hA : A0 a) (ht : tys[t0]? = some (cA, .long)) {i : Int32} {x : Int64} (hin : vp_in i n) (hdg : decode cc pc = .ok (.lastore, 1))
    (kk : ∀ (H1 : Heap) (locs1 : List Loc), va_P D vwCl [(a, .inl (cA, n, .inr (.inl (vp_updL f i.toNatClampNeg x))))] H1 → H1.size = H.size → (∀ q, q ≠ a → H1[q]? = H[q]?) → va_S A0 s.heap H1 locs1 → W p l e R s m args below meth c H1 locs1 cells slots Q (F0 m (pc + 1) ls st)) : W p l e R s m args below meth c H locs cells slots Q (F0 m pc ls (.long x :: .int i :: .ref a :: st)) := by
  refine W.last hexec hb (hP 0 _ rfl) ((hK.2 t0 _ ht).1 n (fun j => .long (f j))) (fun q => by cases q) (by show ¬ (i < 0 ∨ (arrV _ _ _).slots.size ≤ _); rw [arrV_size]; exact hin) rfl rfl hdg fun H1 e z oq => ?_
  refine kk H1 _ ?_ z oq (hS.put z oq hA)
  intro k q hq
  cases k with
  | zero =>
    cases hq
    show H1[a]? = some (vp_cell _ _)
    rw [e]
    rw [vp_cell_l, vp_cell_l, arrV_store]
    congr 2
    funext q
    by_cases hq : q = i.toNatClampNeg
    · subst hq
      simp [vp_updL, updV]
    · simp [vp_updL, updV, hq]
  | succ k => simp at hq
theorem wl_dast {D : va_G} {tys : List (ClassId × FieldType)} {a t0 : Nat} {cA : ClassId} {n : Nat} {f : Nat → UInt64} {l : Launch} (hexec : p.tables.exec = Jvm.exec) (hb : c.code = cc) (hK : va_K D vwCl tys s) (hP : va_P D vwCl [(a, .inl (cA, n, .inr (.inr (.inr (.inl f)))))] H) (hS : va_S A0 s.heap H locs) (hA : A0 a) (ht : tys[t0]? = some (cA, .double)) {i : Int32} {x : UInt64} (hin : vp_in i n) (hdg : decode cc pc = .ok (.dastore, 1))
    (kk : ∀ (H1 : Heap) (locs1 : List Loc), va_P D vwCl [(a, .inl (cA, n, .inr (.inr (.inr (.inl (fun k => if k = i.toNatClampNeg then x else f k))))))] H1 → H1.size = H.size → (∀ q, q ≠ a → H1[q]? = H[q]?) → va_S A0 s.heap H1 locs1 → W p l e R s m args below meth c H1 locs1 cells slots Q (F0 m (pc + 1) ls st)) : W p l e R s m args below meth c H locs cells slots Q (F0 m pc ls (.double x :: .int i :: .ref a :: st)) := by
  refine W.dast hexec hb (hP 0 _ rfl) ((hK.2 t0 _ ht).1 n (fun j => .double (f j))) (fun q => by cases q) (by show ¬ (i < 0 ∨ (arrV _ _ _).slots.size ≤ _); rw [arrV_size]; exact hin) rfl rfl hdg fun H1 e z oq => ?_
  refine kk H1 _ ?_ z oq (hS.put z oq hA)
  intro k q hq
  cases k with
  | zero =>
    cases hq
    show H1[a]? = some (vp_cell _ _)
    rw [e]
    rw [vp_cell_d, vp_cell_d, arrV_store]
    congr 2
    funext q
    by_cases hq : q = i.toNatClampNeg
    · subst hq
      simp [updV]
    · simp [updV, hq]
  | succ k => simp at hq
end WLC
