/-! ## the model's constructor's tail at W (its ten cells are counted) -/
section WLR
variable {p : Program} {e : Env} {R : Room} {s : State} {m : MethodId} {args : Array Value} {below : List Frame} {meth : Method} {c : Code} {H : Heap} {locs : List Loc} {cells slots : Nat} {Q : State → Prop} {pc nL : Nat} {ls : Array Slot} {Ts : List Cond} {own : String} {cc : ByteArray} {A0 : Nat → Prop} {w : cw_G} {st stk : List Value} {I : cw_M}
theorem wl_D (h : wk w A0 s) : va_D A0 (cw_W w I) := (cw_D (sz := s.heap.size) h.2.1).weaken (fun k q _ hq => wk_own h (Nat.le_refl _) q.1 hq)
theorem wl_iast {i x : Int32} {cA : ClassId} {n : Nat} (S : CallFix p m c cc nL s args Ts own) (hw : wk w A0 s) (hP : va_P (cw_d w) vwCl (cw_W w I) H) (hS : va_S A0 s.heap H locs) (o : Nat) (ho : o < cw_n w) (he : ∀ f, cw_e w o f = .inl (cA, n, .inl f)) (t0 : Nat) (ht : (cw_t w)[t0]? = some (cA, .int)) (hd : decode cc pc = .ok (.iastore, 1)) (hin : vp_in i n)
    (kk : ∀ (H1 : Heap) (locs1 : List Loc), va_P (cw_d w) vwCl (cw_W w (cw_st I o i.toNatClampNeg x)) H1 → va_S A0 s.heap H1 locs1 → W p (cw_l w) e R s m args below meth c H1 locs1 cells slots Q (F0 m (pc + 1) ls st)) : W p (cw_l w) e R s m args below meth c H locs cells slots Q (F0 m pc ls (.int x :: .int i :: .ref (cw_a w o) :: st)) := by
  refine va_iast S.1 S.2.1 hw.1 hP (wl_D hw) hS o t0 (by rw [cw_wd_get ho, he]) ht hin hd (fun H1 locs1 hP1 hD1 hS1 => ?_)
  rw [← he, cw_wd_set ho] at hP1
  exact kk H1 locs1 hP1 hS1
theorem wl_putf {C : String} {T : u_T} {N ci index : Nat} {fs : List Value} {x : Int32} (S : CallFix p m c cc nL s args Ts own) (hw : wk w A0 s) (hP : va_P (cw_d w) vwCl (cw_W w I) H) (hS : va_S A0 s.heap H locs) (hin : ∀ x ∈ u_ws C T N, x ∈ Ts) (ty0 : Nat → FieldType) (hty : ∀ k, k < N → parseFieldDescriptor (T k).2.2.1 = some (ty0 k)) (hnm : ∀ a, a < N → ∀ b, b < N → a ≠ b → (T a).2.1 ≠ (T b).2.1) (o : Nat) (ho : o < cw_n w) (he : cw_e w o (I o) = .inr (ci, fs)) (hc : vwCl[ci]? = some (C, T, N)) (k : Nat) (hk : k < N) (hlink : Cond.fieldLink own index (T k).1 (T k).2.1 (T k).2.2.1 ∈ Ts) (hfin : (T k).2.2.2 = false) (ht : ty0 k = .int) (hl : k < fs.length) (he2 : cw_e w o (upd (I o) k x) = .inr (ci, fs.set k (.int x))) (hd : decode cc pc = .ok (.putfield index, 3))
    (kk : ∀ (H1 : Heap) (locs1 : List Loc), va_P (cw_d w) vwCl (cw_W w (cw_st I o k x)) H1 → va_S A0 s.heap H1 locs1 → W p (cw_l w) e R s m args below meth c H1 locs1 cells slots Q (F0 m (pc + 3) ls st)) : W p (cw_l w) e R s m args below meth c H locs cells slots Q (F0 m pc ls (.int x :: .ref (cw_a w o) :: st)) := by
  refine va_put S.1 S.2.1 S.2.2.2.2 hin ty0 hty hnm S.2.2.2.1 hw.1 hP (wl_D hw) hS o (by rw [cw_wd_get ho, he]) hc k hk (S.2.2.2.2 _ hlink) (fun _ h9 => h9) hfin (ty := .int) (by rw [hty k hk, ht]) rfl rfl hl hd (fun H1 locs1 hP1 hD1 hS1 => ?_)
  rw [← he2, cw_wd_set ho] at hP1
  exact kk H1 locs1 hP1 hS1
/-- a call on a cell that nobody writes -/
theorem wl_callK {b : Nat} {M2 : cw_Me} {As : List Value} {r : Option Value} {I2 : cw_M} {index n2 : Nat} (S : CallFix p m c cc nL s args Ts own) (hw0 : wk w A0 s) (hC : cw_C w M2 (.ref b :: As) I r I2) (hk : cw_ok M2 n2) (hn : As.length = n2) (hG : GoodIn Ts (wsV own index (cw_y M2).cls (cw_y M2) (cw_w M2))) (hR : cw_fr M2 + 1 ≤ R.frames ∧ 8 + (cw_k M2 + 11) + cw_lo M2 ≤ R.locals) (hcs : cells ≤ R.cells ∧ slots ≤ R.slots) (hF : va_O (cw_y M2).cls b A0 s s.heap) (hls : ls.size = nL) (hst : stk = As.reverse ++ .ref b :: st) (hW : (st.map fun v => v.category).sum ≤ 8) (hd : decode cc pc = .ok (.invokevirtual index, 3)) (hP : va_P (cw_d w) vwCl (cw_W w I) H) (hS : va_S A0 s.heap H locs)
    (kk : ∀ (H1 : Heap) (locs1 : List Loc), va_P (cw_d w) vwCl (cw_W w I2) H1 → va_S A0 s.heap H1 locs1 → W p (cw_l w) e R s m args below meth c H1 locs1 cells slots Q (F0 m (pc + 3) ls (r.toList ++ st))) : W p (cw_l w) e R s m args below meth c H locs cells slots Q (F0 m pc ls stk) := by
  obtain ⟨ws', hw⟩ := hk.2.1
  have hrun := va_runV (p := p) (l := cw_l w) (e := e) (R := R) (s := s) (m := m) (args := args) (below := below) (meth := meth) (c := c) (H := H) (locs := locs) (cells := cells) (slots := slots) (As := As) (rest := st) (g := F0 m pc ls stk) (b := b) S (hC H.size)
    (cwV (R := R) (rm := cw_R M2 0 0) n2 S.2.2.2.2 hG hw rfl rfl ⟨rfl, hk.2.2⟩ hR)
    ⟨wk_blind, (by
      obtain ⟨cell, a1, a2, a3, a4⟩ := hF
      exact ⟨cell, by rw [hS.2.1 b (Array.getElem?_eq_some_iff.mp a1).1 a4]; exact a1, a2, a3⟩), fun U hU hW => ⟨rfl, wk_pre hw0 hP hS U hU hW⟩⟩
    rfl hn hls hst (by show 2 * 0 + _ ≤ 8; omega) hd ⟨by omega, by omega⟩
  intro T0 hT X0
  obtain ⟨v, st₀, t, T', L1, h0, X', hL, e1, e2, ⟨hv9, hq2, hz, hk2⟩, stp⟩ := hrun T0 hT X0
  cases hv9
  rw [h0] at hz hk2
  have hsub := wk_own hw0 hS.1
  obtain ⟨t2, a1, b1⟩ := kk T'.heap (locs ++ L1) (by rw [e1]; exact hq2) ⟨Nat.le_trans hS.1 (by rw [e1]; exact hz), fun q h1 h2 => by rw [e1, hk2 q (Nat.lt_of_lt_of_le h1 hS.1) (fun z => h2 (hsub q z))]; exact hS.2.1 q h1 h2, fun q hq => by
      rcases List.mem_append.mp hq with h | h
      · exact hS.2.2 q h
      · exact hsub _ (hL q h)⟩ T' rfl X'
  exact ⟨t2, stp t2 a1, b1⟩
end WLR
