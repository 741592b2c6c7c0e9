/-! ## the law: both worlds, the two out cells, the script -/
abbrev la_A (s : State) : Nat → Prop := fun q => s.heap.size ≤ q
def la_N (K : cw_K) (qo qd : Nat) : Prop := (∀ k, k < 32 → cw_a (cc_w K) k ≠ qo ∧ cw_a (cc_w K) k ≠ qd ∧ ∀ j, j < 11 → cw_a (cc_w K) k ≠ cw_a (cr_w K) j) ∧ (∀ j, j < 11 → cw_a (cr_w K) j ≠ qo ∧ cw_a (cr_w K) j ≠ qd) ∧ qo ≠ qd
def la_H (K : cw_K) (I J : cw_M) (qo qd : Nat) (eo ed : va_E) (H : Heap) : Prop := va_P (cw_d (cc_w K)) vwCl (cw_W (cc_w K) I) H ∧ va_P (cw_d (cr_w K)) vwCl (cw_W (cr_w K) J) H ∧ va_P (cw_d (cc_w K)) vwCl [(qo, eo)] H ∧ va_P (cw_d (cc_w K)) vwCl [(qd, ed)] H
/-- what stands through the law's run -/
def la_X (K : cw_K) (p : Program) (s : State) (m : MethodId) (meth : Method) (c : Code) (b L : Nat) (xs : Nat → Int32) (qo qd : Nat) (cl cd : ClassId) : Prop :=
  CallFix p m c cL_law 10 s #[.ref b] lw_tbl RL ∧ meth.sig.returnType = ret ∧ meth.locks = false ∧ (va_X b L xs s s.heap ∧ b < s.heap.size) ∧ wk (cc_w K) (la_A s) s ∧ wk (cr_w K) (la_A s) s ∧ va_K (cw_d (cc_w K)) vwCl [(cl, .long)] s ∧ va_K (cw_d (cc_w K)) vwCl [(cd, .double)] s ∧ la_N K qo qd ∧ (s.heap.size ≤ qo ∧ s.heap.size ≤ qd) ∧ ck s
theorem la_one {D : va_G} {q : Nat} {en : va_E} {H H1 : Heap} (h : va_P D vwCl [(q, en)] H) (e : H1[q]? = H[q]?) : va_P D vwCl [(q, en)] H1 := by
  intro k x hx
  cases k with
  | zero =>
    cases hx
    exact (h 0 _ rfl).kept e
  | succ k => simp at hx
theorem la_lt1 {D : va_G} {q : Nat} {en : va_E} {H : Heap} (h : va_P D vwCl [(q, en)] H) : q < H.size := (h 0 _ rfl).lt
theorem wr_blind {K : cw_K} {I : cw_M} {q sz : Nat} {en : va_E} {ty : ClassId × FieldType} {as : List Value} : ∀ (a : Array Value) (U : State) (g : JFrame) (mk : MethodId), va_Pc as (wr_In K I q en ty sz) a U → va_Pc as (wr_In K I q en ty sz) a (U.calling g mk a) := fun a U g mk z => by
  obtain ⟨q1, q2, q3, q4, ⟨q5, q6, q7, q8, q9, q10⟩, q11, q12, q13⟩ := z
  exact ⟨q1, q2, q3, q4, ⟨va_K.moved (u := U) (U := U.calling g mk a) (Vm.Alike.refl U.vm) q5, q6, q8.1 _ U _ _ (State.WarmedH.refl U) q7, q8, q9, q10⟩, va_K.moved (u := U) (U := U.calling g mk a) (Vm.Alike.refl U.vm) q11, q12, ck.moved (s := U) (U := U.calling g mk a) q13 (State.WarmedH.refl U)⟩
section LAW
variable {K : cw_K} {p : Program} {e : Env} {s : State} {m : MethodId} {below : List Frame} {meth : Method} {c : Code} {H : Heap} {locs : List Loc} {cells slots pc : Nat} {ls : Array Slot} {Q : State → Prop} {I I2 J J2 : cw_M} {b L qo qd : Nat} {xs : Nat → Int32} {cl cd : ClassId} {eo ed : va_E} {st stk As : List Value} {M2 : cw_Me} {r : Option Value} {index n2 : Nat}
/-- the class called by the law -/
theorem la_callC (X : la_X K p s m meth c b L xs qo qd cl cd) (hH : la_H K I J qo qd eo ed H) (hS : va_S (la_A s) s.heap H locs) (hC : cw_C (cc_w K) M2 (.ref (cw_a (cc_w K) 0) :: As) I r I2) (hk : cw_ok M2 n2) (hn : As.length = n2) (hcls : (cw_y M2).cls = RX10) (hG : GoodIn lw_tbl (wsV RL index (cw_y M2).cls (cw_y M2) (cw_w M2))) (hR : cw_fr M2 + 1 ≤ 14 ∧ 8 + (cw_k M2 + 11) + cw_lo M2 ≤ 514) (hcs : cells ≤ 1088 ∧ slots ≤ 17909) (hls : ls.size = 10) (hst : stk = As.reverse ++ .ref (cw_a (cc_w K) 0) :: st) (hW : (st.map fun v => v.category).sum ≤ 8) (hd : decode cL_law pc = .ok (.invokevirtual index, 3))
    (kk : ∀ (H1 : Heap) (locs1 : List Loc), la_H K I2 J qo qd eo ed H1 → va_S (la_A s) s.heap H1 locs1 → W p K.1 e room_1 s m #[.ref b] below meth c H1 locs1 cells slots Q (F0 m (pc + 3) ls (r.toList ++ st))) : W p K.1 e room_1 s m #[.ref b] below meth c H locs cells slots Q (F0 m pc ls stk) := by
  obtain ⟨X1, -, -, -, XC, XR, -, -, ⟨N1, N2, N3⟩, -⟩ := X
  exact wl_call (w := cc_w K) (o := 0) (T := TX10) (N := 10) X1 XC hC hk hn hG hR hcs (show 0 < 32 by decide) rfl (by rw [hcls]; rfl) hls hst hW hd hH.1 hS (fun H1 locs1 hP1 hz1 hk1 hS1 => kk H1 locs1 ⟨hP1, wk_kept hH.2.1 (fun j hj => hk1 _ (wk_lt hH.2.1 hj) (fun k hk9 y => (N1 k hk9).2.2 j hj y.symm)), la_one hH.2.2.1 (hk1 _ (la_lt1 hH.2.2.1) (fun k hk9 y => (N1 k hk9).1 y.symm)), la_one hH.2.2.2 (hk1 _ (la_lt1 hH.2.2.2) (fun k hk9 y => (N1 k hk9).2.1 y.symm))⟩ hS1)
/-- the reference called by the law -/
theorem la_callR (X : la_X K p s m meth c b L xs qo qd cl cd) (hH : la_H K I J qo qd eo ed H) (hS : va_S (la_A s) s.heap H locs) (hC : cw_C (cr_w K) M2 (.ref (cw_a (cr_w K) 0) :: As) J r J2) (hk : cw_ok M2 n2) (hn : As.length = n2) (hcls : (cw_y M2).cls = RX11) (hG : GoodIn lw_tbl (wsV RL index (cw_y M2).cls (cw_y M2) (cw_w M2))) (hR : cw_fr M2 + 1 ≤ 14 ∧ 8 + (cw_k M2 + 11) + cw_lo M2 ≤ 514) (hcs : cells ≤ 1088 ∧ slots ≤ 17909) (hls : ls.size = 10) (hst : stk = As.reverse ++ .ref (cw_a (cr_w K) 0) :: st) (hW : (st.map fun v => v.category).sum ≤ 8) (hd : decode cL_law pc = .ok (.invokevirtual index, 3))
    (kk : ∀ (H1 : Heap) (locs1 : List Loc), la_H K I J2 qo qd eo ed H1 → va_S (la_A s) s.heap H1 locs1 → W p K.1 e room_1 s m #[.ref b] below meth c H1 locs1 cells slots Q (F0 m (pc + 3) ls (r.toList ++ st))) : W p K.1 e room_1 s m #[.ref b] below meth c H locs cells slots Q (F0 m pc ls stk) := by
  obtain ⟨X1, -, -, -, XC, XR, -, -, ⟨N1, N2, N3⟩, -⟩ := X
  exact wl_call (w := cr_w K) (o := 0) (T := TX11) (N := 20) X1 XR hC hk hn hG hR hcs (show 0 < 11 by decide) rfl (by rw [hcls]; rfl) hls hst hW hd hH.2.1 hS (fun H1 locs1 hP1 hz1 hk1 hS1 => kk H1 locs1 ⟨wk_kept hH.1 (fun k hk9 => hk1 _ (wk_lt hH.1 hk9) (fun j hj y => (N1 k hk9).2.2 j hj y)), hP1, la_one hH.2.2.1 (hk1 _ (la_lt1 hH.2.2.1) (fun j hj y => (N2 j hj).1 y.symm)), la_one hH.2.2.2 (hk1 _ (la_lt1 hH.2.2.2) (fun j hj y => (N2 j hj).2 y.symm))⟩ hS1)
/-- a wrapper called by the law: one cell of six slots may be new -/
theorem la_wr {q : Nat} {en en2 : va_E} {ty : ClassId × FieldType} {v : Int32} {hh : List (Nat × Nat × Nat × Nat)} (X : la_X K p s m meth c b L xs qo qd cl cd) (hP : va_P (cw_d (cc_w K)) vwCl (cw_W (cc_w K) I) H) (hO : va_P (cw_d (cc_w K)) vwCl [(q, en)] H) (hty : va_K (cw_d (cc_w K)) vwCl [ty] s) (hq : ∀ k, k < 32 → cw_a (cc_w K) k ≠ q) (hqA : s.heap.size ≤ q) (hS : va_S (la_A s) s.heap H locs) (hC : wr_C K M2 As I q en ty v I2 en2) (hw : ∃ ws', cw_w M2 = Cond.codeWith (cw_y M2) (cw_c M2) (cw_k M2) (cw_r M2) hh :: ws') (hy : (cw_y M2).cls ≠ "java/lang/invoke/MethodHandle" ∧ (cw_y M2).cls ≠ "java/lang/invoke/VarHandle" ∧ (parseMethodDescriptor (cw_y M2).desc).map (fun d => d.parameters.length) = some n2) (hn : As.length = n2) (hG : GoodIn lw_tbl (va_wsS RL index (cw_y M2) (cw_w M2))) (hR : cw_fr M2 + 1 ≤ 14 ∧ 8 + (cw_k M2 + 11) + cw_lo M2 ≤ 514) (hcs : cells + 1 ≤ 1088 ∧ slots + 6 ≤ 17909) (hls : ls.size = 10) (hst : stk = As.reverse ++ st) (hW : (st.map fun v => v.category).sum ≤ 8) (hd : decode cL_law pc = .ok (.invokestatic index, 3))
    (kk : ∀ (H1 : Heap) (locs1 : List Loc), va_P (cw_d (cc_w K)) vwCl (cw_W (cc_w K) I2) H1 → va_P (cw_d (cc_w K)) vwCl [(q, en2)] H1 → (∀ x, x < H.size → x ≠ q → (∀ k, k < 32 → x ≠ cw_a (cc_w K) k) → H1[x]? = H[x]?) → va_S (la_A s) s.heap H1 locs1 → W p K.1 e room_1 s m #[.ref b] below meth c H1 locs1 (cells + 1) (slots + 6) Q (F0 m (pc + 3) ls (.int v :: st))) : W p K.1 e room_1 s m #[.ref b] below meth c H locs cells slots Q (F0 m pc ls stk) := by
  obtain ⟨X1, -, -, -, XC, -, -, -, -, -, Xk⟩ := X
  obtain ⟨ws', hw⟩ := hw
  have hsub : ∀ x, wr_A K q H.size x → la_A s x := fun x hx => by
    rcases hx with ⟨k, hk, rfl⟩ | rfl | hx
    · exact XC.2.2.2.2.1 k hk
    · exact hqA
    · exact Nat.le_trans hS.1 hx
  have hrun := vx_runSW (p := p) (l := K.1) (e := e) (R := room_1) (s := s) (m := m) (args := #[.ref b]) (below := below) (meth := meth) (c := c) (H := H) (locs := locs) (cells := cells) (slots := slots) (As := As) (rest := st) (g := F0 m pc ls stk) X1 (hC H.size)
    (vx_cwSW (R := room_1) (rm := cw_R M2 1 6) n2 X1.2.2.2.2 hG hw rfl rfl hy hR)
    ⟨wr_blind, fun U hU hW => ⟨rfl, by rw [hU], by rw [hU]; exact hP, by rw [hU]; exact hO, ⟨va_K.moved hW.alike XC.1, XC.2.1, by
      rw [hU]
      exact XC.2.2.2.1.2.2 _ _ _ _ (XC.2.2.2.1.2.1 _ _ _ _ (XC.2.2.2.1.1 _ _ _ _ hW XC.2.2.1) hS.1 (fun a h1 h2 => hS.2.1 a h1 h2)) hsub, XC.2.2.2.1, fun k hk => Or.inl ⟨k, hk, rfl⟩, fun x hx => Or.inr (Or.inr (by rw [hU] at hx; exact hx))⟩, va_K.moved hW.alike hty, hq, ck.moved Xk hW⟩⟩
    rfl hn hls hst (by show 2 * 0 + _ ≤ 8; omega) hd hcs
  intro T0 hT X0
  obtain ⟨v9, st₀, t, T', L1, h0, X', hL, e1, e2, ⟨hv9, hq2, hq3, hz, hk2⟩, stp⟩ := hrun T0 hT X0
  cases hv9
  rw [h0] at hz hk2
  obtain ⟨t2, a1, b1⟩ := kk T'.heap (locs ++ L1) (by rw [e1]; exact hq2) (by rw [e1]; exact hq3) (fun x h1 h2 h3 => by
      rw [e1]
      refine hk2 x h1 (fun z => ?_)
      rcases z with ⟨k, hk9, hq9⟩ | z | z
      · exact h3 k hk9 hq9
      · exact h2 z
      · omega) ⟨Nat.le_trans hS.1 (by rw [e1]; exact hz), fun x h1 h2 => by rw [e1, hk2 x (Nat.lt_of_lt_of_le h1 hS.1) (fun z => h2 (hsub x z))]; exact hS.2.1 x h1 h2, fun x hx => by
      rcases List.mem_append.mp hx with h | h
      · exact hS.2.2 x h
      · exact hsub _ (hL x h)⟩ T' rfl X'
  exact ⟨t2, stp t2 a1, b1⟩
/-- a wrapper whose answer goes into the longs -/
theorem la_callW {f f2 : Nat → Int64} {v : Int32} {hh : List (Nat × Nat × Nat × Nat)} (X : la_X K p s m meth c b L xs qo qd cl cd) (hH : la_H K I J qo qd (lo cl f) ed H) (hS : va_S (la_A s) s.heap H locs) (hC : wr_C K M2 As I qo (lo cl f) (cl, .long) v I2 (lo cl f2)) (hw : ∃ ws', cw_w M2 = Cond.codeWith (cw_y M2) (cw_c M2) (cw_k M2) (cw_r M2) hh :: ws') (hy : (cw_y M2).cls ≠ "java/lang/invoke/MethodHandle" ∧ (cw_y M2).cls ≠ "java/lang/invoke/VarHandle" ∧ (parseMethodDescriptor (cw_y M2).desc).map (fun d => d.parameters.length) = some n2) (hn : As.length = n2) (hG : GoodIn lw_tbl (va_wsS RL index (cw_y M2) (cw_w M2))) (hR : cw_fr M2 + 1 ≤ 14 ∧ 8 + (cw_k M2 + 11) + cw_lo M2 ≤ 514) (hcs : cells + 1 ≤ 1088 ∧ slots + 6 ≤ 17909) (hls : ls.size = 10) (hst : stk = As.reverse ++ st) (hW : (st.map fun v => v.category).sum ≤ 8) (hd : decode cL_law pc = .ok (.invokestatic index, 3))
    (kk : ∀ (H1 : Heap) (locs1 : List Loc), la_H K I2 J qo qd (lo cl f2) ed H1 → va_S (la_A s) s.heap H1 locs1 → W p K.1 e room_1 s m #[.ref b] below meth c H1 locs1 (cells + 1) (slots + 6) Q (F0 m (pc + 3) ls (.int v :: st))) : W p K.1 e room_1 s m #[.ref b] below meth c H locs cells slots Q (F0 m pc ls stk) := by
  have N := X.2.2.2.2.2.2.2.2.1
  exact la_wr X hH.1 hH.2.2.1 X.2.2.2.2.2.2.1 (fun k hk => (N.1 k hk).1) X.2.2.2.2.2.2.2.2.2.1.1 hS hC hw hy hn hG hR hcs hls hst hW hd (fun H1 locs1 h1 h2 h3 h4 => kk H1 locs1 ⟨h1, wk_kept hH.2.1 (fun j hj => h3 _ (wk_lt hH.2.1 hj) (N.2.1 j hj).1 (fun k hk9 y => (N.1 k hk9).2.2 j hj y.symm)), h2, la_one hH.2.2.2 (h3 _ (la_lt1 hH.2.2.2) (fun y => N.2.2 y.symm) (fun k hk9 y => (N.1 k hk9).2.1 y.symm))⟩ h4)
/-- a wrapper whose answer goes into the doubles -/
theorem la_callD {f f2 : Nat → UInt64} {v : Int32} {hh : List (Nat × Nat × Nat × Nat)} (X : la_X K p s m meth c b L xs qo qd cl cd) (hH : la_H K I J qo qd eo (ld cd f) H) (hS : va_S (la_A s) s.heap H locs) (hC : wr_C K M2 As I qd (ld cd f) (cd, .double) v I2 (ld cd f2)) (hw : ∃ ws', cw_w M2 = Cond.codeWith (cw_y M2) (cw_c M2) (cw_k M2) (cw_r M2) hh :: ws') (hy : (cw_y M2).cls ≠ "java/lang/invoke/MethodHandle" ∧ (cw_y M2).cls ≠ "java/lang/invoke/VarHandle" ∧ (parseMethodDescriptor (cw_y M2).desc).map (fun d => d.parameters.length) = some n2) (hn : As.length = n2) (hG : GoodIn lw_tbl (va_wsS RL index (cw_y M2) (cw_w M2))) (hR : cw_fr M2 + 1 ≤ 14 ∧ 8 + (cw_k M2 + 11) + cw_lo M2 ≤ 514) (hcs : cells + 1 ≤ 1088 ∧ slots + 6 ≤ 17909) (hls : ls.size = 10) (hst : stk = As.reverse ++ st) (hW : (st.map fun v => v.category).sum ≤ 8) (hd : decode cL_law pc = .ok (.invokestatic index, 3))
    (kk : ∀ (H1 : Heap) (locs1 : List Loc), la_H K I2 J qo qd eo (ld cd f2) H1 → va_S (la_A s) s.heap H1 locs1 → W p K.1 e room_1 s m #[.ref b] below meth c H1 locs1 (cells + 1) (slots + 6) Q (F0 m (pc + 3) ls (.int v :: st))) : W p K.1 e room_1 s m #[.ref b] below meth c H locs cells slots Q (F0 m pc ls stk) := by
  have N := X.2.2.2.2.2.2.2.2.1
  exact la_wr X hH.1 hH.2.2.2 X.2.2.2.2.2.2.2.1 (fun k hk => (N.1 k hk).2.1) X.2.2.2.2.2.2.2.2.2.1.2 hS hC hw hy hn hG hR hcs hls hst hW hd (fun H1 locs1 h1 h2 h3 h4 => kk H1 locs1 ⟨h1, wk_kept hH.2.1 (fun j hj => h3 _ (wk_lt hH.2.1 hj) (N.2.1 j hj).2 (fun k hk9 y => (N.1 k hk9).2.2 j hj y.symm)), la_one hH.2.2.1 (h3 _ (la_lt1 hH.2.2.1) N.2.2 (fun k hk9 y => (N.1 k hk9).1 y.symm)), h2⟩ h4)
/-- aload_0, iload 5, iconst, iadd, iaload: an int of the script -/
theorem la_arg {n j : Nat} {z : Int} (X : la_X K p s m meth c b L xs qo qd cl cd) (hS : va_S (la_A s) s.heap H locs) (h0 : ls[0]? = some (.val (.ref b))) (h5 : ls[5]? = some (.val (.int (nI n)))) (hn : n + j < L) (hL : L ≤ 3072) (hz : Int32.ofInt z = nI j) (d0 : decode cL_law pc = .ok (.aload_n 0, 1)) (d1 : decode cL_law (pc + 1) = .ok (.iload 5, 2)) (d2 : decode cL_law (pc + 3) = .ok (.iconst z, 1)) (d3 : decode cL_law (pc + 4) = .ok (.iadd, 1)) (d4 : decode cL_law (pc + 5) = .ok (.iaload, 1))
    (kk : W p K.1 e room_1 s m #[.ref b] below meth c H locs cells slots Q (F0 m (pc + 6) ls (.int (xs (n + j)) :: st))) : W p K.1 e room_1 s m #[.ref b] below meth c H locs cells slots Q (F0 m pc ls st) := by
  have X1 := X.1
  refine lv_aload_n X1.1 X1.2.1 d0 rfl h0 ?_
  refine lv_iload X1.1 X1.2.1 d1 h5 ?_
  refine lv_iconst X1.1 X1.2.1 d2 hz ?_
  refine lv_iadd X1.1 X1.2.1 d3 ?_
  rw [nI_add]
  refine va_sld X1.1 X1.2.1 X.2.2.2.1.1 X.2.2.2.1.2 (A := la_A s) (by show ¬ s.heap.size ≤ b; have := X.2.2.2.1.2; omega) hS (vp_in_nI hn (by omega)) d4 ?_
  rw [nI_clamp (by omega)]
  exact kk
/-- the reference's 'thrown' -/
theorem la_thrown (X : la_X K p s m meth c b L xs qo qd cl cd) (hH : la_H K I J qo qd eo ed H) (hS : va_S (la_A s) s.heap H locs) (hcs : cells ≤ 1088 ∧ slots ≤ 17909) (hls : ls.size = 10) (hW : (st.map fun v => v.category).sum ≤ 8) (hd : decode cL_law pc = .ok (.invokevirtual 143, 3))
    (kk : ∀ (H1 : Heap) (locs1 : List Loc), la_H K I J qo qd eo ed H1 → va_S (la_A s) s.heap H1 locs1 → W p K.1 e room_1 s m #[.ref b] below meth c H1 locs1 cells slots Q (F0 m (pc + 3) ls (.int (J 0 9) :: st))) : W p K.1 e room_1 s m #[.ref b] below meth c H locs cells slots Q (F0 m pc ls (.ref (cw_a (cr_w K) 0) :: st)) :=
  la_callR (As := []) X hH hS (eX11_thrown_0 ⟨rfl, rfl⟩) okX11_thrown rfl rfl gT_X11_thrown ⟨Nat.le_of_ble_eq_true rfl, Nat.le_of_ble_eq_true rfl⟩ hcs hls rfl hW hd kk
end LAW
