/-! ## the law's wrappers: a call of the class, its answer put into out, or its throw told by a number -/
theorem wr_gl {big ws : List Cond} {x : List Cond} (h : GoodIn big ws) : GoodIn (big ++ x) ws := fun w hw => ⟨List.mem_append_left _ (h w hw).1, (h w hw).2⟩
abbrev lo (cl : ClassId) (f : Nat → Int64) : va_E := .inl (cl, 1, .inr (.inl f))
abbrev ld (cd : ClassId) (f : Nat → UInt64) : va_E := .inl (cd, 1, .inr (.inr (.inr (.inl f))))
/-- what the catching of a throw asks of the classes -/
def ck (U : State) : Prop := (∀ E ∈ ["java/lang/IndexOutOfBoundsException", "java/lang/IllegalArgumentException", "java/lang/IllegalStateException", "java/util/NoSuchElementException"], va_Nw (.castable E E) U) ∧ ∀ E ∈ ["java/lang/IllegalArgumentException", "java/lang/IllegalStateException", "java/util/NoSuchElementException"], va_Nc E "java/lang/IndexOutOfBoundsException" U
theorem ck.moved {s U : State} (h : ck s) (hW : s.WarmedH U.vm) : ck U := ⟨fun E hE => va_Nw.warmC hW (h.1 E hE), fun E hE => va_Nc.moved hW.alike (h.2 E hE)⟩
def wr_A (K : cw_K) (qo sz : Nat) : Nat → Prop := fun q => (∃ k, k < 32 ∧ q = cw_a (cc_w K) k) ∨ q = qo ∨ sz ≤ q
/-- where a wrapper may be called -/
def wr_In (K : cw_K) (I : cw_M) (qo : Nat) (en : va_E) (ty : ClassId × FieldType) (sz : Nat) (U : State) : Prop := U.heap.size = sz ∧ va_P (cw_d (cc_w K)) vwCl (cw_W (cc_w K) I) U.heap ∧ va_P (cw_d (cc_w K)) vwCl [(qo, en)] U.heap ∧ wk (cc_w K) (wr_A K qo sz) U ∧ va_K (cw_d (cc_w K)) vwCl [ty] U ∧ (∀ k, k < 32 → cw_a (cc_w K) k ≠ qo) ∧ ck U
def wr_Q (K : cw_K) (r : Int32) (I2 : cw_M) (qo : Nat) (en2 : va_E) (sz : Nat) : Array Value → State → Outcome → State → Prop := fun _ st oc t => oc = .returned (some (.int r)) ∧ va_P (cw_d (cc_w K)) vwCl (cw_W (cc_w K) I2) t.heap ∧ va_P (cw_d (cc_w K)) vwCl [(qo, en2)] t.heap ∧ va_F (wr_A K qo sz) st t
/-- THE CONTRACT OF A WRAPPER: from the ints I it answers r, the ints are I2, the cell qo holds en2 -/
def wr_C (K : cw_K) (M : cw_Me) (as : List Value) (I : cw_M) (qo : Nat) (en : va_E) (ty : ClassId × FieldType) (r : Int32) (I2 : cw_M) (en2 : va_E) : Prop :=
  ∀ sz : Nat, Met K.1 (cw_y M) (cw_w M) (cw_R M 1 6) (va_Pc as (wr_In K I qo en ty sz)) (wr_Q K r I2 qo en2 sz) 1 6 (wr_A K qo sz)
section WRP
variable {K : cw_K} {I I2 : cw_M} {qo : Nat} {en en2 : va_E} {ty : ClassId × FieldType} {r : Int32} {as : List Value} {M : cw_Me} {hh : List (Nat × Nat × Nat × Nat)}
theorem wr_entry (hy : plainName (cw_y M).cls = true) (hw : ∃ ws', cw_w M = Cond.codeWith (cw_y M) (cw_c M) (cw_k M) (cw_r M) hh :: ws') (hcl : (cw_y M).cls = RL) (hl : (lg_sl as).length ≤ cw_k M)
    (k : ∀ (p : Program) (e : Env) (s : State) (m : MethodId) (below : List Frame) (meth : Method) (c : Code) (ls : Array Slot), CallFix p m c (cw_c M) (cw_k M) s as.toArray (cw_w M) RL → meth.sig.returnType = cw_r M → meth.locks = false → c.exceptionTable.toList = tableOf hh → wr_In K I qo en ty s.heap.size s → lv_has ls (cw_k M) (lv_args 0 as) → W p K.1 e (cw_R M 1 6) s m as.toArray below meth c s.heap [] 0 0 (MQ below (wr_Q K r I2 qo en2 s.heap.size) as.toArray s 1 6 (wr_A K qo s.heap.size)) (F0 m 0 ls [])) : wr_C K M as I qo en ty r I2 en2 := by
  intro sz
  obtain ⟨ws', hw⟩ := hw
  refine va_MetW (cc := cw_c M) (maxL := cw_k M) (ret := cw_r M) (hh := hh) hy hw ?_
  intro p e s m args below meth c s₁ B hml hv
  obtain ⟨rfl, hI⟩ := hv
  have hsz := hI.1
  subst hsz
  have hts := atoms_spec (ws := cw_w M) B.pre
  have hown : s.vm.findClass RL = some m.cls := by rw [← hcl]; exact findClass_of_methodNamed B.named
  have htb : c.exceptionTable.toList = tableOf hh := vx_table (x := cw_y M) B (hts _ (by rw [hw]; exact List.mem_cons_self))
  have hl := lv_entry as (n := cw_k M) hl
  rw [lg_entry_eq]
  generalize (lg_sl as ++ List.replicate (cw_k M - (lg_sl as).length) Slot.unset).toArray = ls at hl ⊢
  exact k p e s m below meth c ls ⟨B.exec, B.bytes, hml, hown, hts⟩ B.returns B.notSynchronized htb hI hl
section WRT
variable {p : Program} {e : Env} {s : State} {m : MethodId} {args : Array Value} {below : List Frame} {meth : Method} {c : Code} {H : Heap} {locs : List Loc} {cells slots pc : Nat} {ls : Array Slot} {st : List Value}
theorem wr_free (h : wr_In K I qo en ty s.heap.size s) : wr_A K qo s.heap.size qo := Or.inr (Or.inl rfl)
/-- behind a call that returned: the out cell stands -/
theorem wr_out {H1 : Heap} (h : wr_In K I qo en ty s.heap.size s) (hO : va_P (cw_d (cc_w K)) vwCl [(qo, en)] H) (hk : ∀ q, q < H.size → (∀ k, k < 32 → q ≠ cw_a (cc_w K) k) → H1[q]? = H[q]?) : va_P (cw_d (cc_w K)) vwCl [(qo, en)] H1 := by
  intro k q hq
  have h1 := hO k q hq
  cases k with
  | zero =>
    cases hq
    exact h1.kept (hk qo h1.lt (fun k hk9 y => h.2.2.2.2.2.1 k hk9 y.symm))
  | succ k => simp at hq
theorem wr_in {H1 : Heap} (h : wr_In K I qo en ty s.heap.size s) (hP : va_P (cw_d (cc_w K)) vwCl (cw_W (cc_w K) I2) H) (hk : ∀ q, q ≠ qo → H1[q]? = H[q]?) : va_P (cw_d (cc_w K)) vwCl (cw_W (cc_w K) I2) H1 := wk_kept hP (fun k hk9 => hk _ (h.2.2.2.2.2.1 k hk9))
/-- iconst, ireturn -/
theorem wr_end {n : Int} {v : Int32} (S : CallFix p m c (cw_c M) (cw_k M) s as.toArray (cw_w M) RL) (hr : meth.sig.returnType = cw_r M) (hr2 : cw_r M = some .int) (hlocks : meth.locks = false) (hc : cells ≤ 1) (hs : slots ≤ 6) (d0 : decode (cw_c M) pc = .ok (.iconst n, 1)) (hv : Int32.ofInt n = v) (d1 : decode (cw_c M) (pc + 1) = .ok (.ireturn, 1)) (hP : va_P (cw_d (cc_w K)) vwCl (cw_W (cc_w K) I2) H) (hO : va_P (cw_d (cc_w K)) vwCl [(qo, en2)] H) (hS : va_S (wr_A K qo s.heap.size) s.heap H locs) : W p K.1 e (cw_R M 1 6) s m as.toArray below meth c H locs cells slots (MQ below (wr_Q K v I2 qo en2 s.heap.size) as.toArray s 1 6 (wr_A K qo s.heap.size)) (F0 m pc ls []) := by
  refine lv_iconst (v := v) S.1 S.2.1 d0 hv ?_
  refine W.widen (k := 1) (n := 6) hc hs ?_
  exact W.iret S.1 S.2.1 (hr.trans hr2) (fun t ht hW => ⟨rfl, by rw [ht]; exact hP, by rw [ht]; exact hO, hS.F ht⟩) hS.2.2 d1
/-- behind a call that threw E: the handler's row x of the table -/
theorem wr_caught {E : String} {pre suf : List ExceptionTableEntry} {x : ExceptionTableEntry} {q9 : Nat} {ce : Cell} {v : Int32} (S : CallFix p m c (cw_c M) (cw_k M) s as.toArray (cw_w M) RL) (hr : meth.sig.returnType = cw_r M) (hr2 : cw_r M = some .int) (hlocks : meth.locks = false) (hI : wr_In K I qo en ty s.heap.size s) (htb : c.exceptionTable.toList = tableOf hh) (hsp : tableOf hh = pre ++ x :: suf) (hpass : ∀ z ∈ pre, z.catchType = 29 ∧ E ∈ ["java/lang/IllegalArgumentException", "java/lang/IllegalStateException", "java/util/NoSuchElementException"]) (hlk : pre ≠ [] → Cond.classLink RL 29 "java/lang/IndexOutOfBoundsException" ∈ cw_w M) (hcov : covers x pc = true) (h0 : x.catchType ≠ 0) (hlink : Cond.classLink RL x.catchType E ∈ cw_w M) (hE : E ∈ ["java/lang/IndexOutOfBoundsException", "java/lang/IllegalArgumentException", "java/lang/IllegalStateException", "java/util/NoSuchElementException"]) (hce : H[q9]? = some ce) (hcv : ce.vm = .none) (hcl : s.vm.findClass E = some ce.cls)
    (k : W p K.1 e (cw_R M 1 6) s m as.toArray below meth c H locs 1 6 (MQ below (wr_Q K v I2 qo en2 s.heap.size) as.toArray s 1 6 (wr_A K qo s.heap.size)) (F0 m x.handlerPc ls [.ref q9])) : vx_W p K.1 e (cw_R M 1 6) s m as.toArray below meth c H locs 1 6 (MQ below (wr_Q K v I2 qo en2 s.heap.size) as.toArray s 1 6 (wr_A K qo s.heap.size)) (F0 m pc ls st) q9 := by
  have hck := hI.2.2.2.2.2.2
  refine vx_catch (own := RL) (name := E) (E := E) S.2.2.2.1 pre x suf (htb.trans hsp) (fun z hz => Or.inr ?_) hcov h0 (S.2.2.2.2 _ hlink) (va_Nw.use rfl (hck.1 E hE)) hce hcv hcl k
  obtain ⟨h1, h2⟩ := hpass z hz
  refine ⟨by rw [h1]; decide, "java/lang/IndexOutOfBoundsException", by rw [h1]; exact S.2.2.2.2 _ (hlk (fun y => by rw [y] at hz; cases hz)), hck.2 E h2⟩
end WRT
theorem lk_append_13 : Cond.classLink RL 13 "java/lang/IllegalStateException" ∈ wsL_append := by decide +kernel
def mL_append : cw_Me := (yL_append, wsL_append, cL_append, 8, (some .int), 7, 115)
theorem wr_append_ok {cl : ClassId} {f : Nat → Int64} {x : Int32} {y : Int32} {z : Int32} {u : Int32} {v : Int32} {r : Int32} (hC : cw_C (cc_w K) mX10_append [.ref (cw_a (cc_w K) 0), .int x, .int y, .int z, .int u, .int v] I (some (.int r)) I2) : wr_C K mL_append [.ref (cw_a (cc_w K) 0), .int x, .int y, .int z, .int u, .int v, .ref qo] I qo (lo cl f) (cl, .long) 0 I2 (lo cl (vp_updL f 0 (r.toInt64))) := by
  refine wr_entry (hh := [(0, 16, 19, 13)]) (by decide) ⟨_, rfl⟩ rfl (Nat.le_of_ble_eq_true rfl) (fun p e s m below meth c ls S hr hlocks htb hI hl => ?_)
  have hl : lv_has ls 8 [(0, .ref (cw_a (cc_w K) 0)), (1, .int x), (2, .int y), (3, .int z), (4, .int u), (5, .int v), (6, .ref qo)] := hl
  refine lv_aload S.1 S.2.1 dL_append_0 (lv_at hl 6 rfl) ?_
  refine lv_iconst (v := 0) S.1 S.2.1 dL_append_2 (by decide) ?_
  refine lv_aload_n S.1 S.2.1 dL_append_3 rfl (lv_at hl 0 rfl) ?_
  refine lv_iload_n S.1 S.2.1 dL_append_4 rfl (lv_at hl 1 rfl) ?_
  refine lv_iload_n S.1 S.2.1 dL_append_5 rfl (lv_at hl 2 rfl) ?_
  refine lv_iload_n S.1 S.2.1 dL_append_6 rfl (lv_at hl 3 rfl) ?_
  refine lv_iload S.1 S.2.1 dL_append_7 (lv_at hl 4 rfl) ?_
  refine lv_iload S.1 S.2.1 dL_append_9 (lv_at hl 5 rfl) ?_
  refine wl_call (w := cc_w K) (As := [.int x, .int y, .int z, .int u, .int v]) S hI.2.2.2.1 hC okX10_append rfl gL_append_X10_append ⟨Nat.le_of_ble_eq_true rfl, Nat.le_of_ble_eq_true rfl⟩ ⟨Nat.le_of_ble_eq_true rfl, Nat.le_of_ble_eq_true rfl⟩ (o := 0) (show 0 < 32 by decide) rfl rfl hl.1 rfl (Nat.le_of_ble_eq_true rfl) dL_append_11 hI.2.1 va_S.rf (fun H1 locs1 hP1 hz1 hk1 hS1 => ?_)
  have hO1 := wr_out hI hI.2.2.1 hk1
  refine lv_i2l (v := r.toInt64) S.1 S.2.1 dL_append_14 rfl ?_
  refine wl_last S.1 S.2.1 hI.2.2.2.2.1 hO1 hS1 (wr_free hI) (t0 := 0) rfl (vp_in_nI (n := 0) (N := 1) (by omega) (by omega)) dL_append_15 (fun H2 locs2 hO2 hz2 hk2 hS2 => ?_)
  refine lv_goto (tgt := 23) S.1 S.2.1 dL_append_16 (by decide) ?_
  exact wr_end S hr rfl hlocks (by omega) (by omega) dL_append_23 (by decide) dL_append_24 (wr_in hI hP1 hk2) hO2 hS2
theorem wr_append_x1 {cl : ClassId} {f : Nat → Int64} {x : Int32} {y : Int32} {z : Int32} {u : Int32} {v : Int32} (hC : cw_T (cc_w K) mX10_append [.ref (cw_a (cc_w K) 0), .int x, .int y, .int z, .int u, .int v] I "java/lang/IllegalStateException" I2) : wr_C K mL_append [.ref (cw_a (cc_w K) 0), .int x, .int y, .int z, .int u, .int v, .ref qo] I qo (lo cl f) (cl, .long) 1 I2 (lo cl f) := by
  refine wr_entry (hh := [(0, 16, 19, 13)]) (by decide) ⟨_, rfl⟩ rfl (Nat.le_of_ble_eq_true rfl) (fun p e s m below meth c ls S hr hlocks htb hI hl => ?_)
  have hl : lv_has ls 8 [(0, .ref (cw_a (cc_w K) 0)), (1, .int x), (2, .int y), (3, .int z), (4, .int u), (5, .int v), (6, .ref qo)] := hl
  refine lv_aload S.1 S.2.1 dL_append_0 (lv_at hl 6 rfl) ?_
  refine lv_iconst (v := 0) S.1 S.2.1 dL_append_2 (by decide) ?_
  refine lv_aload_n S.1 S.2.1 dL_append_3 rfl (lv_at hl 0 rfl) ?_
  refine lv_iload_n S.1 S.2.1 dL_append_4 rfl (lv_at hl 1 rfl) ?_
  refine lv_iload_n S.1 S.2.1 dL_append_5 rfl (lv_at hl 2 rfl) ?_
  refine lv_iload_n S.1 S.2.1 dL_append_6 rfl (lv_at hl 3 rfl) ?_
  refine lv_iload S.1 S.2.1 dL_append_7 (lv_at hl 4 rfl) ?_
  refine lv_iload S.1 S.2.1 dL_append_9 (lv_at hl 5 rfl) ?_
  refine wl_callT (w := cc_w K) (As := [.int x, .int y, .int z, .int u, .int v]) S hI.2.2.2.1 hC okX10_append rfl gL_append_X10_append ⟨Nat.le_of_ble_eq_true rfl, Nat.le_of_ble_eq_true rfl⟩ ⟨Nat.le_of_ble_eq_true rfl, Nat.le_of_ble_eq_true rfl⟩ (o := 0) (show 0 < 32 by decide) rfl rfl hl.1 rfl (Nat.le_of_ble_eq_true rfl) dL_append_11 hI.2.1 va_S.rf (fun H1 locs1 q9 ce hP1 hz1 hk1 hS1 hce hcv hcl => ?_)
  have hO1 := wr_out hI hI.2.2.1 hk1
  refine wr_caught (hh := [(0, 16, 19, 13)]) (pre := []) (x := ⟨0, 16, 19, 13⟩) (suf := []) S hr rfl hlocks hI htb rfl (fun z hz => nomatch hz) (fun y => absurd rfl y) (by decide) (by decide) lk_append_13 (by decide) hce hcv hcl ?_
  refine lv_astore (lv' := [(7, .ref q9), (0, .ref (cw_a (cc_w K) 0)), (1, .int x), (2, .int y), (3, .int z), (4, .int u), (5, .int v), (6, .ref qo)]) S.1 S.2.1 dL_append_19 hl (by decide) rfl (fun ls hl => ?_)
  exact wr_end S hr rfl hlocks (by omega) (by omega) dL_append_21 (by decide) dL_append_22 hP1 hO1 hS1
theorem lk_truncate_19 : Cond.classLink RL 19 "java/lang/IllegalArgumentException" ∈ wsL_truncate := by decide +kernel
def mL_truncate : cw_Me := (yL_truncate, wsL_truncate, cL_truncate, 4, (some .int), 7, 111)
theorem wr_truncate_ok {cl : ClassId} {f : Nat → Int64} {x : Int32} {r : Int32} (hC : cw_C (cc_w K) mX10_truncate [.ref (cw_a (cc_w K) 0), .int x] I (some (.int r)) I2) : wr_C K mL_truncate [.ref (cw_a (cc_w K) 0), .int x, .ref qo] I qo (lo cl f) (cl, .long) 0 I2 (lo cl (vp_updL f 0 (r.toInt64))) := by
  refine wr_entry (hh := [(0, 9, 12, 19)]) (by decide) ⟨_, rfl⟩ rfl (Nat.le_of_ble_eq_true rfl) (fun p e s m below meth c ls S hr hlocks htb hI hl => ?_)
  have hl : lv_has ls 4 [(0, .ref (cw_a (cc_w K) 0)), (1, .int x), (2, .ref qo)] := hl
  refine lv_aload_n S.1 S.2.1 dL_truncate_0 rfl (lv_at hl 2 rfl) ?_
  refine lv_iconst (v := 0) S.1 S.2.1 dL_truncate_1 (by decide) ?_
  refine lv_aload_n S.1 S.2.1 dL_truncate_2 rfl (lv_at hl 0 rfl) ?_
  refine lv_iload_n S.1 S.2.1 dL_truncate_3 rfl (lv_at hl 1 rfl) ?_
  refine wl_call (w := cc_w K) (As := [.int x]) S hI.2.2.2.1 hC okX10_truncate rfl gL_truncate_X10_truncate ⟨Nat.le_of_ble_eq_true rfl, Nat.le_of_ble_eq_true rfl⟩ ⟨Nat.le_of_ble_eq_true rfl, Nat.le_of_ble_eq_true rfl⟩ (o := 0) (show 0 < 32 by decide) rfl rfl hl.1 rfl (Nat.le_of_ble_eq_true rfl) dL_truncate_4 hI.2.1 va_S.rf (fun H1 locs1 hP1 hz1 hk1 hS1 => ?_)
  have hO1 := wr_out hI hI.2.2.1 hk1
  refine lv_i2l (v := r.toInt64) S.1 S.2.1 dL_truncate_7 rfl ?_
  refine wl_last S.1 S.2.1 hI.2.2.2.2.1 hO1 hS1 (wr_free hI) (t0 := 0) rfl (vp_in_nI (n := 0) (N := 1) (by omega) (by omega)) dL_truncate_8 (fun H2 locs2 hO2 hz2 hk2 hS2 => ?_)
  refine lv_goto (tgt := 15) S.1 S.2.1 dL_truncate_9 (by decide) ?_
  exact wr_end S hr rfl hlocks (by omega) (by omega) dL_truncate_15 (by decide) dL_truncate_16 (wr_in hI hP1 hk2) hO2 hS2
theorem wr_truncate_x1 {cl : ClassId} {f : Nat → Int64} {x : Int32} (hC : cw_T (cc_w K) mX10_truncate [.ref (cw_a (cc_w K) 0), .int x] I "java/lang/IllegalArgumentException" I2) : wr_C K mL_truncate [.ref (cw_a (cc_w K) 0), .int x, .ref qo] I qo (lo cl f) (cl, .long) 1 I2 (lo cl f) := by
  refine wr_entry (hh := [(0, 9, 12, 19)]) (by decide) ⟨_, rfl⟩ rfl (Nat.le_of_ble_eq_true rfl) (fun p e s m below meth c ls S hr hlocks htb hI hl => ?_)
  have hl : lv_has ls 4 [(0, .ref (cw_a (cc_w K) 0)), (1, .int x), (2, .ref qo)] := hl
  refine lv_aload_n S.1 S.2.1 dL_truncate_0 rfl (lv_at hl 2 rfl) ?_
  refine lv_iconst (v := 0) S.1 S.2.1 dL_truncate_1 (by decide) ?_
  refine lv_aload_n S.1 S.2.1 dL_truncate_2 rfl (lv_at hl 0 rfl) ?_
  refine lv_iload_n S.1 S.2.1 dL_truncate_3 rfl (lv_at hl 1 rfl) ?_
  refine wl_callT (w := cc_w K) (As := [.int x]) S hI.2.2.2.1 hC okX10_truncate rfl gL_truncate_X10_truncate ⟨Nat.le_of_ble_eq_true rfl, Nat.le_of_ble_eq_true rfl⟩ ⟨Nat.le_of_ble_eq_true rfl, Nat.le_of_ble_eq_true rfl⟩ (o := 0) (show 0 < 32 by decide) rfl rfl hl.1 rfl (Nat.le_of_ble_eq_true rfl) dL_truncate_4 hI.2.1 va_S.rf (fun H1 locs1 q9 ce hP1 hz1 hk1 hS1 hce hcv hcl => ?_)
  have hO1 := wr_out hI hI.2.2.1 hk1
  refine wr_caught (hh := [(0, 9, 12, 19)]) (pre := []) (x := ⟨0, 9, 12, 19⟩) (suf := []) S hr rfl hlocks hI htb rfl (fun z hz => nomatch hz) (fun y => absurd rfl y) (by decide) (by decide) lk_truncate_19 (by decide) hce hcv hcl ?_
  refine lv_astore_n (lv' := [(3, .ref q9), (0, .ref (cw_a (cc_w K) 0)), (1, .int x), (2, .ref qo)]) S.1 S.2.1 dL_truncate_12 rfl hl (by decide) rfl (fun ls hl => ?_)
  exact wr_end S hr rfl hlocks (by omega) (by omega) dL_truncate_13 (by decide) dL_truncate_14 hP1 hO1 hS1
theorem lk_load_19 : Cond.classLink RL 19 "java/lang/IllegalArgumentException" ∈ wsL_load := by decide +kernel
def mL_load : cw_Me := (yL_load, wsL_load, cL_load, 3, (some .int), 11, 235)
theorem wr_load_ok {cl : ClassId} {f : Nat → Int64} {r : Int32} (hC : cw_C (cc_w K) mX10_load [.ref (cw_a (cc_w K) 0)] I (some (.int r)) I2) : wr_C K mL_load [.ref (cw_a (cc_w K) 0), .ref qo] I qo (lo cl f) (cl, .long) 0 I2 (lo cl (vp_updL f 0 (r.toInt64))) := by
  refine wr_entry (hh := [(0, 8, 11, 19)]) (by decide) ⟨_, rfl⟩ rfl (Nat.le_of_ble_eq_true rfl) (fun p e s m below meth c ls S hr hlocks htb hI hl => ?_)
  have hl : lv_has ls 3 [(0, .ref (cw_a (cc_w K) 0)), (1, .ref qo)] := hl
  refine lv_aload_n S.1 S.2.1 dL_load_0 rfl (lv_at hl 1 rfl) ?_
  refine lv_iconst (v := 0) S.1 S.2.1 dL_load_1 (by decide) ?_
  refine lv_aload_n S.1 S.2.1 dL_load_2 rfl (lv_at hl 0 rfl) ?_
  refine wl_call (w := cc_w K) (As := []) S hI.2.2.2.1 hC okX10_load rfl gL_load_X10_load ⟨Nat.le_of_ble_eq_true rfl, Nat.le_of_ble_eq_true rfl⟩ ⟨Nat.le_of_ble_eq_true rfl, Nat.le_of_ble_eq_true rfl⟩ (o := 0) (show 0 < 32 by decide) rfl rfl hl.1 rfl (Nat.le_of_ble_eq_true rfl) dL_load_3 hI.2.1 va_S.rf (fun H1 locs1 hP1 hz1 hk1 hS1 => ?_)
  have hO1 := wr_out hI hI.2.2.1 hk1
  refine lv_i2l (v := r.toInt64) S.1 S.2.1 dL_load_6 rfl ?_
  refine wl_last S.1 S.2.1 hI.2.2.2.2.1 hO1 hS1 (wr_free hI) (t0 := 0) rfl (vp_in_nI (n := 0) (N := 1) (by omega) (by omega)) dL_load_7 (fun H2 locs2 hO2 hz2 hk2 hS2 => ?_)
  refine lv_goto (tgt := 14) S.1 S.2.1 dL_load_8 (by decide) ?_
  exact wr_end S hr rfl hlocks (by omega) (by omega) dL_load_14 (by decide) dL_load_15 (wr_in hI hP1 hk2) hO2 hS2
theorem wr_load_x1 {cl : ClassId} {f : Nat → Int64} (hC : cw_T (cc_w K) mX10_load [.ref (cw_a (cc_w K) 0)] I "java/lang/IllegalArgumentException" I2) : wr_C K mL_load [.ref (cw_a (cc_w K) 0), .ref qo] I qo (lo cl f) (cl, .long) 1 I2 (lo cl f) := by
  refine wr_entry (hh := [(0, 8, 11, 19)]) (by decide) ⟨_, rfl⟩ rfl (Nat.le_of_ble_eq_true rfl) (fun p e s m below meth c ls S hr hlocks htb hI hl => ?_)
  have hl : lv_has ls 3 [(0, .ref (cw_a (cc_w K) 0)), (1, .ref qo)] := hl
  refine lv_aload_n S.1 S.2.1 dL_load_0 rfl (lv_at hl 1 rfl) ?_
  refine lv_iconst (v := 0) S.1 S.2.1 dL_load_1 (by decide) ?_
  refine lv_aload_n S.1 S.2.1 dL_load_2 rfl (lv_at hl 0 rfl) ?_
  refine wl_callT (w := cc_w K) (As := []) S hI.2.2.2.1 hC okX10_load rfl gL_load_X10_load ⟨Nat.le_of_ble_eq_true rfl, Nat.le_of_ble_eq_true rfl⟩ ⟨Nat.le_of_ble_eq_true rfl, Nat.le_of_ble_eq_true rfl⟩ (o := 0) (show 0 < 32 by decide) rfl rfl hl.1 rfl (Nat.le_of_ble_eq_true rfl) dL_load_3 hI.2.1 va_S.rf (fun H1 locs1 q9 ce hP1 hz1 hk1 hS1 hce hcv hcl => ?_)
  have hO1 := wr_out hI hI.2.2.1 hk1
  refine wr_caught (hh := [(0, 8, 11, 19)]) (pre := []) (x := ⟨0, 8, 11, 19⟩) (suf := []) S hr rfl hlocks hI htb rfl (fun z hz => nomatch hz) (fun y => absurd rfl y) (by decide) (by decide) lk_load_19 (by decide) hce hcv hcl ?_
  refine lv_astore_n (lv' := [(2, .ref q9), (0, .ref (cw_a (cc_w K) 0)), (1, .ref qo)]) S.1 S.2.1 dL_load_11 rfl hl (by decide) rfl (fun ls hl => ?_)
  exact wr_end S hr rfl hlocks (by omega) (by omega) dL_load_12 (by decide) dL_load_13 hP1 hO1 hS1
theorem lk_nameByte_29 : Cond.classLink RL 29 "java/lang/IndexOutOfBoundsException" ∈ wsL_nameByte := by decide +kernel
def mL_nameByte : cw_Me := (yL_nameByte, wsL_nameByte, cL_nameByte, 5, (some .int), 8, 133)
theorem wr_nameByte_ok {cl : ClassId} {f : Nat → Int64} {x : Int32} {y : Int32} {r : Int32} (hC : cw_C (cc_w K) mX10_nameByte [.ref (cw_a (cc_w K) 0), .int x, .int y] I (some (.int r)) I2) : wr_C K mL_nameByte [.ref (cw_a (cc_w K) 0), .int x, .int y, .ref qo] I qo (lo cl f) (cl, .long) 0 I2 (lo cl (vp_updL f 0 (r.toInt64))) := by
  refine wr_entry (hh := [(0, 10, 13, 29)]) (by decide) ⟨_, rfl⟩ rfl (Nat.le_of_ble_eq_true rfl) (fun p e s m below meth c ls S hr hlocks htb hI hl => ?_)
  have hl : lv_has ls 5 [(0, .ref (cw_a (cc_w K) 0)), (1, .int x), (2, .int y), (3, .ref qo)] := hl
  refine lv_aload_n S.1 S.2.1 dL_nameByte_0 rfl (lv_at hl 3 rfl) ?_
  refine lv_iconst (v := 0) S.1 S.2.1 dL_nameByte_1 (by decide) ?_
  refine lv_aload_n S.1 S.2.1 dL_nameByte_2 rfl (lv_at hl 0 rfl) ?_
  refine lv_iload_n S.1 S.2.1 dL_nameByte_3 rfl (lv_at hl 1 rfl) ?_
  refine lv_iload_n S.1 S.2.1 dL_nameByte_4 rfl (lv_at hl 2 rfl) ?_
  refine wl_call (w := cc_w K) (As := [.int x, .int y]) S hI.2.2.2.1 hC okX10_nameByte rfl gL_nameByte_X10_nameByte ⟨Nat.le_of_ble_eq_true rfl, Nat.le_of_ble_eq_true rfl⟩ ⟨Nat.le_of_ble_eq_true rfl, Nat.le_of_ble_eq_true rfl⟩ (o := 0) (show 0 < 32 by decide) rfl rfl hl.1 rfl (Nat.le_of_ble_eq_true rfl) dL_nameByte_5 hI.2.1 va_S.rf (fun H1 locs1 hP1 hz1 hk1 hS1 => ?_)
  have hO1 := wr_out hI hI.2.2.1 hk1
  refine lv_i2l (v := r.toInt64) S.1 S.2.1 dL_nameByte_8 rfl ?_
  refine wl_last S.1 S.2.1 hI.2.2.2.2.1 hO1 hS1 (wr_free hI) (t0 := 0) rfl (vp_in_nI (n := 0) (N := 1) (by omega) (by omega)) dL_nameByte_9 (fun H2 locs2 hO2 hz2 hk2 hS2 => ?_)
  refine lv_goto (tgt := 17) S.1 S.2.1 dL_nameByte_10 (by decide) ?_
  exact wr_end S hr rfl hlocks (by omega) (by omega) dL_nameByte_17 (by decide) dL_nameByte_18 (wr_in hI hP1 hk2) hO2 hS2
theorem wr_nameByte_x1 {cl : ClassId} {f : Nat → Int64} {x : Int32} {y : Int32} (hC : cw_T (cc_w K) mX10_nameByte [.ref (cw_a (cc_w K) 0), .int x, .int y] I "java/lang/IndexOutOfBoundsException" I2) : wr_C K mL_nameByte [.ref (cw_a (cc_w K) 0), .int x, .int y, .ref qo] I qo (lo cl f) (cl, .long) 1 I2 (lo cl f) := by
  refine wr_entry (hh := [(0, 10, 13, 29)]) (by decide) ⟨_, rfl⟩ rfl (Nat.le_of_ble_eq_true rfl) (fun p e s m below meth c ls S hr hlocks htb hI hl => ?_)
  have hl : lv_has ls 5 [(0, .ref (cw_a (cc_w K) 0)), (1, .int x), (2, .int y), (3, .ref qo)] := hl
  refine lv_aload_n S.1 S.2.1 dL_nameByte_0 rfl (lv_at hl 3 rfl) ?_
  refine lv_iconst (v := 0) S.1 S.2.1 dL_nameByte_1 (by decide) ?_
  refine lv_aload_n S.1 S.2.1 dL_nameByte_2 rfl (lv_at hl 0 rfl) ?_
  refine lv_iload_n S.1 S.2.1 dL_nameByte_3 rfl (lv_at hl 1 rfl) ?_
  refine lv_iload_n S.1 S.2.1 dL_nameByte_4 rfl (lv_at hl 2 rfl) ?_
  refine wl_callT (w := cc_w K) (As := [.int x, .int y]) S hI.2.2.2.1 hC okX10_nameByte rfl gL_nameByte_X10_nameByte ⟨Nat.le_of_ble_eq_true rfl, Nat.le_of_ble_eq_true rfl⟩ ⟨Nat.le_of_ble_eq_true rfl, Nat.le_of_ble_eq_true rfl⟩ (o := 0) (show 0 < 32 by decide) rfl rfl hl.1 rfl (Nat.le_of_ble_eq_true rfl) dL_nameByte_5 hI.2.1 va_S.rf (fun H1 locs1 q9 ce hP1 hz1 hk1 hS1 hce hcv hcl => ?_)
  have hO1 := wr_out hI hI.2.2.1 hk1
  refine wr_caught (hh := [(0, 10, 13, 29)]) (pre := []) (x := ⟨0, 10, 13, 29⟩) (suf := []) S hr rfl hlocks hI htb rfl (fun z hz => nomatch hz) (fun y => absurd rfl y) (by decide) (by decide) lk_nameByte_29 (by decide) hce hcv hcl ?_
  refine lv_astore (lv' := [(4, .ref q9), (0, .ref (cw_a (cc_w K) 0)), (1, .int x), (2, .int y), (3, .ref qo)]) S.1 S.2.1 dL_nameByte_13 hl (by decide) rfl (fun ls hl => ?_)
  exact wr_end S hr rfl hlocks (by omega) (by omega) dL_nameByte_15 (by decide) dL_nameByte_16 hP1 hO1 hS1
theorem lk_findSibling_34 : Cond.classLink RL 34 "java/util/NoSuchElementException" ∈ wsL_findSibling.map nse_fix := by decide +kernel
def mL_findSibling : cw_Me := (yL_findSibling, wsL_findSibling.map nse_fix, cL_findSibling, 3, (some .int), 7, 111)
theorem wr_findSibling_ok {cl : ClassId} {f : Nat → Int64} {r : Int32} (hC : cw_C (cc_w K) mX10_findSibling [.ref (cw_a (cc_w K) 0)] I (some (.int r)) I2) : wr_C K mL_findSibling [.ref (cw_a (cc_w K) 0), .ref qo] I qo (lo cl f) (cl, .long) 0 I2 (lo cl (vp_updL f 0 (r.toInt64))) := by
  refine wr_entry (hh := [(0, 8, 11, 34)]) (by decide) (nse_head (by decide +kernel)) rfl (Nat.le_of_ble_eq_true rfl) (fun p e s m below meth c ls S hr hlocks htb hI hl => ?_)
  have hl : lv_has ls 3 [(0, .ref (cw_a (cc_w K) 0)), (1, .ref qo)] := hl
  refine lv_aload_n S.1 S.2.1 dL_findSibling_0 rfl (lv_at hl 1 rfl) ?_
  refine lv_iconst (v := 0) S.1 S.2.1 dL_findSibling_1 (by decide) ?_
  refine lv_aload_n S.1 S.2.1 dL_findSibling_2 rfl (lv_at hl 0 rfl) ?_
  refine wl_call (w := cc_w K) (As := []) S hI.2.2.2.1 hC okX10_findSibling rfl (nse_gv gL_findSibling_X10_findSibling (by decide +kernel)) ⟨Nat.le_of_ble_eq_true rfl, Nat.le_of_ble_eq_true rfl⟩ ⟨Nat.le_of_ble_eq_true rfl, Nat.le_of_ble_eq_true rfl⟩ (o := 0) (show 0 < 32 by decide) rfl rfl hl.1 rfl (Nat.le_of_ble_eq_true rfl) dL_findSibling_3 hI.2.1 va_S.rf (fun H1 locs1 hP1 hz1 hk1 hS1 => ?_)
  have hO1 := wr_out hI hI.2.2.1 hk1
  refine lv_i2l (v := r.toInt64) S.1 S.2.1 dL_findSibling_6 rfl ?_
  refine wl_last S.1 S.2.1 hI.2.2.2.2.1 hO1 hS1 (wr_free hI) (t0 := 0) rfl (vp_in_nI (n := 0) (N := 1) (by omega) (by omega)) dL_findSibling_7 (fun H2 locs2 hO2 hz2 hk2 hS2 => ?_)
  refine lv_goto (tgt := 14) S.1 S.2.1 dL_findSibling_8 (by decide) ?_
  exact wr_end S hr rfl hlocks (by omega) (by omega) dL_findSibling_14 (by decide) dL_findSibling_15 (wr_in hI hP1 hk2) hO2 hS2
theorem wr_findSibling_x1 {cl : ClassId} {f : Nat → Int64} (hC : cw_T (cc_w K) mX10_findSibling [.ref (cw_a (cc_w K) 0)] I "java/util/NoSuchElementException" I2) : wr_C K mL_findSibling [.ref (cw_a (cc_w K) 0), .ref qo] I qo (lo cl f) (cl, .long) 1 I2 (lo cl f) := by
  refine wr_entry (hh := [(0, 8, 11, 34)]) (by decide) (nse_head (by decide +kernel)) rfl (Nat.le_of_ble_eq_true rfl) (fun p e s m below meth c ls S hr hlocks htb hI hl => ?_)
  have hl : lv_has ls 3 [(0, .ref (cw_a (cc_w K) 0)), (1, .ref qo)] := hl
  refine lv_aload_n S.1 S.2.1 dL_findSibling_0 rfl (lv_at hl 1 rfl) ?_
  refine lv_iconst (v := 0) S.1 S.2.1 dL_findSibling_1 (by decide) ?_
  refine lv_aload_n S.1 S.2.1 dL_findSibling_2 rfl (lv_at hl 0 rfl) ?_
  refine wl_callT (w := cc_w K) (As := []) S hI.2.2.2.1 hC okX10_findSibling rfl (nse_gv gL_findSibling_X10_findSibling (by decide +kernel)) ⟨Nat.le_of_ble_eq_true rfl, Nat.le_of_ble_eq_true rfl⟩ ⟨Nat.le_of_ble_eq_true rfl, Nat.le_of_ble_eq_true rfl⟩ (o := 0) (show 0 < 32 by decide) rfl rfl hl.1 rfl (Nat.le_of_ble_eq_true rfl) dL_findSibling_3 hI.2.1 va_S.rf (fun H1 locs1 q9 ce hP1 hz1 hk1 hS1 hce hcv hcl => ?_)
  have hO1 := wr_out hI hI.2.2.1 hk1
  refine wr_caught (hh := [(0, 8, 11, 34)]) (pre := []) (x := ⟨0, 8, 11, 34⟩) (suf := []) S hr rfl hlocks hI htb rfl (fun z hz => nomatch hz) (fun y => absurd rfl y) (by decide) (by decide) lk_findSibling_34 (by decide) hce hcv hcl ?_
  refine lv_astore_n (lv' := [(2, .ref q9), (0, .ref (cw_a (cc_w K) 0)), (1, .ref qo)]) S.1 S.2.1 dL_findSibling_11 rfl hl (by decide) rfl (fun ls hl => ?_)
  exact wr_end S hr rfl hlocks (by omega) (by omega) dL_findSibling_12 (by decide) dL_findSibling_13 hP1 hO1 hS1
theorem lk_value_29 : Cond.classLink RL 29 "java/lang/IndexOutOfBoundsException" ∈ wsL_value := by decide +kernel
def mL_value : cw_Me := (yL_value, wsL_value, cL_value, 5, (some .int), 8, 133)
theorem wr_value_ok {cl : ClassId} {f : Nat → Int64} {x : Int32} {y : Int32} {r : Int32} (hC : cw_C (cc_w K) mX10_value [.ref (cw_a (cc_w K) 0), .int x, .int y] I (some (.int r)) I2) : wr_C K mL_value [.ref (cw_a (cc_w K) 0), .int x, .int y, .ref qo] I qo (lo cl f) (cl, .long) 0 I2 (lo cl (vp_updL f 0 (r.toInt64))) := by
  refine wr_entry (hh := [(0, 10, 13, 29)]) (by decide) ⟨_, rfl⟩ rfl (Nat.le_of_ble_eq_true rfl) (fun p e s m below meth c ls S hr hlocks htb hI hl => ?_)
  have hl : lv_has ls 5 [(0, .ref (cw_a (cc_w K) 0)), (1, .int x), (2, .int y), (3, .ref qo)] := hl
  refine lv_aload_n S.1 S.2.1 dL_value_0 rfl (lv_at hl 3 rfl) ?_
  refine lv_iconst (v := 0) S.1 S.2.1 dL_value_1 (by decide) ?_
  refine lv_aload_n S.1 S.2.1 dL_value_2 rfl (lv_at hl 0 rfl) ?_
  refine lv_iload_n S.1 S.2.1 dL_value_3 rfl (lv_at hl 1 rfl) ?_
  refine lv_iload_n S.1 S.2.1 dL_value_4 rfl (lv_at hl 2 rfl) ?_
  refine wl_call (w := cc_w K) (As := [.int x, .int y]) S hI.2.2.2.1 hC okX10_value rfl gL_value_X10_value ⟨Nat.le_of_ble_eq_true rfl, Nat.le_of_ble_eq_true rfl⟩ ⟨Nat.le_of_ble_eq_true rfl, Nat.le_of_ble_eq_true rfl⟩ (o := 0) (show 0 < 32 by decide) rfl rfl hl.1 rfl (Nat.le_of_ble_eq_true rfl) dL_value_5 hI.2.1 va_S.rf (fun H1 locs1 hP1 hz1 hk1 hS1 => ?_)
  have hO1 := wr_out hI hI.2.2.1 hk1
  refine lv_i2l (v := r.toInt64) S.1 S.2.1 dL_value_8 rfl ?_
  refine wl_last S.1 S.2.1 hI.2.2.2.2.1 hO1 hS1 (wr_free hI) (t0 := 0) rfl (vp_in_nI (n := 0) (N := 1) (by omega) (by omega)) dL_value_9 (fun H2 locs2 hO2 hz2 hk2 hS2 => ?_)
  refine lv_goto (tgt := 17) S.1 S.2.1 dL_value_10 (by decide) ?_
  exact wr_end S hr rfl hlocks (by omega) (by omega) dL_value_17 (by decide) dL_value_18 (wr_in hI hP1 hk2) hO2 hS2
theorem wr_value_x1 {cl : ClassId} {f : Nat → Int64} {x : Int32} {y : Int32} (hC : cw_T (cc_w K) mX10_value [.ref (cw_a (cc_w K) 0), .int x, .int y] I "java/lang/IndexOutOfBoundsException" I2) : wr_C K mL_value [.ref (cw_a (cc_w K) 0), .int x, .int y, .ref qo] I qo (lo cl f) (cl, .long) 1 I2 (lo cl f) := by
  refine wr_entry (hh := [(0, 10, 13, 29)]) (by decide) ⟨_, rfl⟩ rfl (Nat.le_of_ble_eq_true rfl) (fun p e s m below meth c ls S hr hlocks htb hI hl => ?_)
  have hl : lv_has ls 5 [(0, .ref (cw_a (cc_w K) 0)), (1, .int x), (2, .int y), (3, .ref qo)] := hl
  refine lv_aload_n S.1 S.2.1 dL_value_0 rfl (lv_at hl 3 rfl) ?_
  refine lv_iconst (v := 0) S.1 S.2.1 dL_value_1 (by decide) ?_
  refine lv_aload_n S.1 S.2.1 dL_value_2 rfl (lv_at hl 0 rfl) ?_
  refine lv_iload_n S.1 S.2.1 dL_value_3 rfl (lv_at hl 1 rfl) ?_
  refine lv_iload_n S.1 S.2.1 dL_value_4 rfl (lv_at hl 2 rfl) ?_
  refine wl_callT (w := cc_w K) (As := [.int x, .int y]) S hI.2.2.2.1 hC okX10_value rfl gL_value_X10_value ⟨Nat.le_of_ble_eq_true rfl, Nat.le_of_ble_eq_true rfl⟩ ⟨Nat.le_of_ble_eq_true rfl, Nat.le_of_ble_eq_true rfl⟩ (o := 0) (show 0 < 32 by decide) rfl rfl hl.1 rfl (Nat.le_of_ble_eq_true rfl) dL_value_5 hI.2.1 va_S.rf (fun H1 locs1 q9 ce hP1 hz1 hk1 hS1 hce hcv hcl => ?_)
  have hO1 := wr_out hI hI.2.2.1 hk1
  refine wr_caught (hh := [(0, 10, 13, 29)]) (pre := []) (x := ⟨0, 10, 13, 29⟩) (suf := []) S hr rfl hlocks hI htb rfl (fun z hz => nomatch hz) (fun y => absurd rfl y) (by decide) (by decide) lk_value_29 (by decide) hce hcv hcl ?_
  refine lv_astore (lv' := [(4, .ref q9), (0, .ref (cw_a (cc_w K) 0)), (1, .int x), (2, .int y), (3, .ref qo)]) S.1 S.2.1 dL_value_13 hl (by decide) rfl (fun ls hl => ?_)
  exact wr_end S hr rfl hlocks (by omega) (by omega) dL_value_15 (by decide) dL_value_16 hP1 hO1 hS1
theorem lk_owner_29 : Cond.classLink RL 29 "java/lang/IndexOutOfBoundsException" ∈ wsL_owner := by decide +kernel
def mL_owner : cw_Me := (yL_owner, wsL_owner, cL_owner, 4, (some .int), 8, 132)
theorem wr_owner_ok {cl : ClassId} {f : Nat → Int64} {x : Int32} {r : Int32} (hC : cw_C (cc_w K) mX10_owner [.ref (cw_a (cc_w K) 0), .int x] I (some (.int r)) I2) : wr_C K mL_owner [.ref (cw_a (cc_w K) 0), .int x, .ref qo] I qo (lo cl f) (cl, .long) 0 I2 (lo cl (vp_updL f 0 (r.toInt64))) := by
  refine wr_entry (hh := [(0, 9, 12, 29)]) (by decide) ⟨_, rfl⟩ rfl (Nat.le_of_ble_eq_true rfl) (fun p e s m below meth c ls S hr hlocks htb hI hl => ?_)
  have hl : lv_has ls 4 [(0, .ref (cw_a (cc_w K) 0)), (1, .int x), (2, .ref qo)] := hl
  refine lv_aload_n S.1 S.2.1 dL_owner_0 rfl (lv_at hl 2 rfl) ?_
  refine lv_iconst (v := 0) S.1 S.2.1 dL_owner_1 (by decide) ?_
  refine lv_aload_n S.1 S.2.1 dL_owner_2 rfl (lv_at hl 0 rfl) ?_
  refine lv_iload_n S.1 S.2.1 dL_owner_3 rfl (lv_at hl 1 rfl) ?_
  refine wl_call (w := cc_w K) (As := [.int x]) S hI.2.2.2.1 hC okX10_owner rfl gL_owner_X10_owner ⟨Nat.le_of_ble_eq_true rfl, Nat.le_of_ble_eq_true rfl⟩ ⟨Nat.le_of_ble_eq_true rfl, Nat.le_of_ble_eq_true rfl⟩ (o := 0) (show 0 < 32 by decide) rfl rfl hl.1 rfl (Nat.le_of_ble_eq_true rfl) dL_owner_4 hI.2.1 va_S.rf (fun H1 locs1 hP1 hz1 hk1 hS1 => ?_)
  have hO1 := wr_out hI hI.2.2.1 hk1
  refine lv_i2l (v := r.toInt64) S.1 S.2.1 dL_owner_7 rfl ?_
  refine wl_last S.1 S.2.1 hI.2.2.2.2.1 hO1 hS1 (wr_free hI) (t0 := 0) rfl (vp_in_nI (n := 0) (N := 1) (by omega) (by omega)) dL_owner_8 (fun H2 locs2 hO2 hz2 hk2 hS2 => ?_)
  refine lv_goto (tgt := 15) S.1 S.2.1 dL_owner_9 (by decide) ?_
  exact wr_end S hr rfl hlocks (by omega) (by omega) dL_owner_15 (by decide) dL_owner_16 (wr_in hI hP1 hk2) hO2 hS2
theorem wr_owner_x1 {cl : ClassId} {f : Nat → Int64} {x : Int32} (hC : cw_T (cc_w K) mX10_owner [.ref (cw_a (cc_w K) 0), .int x] I "java/lang/IndexOutOfBoundsException" I2) : wr_C K mL_owner [.ref (cw_a (cc_w K) 0), .int x, .ref qo] I qo (lo cl f) (cl, .long) 1 I2 (lo cl f) := by
  refine wr_entry (hh := [(0, 9, 12, 29)]) (by decide) ⟨_, rfl⟩ rfl (Nat.le_of_ble_eq_true rfl) (fun p e s m below meth c ls S hr hlocks htb hI hl => ?_)
  have hl : lv_has ls 4 [(0, .ref (cw_a (cc_w K) 0)), (1, .int x), (2, .ref qo)] := hl
  refine lv_aload_n S.1 S.2.1 dL_owner_0 rfl (lv_at hl 2 rfl) ?_
  refine lv_iconst (v := 0) S.1 S.2.1 dL_owner_1 (by decide) ?_
  refine lv_aload_n S.1 S.2.1 dL_owner_2 rfl (lv_at hl 0 rfl) ?_
  refine lv_iload_n S.1 S.2.1 dL_owner_3 rfl (lv_at hl 1 rfl) ?_
  refine wl_callT (w := cc_w K) (As := [.int x]) S hI.2.2.2.1 hC okX10_owner rfl gL_owner_X10_owner ⟨Nat.le_of_ble_eq_true rfl, Nat.le_of_ble_eq_true rfl⟩ ⟨Nat.le_of_ble_eq_true rfl, Nat.le_of_ble_eq_true rfl⟩ (o := 0) (show 0 < 32 by decide) rfl rfl hl.1 rfl (Nat.le_of_ble_eq_true rfl) dL_owner_4 hI.2.1 va_S.rf (fun H1 locs1 q9 ce hP1 hz1 hk1 hS1 hce hcv hcl => ?_)
  have hO1 := wr_out hI hI.2.2.1 hk1
  refine wr_caught (hh := [(0, 9, 12, 29)]) (pre := []) (x := ⟨0, 9, 12, 29⟩) (suf := []) S hr rfl hlocks hI htb rfl (fun z hz => nomatch hz) (fun y => absurd rfl y) (by decide) (by decide) lk_owner_29 (by decide) hce hcv hcl ?_
  refine lv_astore_n (lv' := [(3, .ref q9), (0, .ref (cw_a (cc_w K) 0)), (1, .int x), (2, .ref qo)]) S.1 S.2.1 dL_owner_12 rfl hl (by decide) rfl (fun ls hl => ?_)
  exact wr_end S hr rfl hlocks (by omega) (by omega) dL_owner_13 (by decide) dL_owner_14 hP1 hO1 hS1
theorem lk_worth_29 : Cond.classLink RL 29 "java/lang/IndexOutOfBoundsException" ∈ wsL_worth ++ [Cond.classLink RL 19 "java/lang/IllegalArgumentException"] := by decide +kernel
theorem lk_worth_19 : Cond.classLink RL 19 "java/lang/IllegalArgumentException" ∈ wsL_worth ++ [Cond.classLink RL 19 "java/lang/IllegalArgumentException"] := by decide +kernel
def mL_worth : cw_Me := (yL_worth, wsL_worth ++ [Cond.classLink RL 19 "java/lang/IllegalArgumentException"], cL_worth, 6, (some .int), 8, 135)
theorem wr_worth_ok {cl : ClassId} {f : Nat → Int64} {x : Int32} {y : Int32} {z : Int32} {r : Int32} (hC : cw_C (cc_w K) mX10_worth [.ref (cw_a (cc_w K) 0), .int x, .int y, .int z] I (some (.int r)) I2) : wr_C K mL_worth [.ref (cw_a (cc_w K) 0), .int x, .int y, .int z, .ref qo] I qo (lo cl f) (cl, .long) 0 I2 (lo cl (vp_updL f 0 (r.toInt64))) := by
  refine wr_entry (hh := [(0, 12, 15, 29), (0, 12, 19, 19)]) (by decide) ⟨_, rfl⟩ rfl (Nat.le_of_ble_eq_true rfl) (fun p e s m below meth c ls S hr hlocks htb hI hl => ?_)
  have hl : lv_has ls 6 [(0, .ref (cw_a (cc_w K) 0)), (1, .int x), (2, .int y), (3, .int z), (4, .ref qo)] := hl
  refine lv_aload S.1 S.2.1 dL_worth_0 (lv_at hl 4 rfl) ?_
  refine lv_iconst (v := 0) S.1 S.2.1 dL_worth_2 (by decide) ?_
  refine lv_aload_n S.1 S.2.1 dL_worth_3 rfl (lv_at hl 0 rfl) ?_
  refine lv_iload_n S.1 S.2.1 dL_worth_4 rfl (lv_at hl 1 rfl) ?_
  refine lv_iload_n S.1 S.2.1 dL_worth_5 rfl (lv_at hl 2 rfl) ?_
  refine lv_iload_n S.1 S.2.1 dL_worth_6 rfl (lv_at hl 3 rfl) ?_
  refine wl_call (w := cc_w K) (As := [.int x, .int y, .int z]) S hI.2.2.2.1 hC okX10_worth rfl (wr_gl gL_worth_X10_worth) ⟨Nat.le_of_ble_eq_true rfl, Nat.le_of_ble_eq_true rfl⟩ ⟨Nat.le_of_ble_eq_true rfl, Nat.le_of_ble_eq_true rfl⟩ (o := 0) (show 0 < 32 by decide) rfl rfl hl.1 rfl (Nat.le_of_ble_eq_true rfl) dL_worth_7 hI.2.1 va_S.rf (fun H1 locs1 hP1 hz1 hk1 hS1 => ?_)
  have hO1 := wr_out hI hI.2.2.1 hk1
  refine lv_i2l (v := r.toInt64) S.1 S.2.1 dL_worth_10 rfl ?_
  refine wl_last S.1 S.2.1 hI.2.2.2.2.1 hO1 hS1 (wr_free hI) (t0 := 0) rfl (vp_in_nI (n := 0) (N := 1) (by omega) (by omega)) dL_worth_11 (fun H2 locs2 hO2 hz2 hk2 hS2 => ?_)
  refine lv_goto (tgt := 23) S.1 S.2.1 dL_worth_12 (by decide) ?_
  exact wr_end S hr rfl hlocks (by omega) (by omega) dL_worth_23 (by decide) dL_worth_24 (wr_in hI hP1 hk2) hO2 hS2
theorem wr_worth_x1 {cl : ClassId} {f : Nat → Int64} {x : Int32} {y : Int32} {z : Int32} (hC : cw_T (cc_w K) mX10_worth [.ref (cw_a (cc_w K) 0), .int x, .int y, .int z] I "java/lang/IndexOutOfBoundsException" I2) : wr_C K mL_worth [.ref (cw_a (cc_w K) 0), .int x, .int y, .int z, .ref qo] I qo (lo cl f) (cl, .long) 1 I2 (lo cl f) := by
  refine wr_entry (hh := [(0, 12, 15, 29), (0, 12, 19, 19)]) (by decide) ⟨_, rfl⟩ rfl (Nat.le_of_ble_eq_true rfl) (fun p e s m below meth c ls S hr hlocks htb hI hl => ?_)
  have hl : lv_has ls 6 [(0, .ref (cw_a (cc_w K) 0)), (1, .int x), (2, .int y), (3, .int z), (4, .ref qo)] := hl
  refine lv_aload S.1 S.2.1 dL_worth_0 (lv_at hl 4 rfl) ?_
  refine lv_iconst (v := 0) S.1 S.2.1 dL_worth_2 (by decide) ?_
  refine lv_aload_n S.1 S.2.1 dL_worth_3 rfl (lv_at hl 0 rfl) ?_
  refine lv_iload_n S.1 S.2.1 dL_worth_4 rfl (lv_at hl 1 rfl) ?_
  refine lv_iload_n S.1 S.2.1 dL_worth_5 rfl (lv_at hl 2 rfl) ?_
  refine lv_iload_n S.1 S.2.1 dL_worth_6 rfl (lv_at hl 3 rfl) ?_
  refine wl_callT (w := cc_w K) (As := [.int x, .int y, .int z]) S hI.2.2.2.1 hC okX10_worth rfl (wr_gl gL_worth_X10_worth) ⟨Nat.le_of_ble_eq_true rfl, Nat.le_of_ble_eq_true rfl⟩ ⟨Nat.le_of_ble_eq_true rfl, Nat.le_of_ble_eq_true rfl⟩ (o := 0) (show 0 < 32 by decide) rfl rfl hl.1 rfl (Nat.le_of_ble_eq_true rfl) dL_worth_7 hI.2.1 va_S.rf (fun H1 locs1 q9 ce hP1 hz1 hk1 hS1 hce hcv hcl => ?_)
  have hO1 := wr_out hI hI.2.2.1 hk1
  refine wr_caught (hh := [(0, 12, 15, 29), (0, 12, 19, 19)]) (pre := []) (x := ⟨0, 12, 15, 29⟩) (suf := [⟨0, 12, 19, 19⟩]) S hr rfl hlocks hI htb rfl (fun z hz => nomatch hz) (fun y => absurd rfl y) (by decide) (by decide) lk_worth_29 (by decide) hce hcv hcl ?_
  refine lv_astore (lv' := [(5, .ref q9), (0, .ref (cw_a (cc_w K) 0)), (1, .int x), (2, .int y), (3, .int z), (4, .ref qo)]) S.1 S.2.1 dL_worth_15 hl (by decide) rfl (fun ls hl => ?_)
  exact wr_end S hr rfl hlocks (by omega) (by omega) dL_worth_17 (by decide) dL_worth_18 hP1 hO1 hS1
theorem wr_worth_x2 {cl : ClassId} {f : Nat → Int64} {x : Int32} {y : Int32} {z : Int32} (hC : cw_T (cc_w K) mX10_worth [.ref (cw_a (cc_w K) 0), .int x, .int y, .int z] I "java/lang/IllegalArgumentException" I2) : wr_C K mL_worth [.ref (cw_a (cc_w K) 0), .int x, .int y, .int z, .ref qo] I qo (lo cl f) (cl, .long) 2 I2 (lo cl f) := by
  refine wr_entry (hh := [(0, 12, 15, 29), (0, 12, 19, 19)]) (by decide) ⟨_, rfl⟩ rfl (Nat.le_of_ble_eq_true rfl) (fun p e s m below meth c ls S hr hlocks htb hI hl => ?_)
  have hl : lv_has ls 6 [(0, .ref (cw_a (cc_w K) 0)), (1, .int x), (2, .int y), (3, .int z), (4, .ref qo)] := hl
  refine lv_aload S.1 S.2.1 dL_worth_0 (lv_at hl 4 rfl) ?_
  refine lv_iconst (v := 0) S.1 S.2.1 dL_worth_2 (by decide) ?_
  refine lv_aload_n S.1 S.2.1 dL_worth_3 rfl (lv_at hl 0 rfl) ?_
  refine lv_iload_n S.1 S.2.1 dL_worth_4 rfl (lv_at hl 1 rfl) ?_
  refine lv_iload_n S.1 S.2.1 dL_worth_5 rfl (lv_at hl 2 rfl) ?_
  refine lv_iload_n S.1 S.2.1 dL_worth_6 rfl (lv_at hl 3 rfl) ?_
  refine wl_callT (w := cc_w K) (As := [.int x, .int y, .int z]) S hI.2.2.2.1 hC okX10_worth rfl (wr_gl gL_worth_X10_worth) ⟨Nat.le_of_ble_eq_true rfl, Nat.le_of_ble_eq_true rfl⟩ ⟨Nat.le_of_ble_eq_true rfl, Nat.le_of_ble_eq_true rfl⟩ (o := 0) (show 0 < 32 by decide) rfl rfl hl.1 rfl (Nat.le_of_ble_eq_true rfl) dL_worth_7 hI.2.1 va_S.rf (fun H1 locs1 q9 ce hP1 hz1 hk1 hS1 hce hcv hcl => ?_)
  have hO1 := wr_out hI hI.2.2.1 hk1
  refine wr_caught (hh := [(0, 12, 15, 29), (0, 12, 19, 19)]) (pre := [⟨0, 12, 15, 29⟩]) (x := ⟨0, 12, 19, 19⟩) (suf := []) S hr rfl hlocks hI htb rfl (fun z hz => by rcases List.mem_singleton.mp hz with rfl; exact ⟨rfl, by decide⟩) (fun _ => lk_worth_29) (by decide) (by decide) lk_worth_19 (by decide) hce hcv hcl ?_
  refine lv_astore (lv' := [(5, .ref q9), (0, .ref (cw_a (cc_w K) 0)), (1, .int x), (2, .int y), (3, .int z), (4, .ref qo)]) S.1 S.2.1 dL_worth_19 hl (by decide) rfl (fun ls hl => ?_)
  exact wr_end S hr rfl hlocks (by omega) (by omega) dL_worth_21 (by decide) dL_worth_22 hP1 hO1 hS1
theorem lk_total_29 : Cond.classLink RL 29 "java/lang/IndexOutOfBoundsException" ∈ wsL_total := by decide +kernel
def mL_total : cw_Me := (yL_total, wsL_total, cL_total, 4, (some .int), 8, 132)
theorem wr_total_ok {cl : ClassId} {f : Nat → Int64} {x : Int32} {r : Int32} (hC : cw_C (cc_w K) mX10_total [.ref (cw_a (cc_w K) 0), .int x] I (some (.int r)) I2) : wr_C K mL_total [.ref (cw_a (cc_w K) 0), .int x, .ref qo] I qo (lo cl f) (cl, .long) 0 I2 (lo cl (vp_updL f 0 (r.toInt64))) := by
  refine wr_entry (hh := [(0, 9, 12, 29)]) (by decide) ⟨_, rfl⟩ rfl (Nat.le_of_ble_eq_true rfl) (fun p e s m below meth c ls S hr hlocks htb hI hl => ?_)
  have hl : lv_has ls 4 [(0, .ref (cw_a (cc_w K) 0)), (1, .int x), (2, .ref qo)] := hl
  refine lv_aload_n S.1 S.2.1 dL_total_0 rfl (lv_at hl 2 rfl) ?_
  refine lv_iconst (v := 0) S.1 S.2.1 dL_total_1 (by decide) ?_
  refine lv_aload_n S.1 S.2.1 dL_total_2 rfl (lv_at hl 0 rfl) ?_
  refine lv_iload_n S.1 S.2.1 dL_total_3 rfl (lv_at hl 1 rfl) ?_
  refine wl_call (w := cc_w K) (As := [.int x]) S hI.2.2.2.1 hC okX10_total rfl gL_total_X10_total ⟨Nat.le_of_ble_eq_true rfl, Nat.le_of_ble_eq_true rfl⟩ ⟨Nat.le_of_ble_eq_true rfl, Nat.le_of_ble_eq_true rfl⟩ (o := 0) (show 0 < 32 by decide) rfl rfl hl.1 rfl (Nat.le_of_ble_eq_true rfl) dL_total_4 hI.2.1 va_S.rf (fun H1 locs1 hP1 hz1 hk1 hS1 => ?_)
  have hO1 := wr_out hI hI.2.2.1 hk1
  refine lv_i2l (v := r.toInt64) S.1 S.2.1 dL_total_7 rfl ?_
  refine wl_last S.1 S.2.1 hI.2.2.2.2.1 hO1 hS1 (wr_free hI) (t0 := 0) rfl (vp_in_nI (n := 0) (N := 1) (by omega) (by omega)) dL_total_8 (fun H2 locs2 hO2 hz2 hk2 hS2 => ?_)
  refine lv_goto (tgt := 15) S.1 S.2.1 dL_total_9 (by decide) ?_
  exact wr_end S hr rfl hlocks (by omega) (by omega) dL_total_15 (by decide) dL_total_16 (wr_in hI hP1 hk2) hO2 hS2
theorem wr_total_x1 {cl : ClassId} {f : Nat → Int64} {x : Int32} (hC : cw_T (cc_w K) mX10_total [.ref (cw_a (cc_w K) 0), .int x] I "java/lang/IndexOutOfBoundsException" I2) : wr_C K mL_total [.ref (cw_a (cc_w K) 0), .int x, .ref qo] I qo (lo cl f) (cl, .long) 1 I2 (lo cl f) := by
  refine wr_entry (hh := [(0, 9, 12, 29)]) (by decide) ⟨_, rfl⟩ rfl (Nat.le_of_ble_eq_true rfl) (fun p e s m below meth c ls S hr hlocks htb hI hl => ?_)
  have hl : lv_has ls 4 [(0, .ref (cw_a (cc_w K) 0)), (1, .int x), (2, .ref qo)] := hl
  refine lv_aload_n S.1 S.2.1 dL_total_0 rfl (lv_at hl 2 rfl) ?_
  refine lv_iconst (v := 0) S.1 S.2.1 dL_total_1 (by decide) ?_
  refine lv_aload_n S.1 S.2.1 dL_total_2 rfl (lv_at hl 0 rfl) ?_
  refine lv_iload_n S.1 S.2.1 dL_total_3 rfl (lv_at hl 1 rfl) ?_
  refine wl_callT (w := cc_w K) (As := [.int x]) S hI.2.2.2.1 hC okX10_total rfl gL_total_X10_total ⟨Nat.le_of_ble_eq_true rfl, Nat.le_of_ble_eq_true rfl⟩ ⟨Nat.le_of_ble_eq_true rfl, Nat.le_of_ble_eq_true rfl⟩ (o := 0) (show 0 < 32 by decide) rfl rfl hl.1 rfl (Nat.le_of_ble_eq_true rfl) dL_total_4 hI.2.1 va_S.rf (fun H1 locs1 q9 ce hP1 hz1 hk1 hS1 hce hcv hcl => ?_)
  have hO1 := wr_out hI hI.2.2.1 hk1
  refine wr_caught (hh := [(0, 9, 12, 29)]) (pre := []) (x := ⟨0, 9, 12, 29⟩) (suf := []) S hr rfl hlocks hI htb rfl (fun z hz => nomatch hz) (fun y => absurd rfl y) (by decide) (by decide) lk_total_29 (by decide) hce hcv hcl ?_
  refine lv_astore_n (lv' := [(3, .ref q9), (0, .ref (cw_a (cc_w K) 0)), (1, .int x), (2, .ref qo)]) S.1 S.2.1 dL_total_12 rfl hl (by decide) rfl (fun ls hl => ?_)
  exact wr_end S hr rfl hlocks (by omega) (by omega) dL_total_13 (by decide) dL_total_14 hP1 hO1 hS1
theorem lk_worthOfShare_29 : Cond.classLink RL 29 "java/lang/IndexOutOfBoundsException" ∈ wsL_worthOfShare := by decide +kernel
def mL_worthOfShare : cw_Me := (yL_worthOfShare, wsL_worthOfShare, cL_worthOfShare, 5, (some .int), 8, 133)
theorem wr_worthOfShare_ok {cl : ClassId} {f : Nat → Int64} {x : Int32} {y : Int32} {r : Int32} (hC : cw_C (cc_w K) mX10_worthOfShare [.ref (cw_a (cc_w K) 0), .int x, .int y] I (some (.int r)) I2) : wr_C K mL_worthOfShare [.ref (cw_a (cc_w K) 0), .int x, .int y, .ref qo] I qo (lo cl f) (cl, .long) 0 I2 (lo cl (vp_updL f 0 (r.toInt64))) := by
  refine wr_entry (hh := [(0, 10, 13, 29)]) (by decide) ⟨_, rfl⟩ rfl (Nat.le_of_ble_eq_true rfl) (fun p e s m below meth c ls S hr hlocks htb hI hl => ?_)
  have hl : lv_has ls 5 [(0, .ref (cw_a (cc_w K) 0)), (1, .int x), (2, .int y), (3, .ref qo)] := hl
  refine lv_aload_n S.1 S.2.1 dL_worthOfShare_0 rfl (lv_at hl 3 rfl) ?_
  refine lv_iconst (v := 0) S.1 S.2.1 dL_worthOfShare_1 (by decide) ?_
  refine lv_aload_n S.1 S.2.1 dL_worthOfShare_2 rfl (lv_at hl 0 rfl) ?_
  refine lv_iload_n S.1 S.2.1 dL_worthOfShare_3 rfl (lv_at hl 1 rfl) ?_
  refine lv_iload_n S.1 S.2.1 dL_worthOfShare_4 rfl (lv_at hl 2 rfl) ?_
  refine wl_call (w := cc_w K) (As := [.int x, .int y]) S hI.2.2.2.1 hC okX10_worthOfShare rfl gL_worthOfShare_X10_worthOfShare ⟨Nat.le_of_ble_eq_true rfl, Nat.le_of_ble_eq_true rfl⟩ ⟨Nat.le_of_ble_eq_true rfl, Nat.le_of_ble_eq_true rfl⟩ (o := 0) (show 0 < 32 by decide) rfl rfl hl.1 rfl (Nat.le_of_ble_eq_true rfl) dL_worthOfShare_5 hI.2.1 va_S.rf (fun H1 locs1 hP1 hz1 hk1 hS1 => ?_)
  have hO1 := wr_out hI hI.2.2.1 hk1
  refine lv_i2l (v := r.toInt64) S.1 S.2.1 dL_worthOfShare_8 rfl ?_
  refine wl_last S.1 S.2.1 hI.2.2.2.2.1 hO1 hS1 (wr_free hI) (t0 := 0) rfl (vp_in_nI (n := 0) (N := 1) (by omega) (by omega)) dL_worthOfShare_9 (fun H2 locs2 hO2 hz2 hk2 hS2 => ?_)
  refine lv_goto (tgt := 17) S.1 S.2.1 dL_worthOfShare_10 (by decide) ?_
  exact wr_end S hr rfl hlocks (by omega) (by omega) dL_worthOfShare_17 (by decide) dL_worthOfShare_18 (wr_in hI hP1 hk2) hO2 hS2
theorem wr_worthOfShare_x1 {cl : ClassId} {f : Nat → Int64} {x : Int32} {y : Int32} (hC : cw_T (cc_w K) mX10_worthOfShare [.ref (cw_a (cc_w K) 0), .int x, .int y] I "java/lang/IndexOutOfBoundsException" I2) : wr_C K mL_worthOfShare [.ref (cw_a (cc_w K) 0), .int x, .int y, .ref qo] I qo (lo cl f) (cl, .long) 1 I2 (lo cl f) := by
  refine wr_entry (hh := [(0, 10, 13, 29)]) (by decide) ⟨_, rfl⟩ rfl (Nat.le_of_ble_eq_true rfl) (fun p e s m below meth c ls S hr hlocks htb hI hl => ?_)
  have hl : lv_has ls 5 [(0, .ref (cw_a (cc_w K) 0)), (1, .int x), (2, .int y), (3, .ref qo)] := hl
  refine lv_aload_n S.1 S.2.1 dL_worthOfShare_0 rfl (lv_at hl 3 rfl) ?_
  refine lv_iconst (v := 0) S.1 S.2.1 dL_worthOfShare_1 (by decide) ?_
  refine lv_aload_n S.1 S.2.1 dL_worthOfShare_2 rfl (lv_at hl 0 rfl) ?_
  refine lv_iload_n S.1 S.2.1 dL_worthOfShare_3 rfl (lv_at hl 1 rfl) ?_
  refine lv_iload_n S.1 S.2.1 dL_worthOfShare_4 rfl (lv_at hl 2 rfl) ?_
  refine wl_callT (w := cc_w K) (As := [.int x, .int y]) S hI.2.2.2.1 hC okX10_worthOfShare rfl gL_worthOfShare_X10_worthOfShare ⟨Nat.le_of_ble_eq_true rfl, Nat.le_of_ble_eq_true rfl⟩ ⟨Nat.le_of_ble_eq_true rfl, Nat.le_of_ble_eq_true rfl⟩ (o := 0) (show 0 < 32 by decide) rfl rfl hl.1 rfl (Nat.le_of_ble_eq_true rfl) dL_worthOfShare_5 hI.2.1 va_S.rf (fun H1 locs1 q9 ce hP1 hz1 hk1 hS1 hce hcv hcl => ?_)
  have hO1 := wr_out hI hI.2.2.1 hk1
  refine wr_caught (hh := [(0, 10, 13, 29)]) (pre := []) (x := ⟨0, 10, 13, 29⟩) (suf := []) S hr rfl hlocks hI htb rfl (fun z hz => nomatch hz) (fun y => absurd rfl y) (by decide) (by decide) lk_worthOfShare_29 (by decide) hce hcv hcl ?_
  refine lv_astore (lv' := [(4, .ref q9), (0, .ref (cw_a (cc_w K) 0)), (1, .int x), (2, .int y), (3, .ref qo)]) S.1 S.2.1 dL_worthOfShare_13 hl (by decide) rfl (fun ls hl => ?_)
  exact wr_end S hr rfl hlocks (by omega) (by omega) dL_worthOfShare_15 (by decide) dL_worthOfShare_16 hP1 hO1 hS1
theorem lk_shareSize_29 : Cond.classLink RL 29 "java/lang/IndexOutOfBoundsException" ∈ wsL_shareSize := by decide +kernel
def mL_shareSize : cw_Me := (yL_shareSize, wsL_shareSize, cL_shareSize, 4, (some .int), 8, 132)
theorem wr_shareSize_ok {cl : ClassId} {f : Nat → Int64} {x : Int32} {r : Int32} (hC : cw_C (cc_w K) mX10_shareSize [.ref (cw_a (cc_w K) 0), .int x] I (some (.int r)) I2) : wr_C K mL_shareSize [.ref (cw_a (cc_w K) 0), .int x, .ref qo] I qo (lo cl f) (cl, .long) 0 I2 (lo cl (vp_updL f 0 (r.toInt64))) := by
  refine wr_entry (hh := [(0, 9, 12, 29)]) (by decide) ⟨_, rfl⟩ rfl (Nat.le_of_ble_eq_true rfl) (fun p e s m below meth c ls S hr hlocks htb hI hl => ?_)
  have hl : lv_has ls 4 [(0, .ref (cw_a (cc_w K) 0)), (1, .int x), (2, .ref qo)] := hl
  refine lv_aload_n S.1 S.2.1 dL_shareSize_0 rfl (lv_at hl 2 rfl) ?_
  refine lv_iconst (v := 0) S.1 S.2.1 dL_shareSize_1 (by decide) ?_
  refine lv_aload_n S.1 S.2.1 dL_shareSize_2 rfl (lv_at hl 0 rfl) ?_
  refine lv_iload_n S.1 S.2.1 dL_shareSize_3 rfl (lv_at hl 1 rfl) ?_
  refine wl_call (w := cc_w K) (As := [.int x]) S hI.2.2.2.1 hC okX10_shareSize rfl gL_shareSize_X10_shareSize ⟨Nat.le_of_ble_eq_true rfl, Nat.le_of_ble_eq_true rfl⟩ ⟨Nat.le_of_ble_eq_true rfl, Nat.le_of_ble_eq_true rfl⟩ (o := 0) (show 0 < 32 by decide) rfl rfl hl.1 rfl (Nat.le_of_ble_eq_true rfl) dL_shareSize_4 hI.2.1 va_S.rf (fun H1 locs1 hP1 hz1 hk1 hS1 => ?_)
  have hO1 := wr_out hI hI.2.2.1 hk1
  refine lv_i2l (v := r.toInt64) S.1 S.2.1 dL_shareSize_7 rfl ?_
  refine wl_last S.1 S.2.1 hI.2.2.2.2.1 hO1 hS1 (wr_free hI) (t0 := 0) rfl (vp_in_nI (n := 0) (N := 1) (by omega) (by omega)) dL_shareSize_8 (fun H2 locs2 hO2 hz2 hk2 hS2 => ?_)
  refine lv_goto (tgt := 15) S.1 S.2.1 dL_shareSize_9 (by decide) ?_
  exact wr_end S hr rfl hlocks (by omega) (by omega) dL_shareSize_15 (by decide) dL_shareSize_16 (wr_in hI hP1 hk2) hO2 hS2
theorem wr_shareSize_x1 {cl : ClassId} {f : Nat → Int64} {x : Int32} (hC : cw_T (cc_w K) mX10_shareSize [.ref (cw_a (cc_w K) 0), .int x] I "java/lang/IndexOutOfBoundsException" I2) : wr_C K mL_shareSize [.ref (cw_a (cc_w K) 0), .int x, .ref qo] I qo (lo cl f) (cl, .long) 1 I2 (lo cl f) := by
  refine wr_entry (hh := [(0, 9, 12, 29)]) (by decide) ⟨_, rfl⟩ rfl (Nat.le_of_ble_eq_true rfl) (fun p e s m below meth c ls S hr hlocks htb hI hl => ?_)
  have hl : lv_has ls 4 [(0, .ref (cw_a (cc_w K) 0)), (1, .int x), (2, .ref qo)] := hl
  refine lv_aload_n S.1 S.2.1 dL_shareSize_0 rfl (lv_at hl 2 rfl) ?_
  refine lv_iconst (v := 0) S.1 S.2.1 dL_shareSize_1 (by decide) ?_
  refine lv_aload_n S.1 S.2.1 dL_shareSize_2 rfl (lv_at hl 0 rfl) ?_
  refine lv_iload_n S.1 S.2.1 dL_shareSize_3 rfl (lv_at hl 1 rfl) ?_
  refine wl_callT (w := cc_w K) (As := [.int x]) S hI.2.2.2.1 hC okX10_shareSize rfl gL_shareSize_X10_shareSize ⟨Nat.le_of_ble_eq_true rfl, Nat.le_of_ble_eq_true rfl⟩ ⟨Nat.le_of_ble_eq_true rfl, Nat.le_of_ble_eq_true rfl⟩ (o := 0) (show 0 < 32 by decide) rfl rfl hl.1 rfl (Nat.le_of_ble_eq_true rfl) dL_shareSize_4 hI.2.1 va_S.rf (fun H1 locs1 q9 ce hP1 hz1 hk1 hS1 hce hcv hcl => ?_)
  have hO1 := wr_out hI hI.2.2.1 hk1
  refine wr_caught (hh := [(0, 9, 12, 29)]) (pre := []) (x := ⟨0, 9, 12, 29⟩) (suf := []) S hr rfl hlocks hI htb rfl (fun z hz => nomatch hz) (fun y => absurd rfl y) (by decide) (by decide) lk_shareSize_29 (by decide) hce hcv hcl ?_
  refine lv_astore_n (lv' := [(3, .ref q9), (0, .ref (cw_a (cc_w K) 0)), (1, .int x), (2, .ref qo)]) S.1 S.2.1 dL_shareSize_12 rfl hl (by decide) rfl (fun ls hl => ?_)
  exact wr_end S hr rfl hlocks (by omega) (by omega) dL_shareSize_13 (by decide) dL_shareSize_14 hP1 hO1 hS1
theorem lk_pieceCount_29 : Cond.classLink RL 29 "java/lang/IndexOutOfBoundsException" ∈ wsL_pieceCount := by decide +kernel
def mL_pieceCount : cw_Me := (yL_pieceCount, wsL_pieceCount, cL_pieceCount, 4, (some .int), 8, 132)
theorem wr_pieceCount_ok {cl : ClassId} {f : Nat → Int64} {x : Int32} {r : Int32} (hC : cw_C (cc_w K) mX10_pieceCount [.ref (cw_a (cc_w K) 0), .int x] I (some (.int r)) I2) : wr_C K mL_pieceCount [.ref (cw_a (cc_w K) 0), .int x, .ref qo] I qo (lo cl f) (cl, .long) 0 I2 (lo cl (vp_updL f 0 (r.toInt64))) := by
  refine wr_entry (hh := [(0, 9, 12, 29)]) (by decide) ⟨_, rfl⟩ rfl (Nat.le_of_ble_eq_true rfl) (fun p e s m below meth c ls S hr hlocks htb hI hl => ?_)
  have hl : lv_has ls 4 [(0, .ref (cw_a (cc_w K) 0)), (1, .int x), (2, .ref qo)] := hl
  refine lv_aload_n S.1 S.2.1 dL_pieceCount_0 rfl (lv_at hl 2 rfl) ?_
  refine lv_iconst (v := 0) S.1 S.2.1 dL_pieceCount_1 (by decide) ?_
  refine lv_aload_n S.1 S.2.1 dL_pieceCount_2 rfl (lv_at hl 0 rfl) ?_
  refine lv_iload_n S.1 S.2.1 dL_pieceCount_3 rfl (lv_at hl 1 rfl) ?_
  refine wl_call (w := cc_w K) (As := [.int x]) S hI.2.2.2.1 hC okX10_pieceCount rfl gL_pieceCount_X10_pieceCount ⟨Nat.le_of_ble_eq_true rfl, Nat.le_of_ble_eq_true rfl⟩ ⟨Nat.le_of_ble_eq_true rfl, Nat.le_of_ble_eq_true rfl⟩ (o := 0) (show 0 < 32 by decide) rfl rfl hl.1 rfl (Nat.le_of_ble_eq_true rfl) dL_pieceCount_4 hI.2.1 va_S.rf (fun H1 locs1 hP1 hz1 hk1 hS1 => ?_)
  have hO1 := wr_out hI hI.2.2.1 hk1
  refine lv_i2l (v := r.toInt64) S.1 S.2.1 dL_pieceCount_7 rfl ?_
  refine wl_last S.1 S.2.1 hI.2.2.2.2.1 hO1 hS1 (wr_free hI) (t0 := 0) rfl (vp_in_nI (n := 0) (N := 1) (by omega) (by omega)) dL_pieceCount_8 (fun H2 locs2 hO2 hz2 hk2 hS2 => ?_)
  refine lv_goto (tgt := 15) S.1 S.2.1 dL_pieceCount_9 (by decide) ?_
  exact wr_end S hr rfl hlocks (by omega) (by omega) dL_pieceCount_15 (by decide) dL_pieceCount_16 (wr_in hI hP1 hk2) hO2 hS2
theorem wr_pieceCount_x1 {cl : ClassId} {f : Nat → Int64} {x : Int32} (hC : cw_T (cc_w K) mX10_pieceCount [.ref (cw_a (cc_w K) 0), .int x] I "java/lang/IndexOutOfBoundsException" I2) : wr_C K mL_pieceCount [.ref (cw_a (cc_w K) 0), .int x, .ref qo] I qo (lo cl f) (cl, .long) 1 I2 (lo cl f) := by
  refine wr_entry (hh := [(0, 9, 12, 29)]) (by decide) ⟨_, rfl⟩ rfl (Nat.le_of_ble_eq_true rfl) (fun p e s m below meth c ls S hr hlocks htb hI hl => ?_)
  have hl : lv_has ls 4 [(0, .ref (cw_a (cc_w K) 0)), (1, .int x), (2, .ref qo)] := hl
  refine lv_aload_n S.1 S.2.1 dL_pieceCount_0 rfl (lv_at hl 2 rfl) ?_
  refine lv_iconst (v := 0) S.1 S.2.1 dL_pieceCount_1 (by decide) ?_
  refine lv_aload_n S.1 S.2.1 dL_pieceCount_2 rfl (lv_at hl 0 rfl) ?_
  refine lv_iload_n S.1 S.2.1 dL_pieceCount_3 rfl (lv_at hl 1 rfl) ?_
  refine wl_callT (w := cc_w K) (As := [.int x]) S hI.2.2.2.1 hC okX10_pieceCount rfl gL_pieceCount_X10_pieceCount ⟨Nat.le_of_ble_eq_true rfl, Nat.le_of_ble_eq_true rfl⟩ ⟨Nat.le_of_ble_eq_true rfl, Nat.le_of_ble_eq_true rfl⟩ (o := 0) (show 0 < 32 by decide) rfl rfl hl.1 rfl (Nat.le_of_ble_eq_true rfl) dL_pieceCount_4 hI.2.1 va_S.rf (fun H1 locs1 q9 ce hP1 hz1 hk1 hS1 hce hcv hcl => ?_)
  have hO1 := wr_out hI hI.2.2.1 hk1
  refine wr_caught (hh := [(0, 9, 12, 29)]) (pre := []) (x := ⟨0, 9, 12, 29⟩) (suf := []) S hr rfl hlocks hI htb rfl (fun z hz => nomatch hz) (fun y => absurd rfl y) (by decide) (by decide) lk_pieceCount_29 (by decide) hce hcv hcl ?_
  refine lv_astore_n (lv' := [(3, .ref q9), (0, .ref (cw_a (cc_w K) 0)), (1, .int x), (2, .ref qo)]) S.1 S.2.1 dL_pieceCount_12 rfl hl (by decide) rfl (fun ls hl => ?_)
  exact wr_end S hr rfl hlocks (by omega) (by omega) dL_pieceCount_13 (by decide) dL_pieceCount_14 hP1 hO1 hS1
theorem lk_mark_29 : Cond.classLink RL 29 "java/lang/IndexOutOfBoundsException" ∈ wsL_mark ++ [Cond.classLink RL 19 "java/lang/IllegalArgumentException"] := by decide +kernel
theorem lk_mark_19 : Cond.classLink RL 19 "java/lang/IllegalArgumentException" ∈ wsL_mark ++ [Cond.classLink RL 19 "java/lang/IllegalArgumentException"] := by decide +kernel
def mL_mark : cw_Me := (yL_mark, wsL_mark ++ [Cond.classLink RL 19 "java/lang/IllegalArgumentException"], cL_mark, 6, (some .int), 8, 134)
theorem wr_mark_ok {cl : ClassId} {f : Nat → Int64} {x : Int32} {y : Int32} {z : Int32} {r : Int32} (hC : cw_C (cc_w K) mX10_mark [.ref (cw_a (cc_w K) 0), .int x, .int y, .int z] I (some (.int r)) I2) : wr_C K mL_mark [.ref (cw_a (cc_w K) 0), .int x, .int y, .int z, .ref qo] I qo (lo cl f) (cl, .long) 0 I2 (lo cl (vp_updL f 0 (r.toInt64))) := by
  refine wr_entry (hh := [(0, 12, 15, 29), (0, 12, 19, 19)]) (by decide) ⟨_, rfl⟩ rfl (Nat.le_of_ble_eq_true rfl) (fun p e s m below meth c ls S hr hlocks htb hI hl => ?_)
  have hl : lv_has ls 6 [(0, .ref (cw_a (cc_w K) 0)), (1, .int x), (2, .int y), (3, .int z), (4, .ref qo)] := hl
  refine lv_aload S.1 S.2.1 dL_mark_0 (lv_at hl 4 rfl) ?_
  refine lv_iconst (v := 0) S.1 S.2.1 dL_mark_2 (by decide) ?_
  refine lv_aload_n S.1 S.2.1 dL_mark_3 rfl (lv_at hl 0 rfl) ?_
  refine lv_iload_n S.1 S.2.1 dL_mark_4 rfl (lv_at hl 1 rfl) ?_
  refine lv_iload_n S.1 S.2.1 dL_mark_5 rfl (lv_at hl 2 rfl) ?_
  refine lv_iload_n S.1 S.2.1 dL_mark_6 rfl (lv_at hl 3 rfl) ?_
  refine wl_call (w := cc_w K) (As := [.int x, .int y, .int z]) S hI.2.2.2.1 hC okX10_mark rfl (wr_gl gL_mark_X10_mark) ⟨Nat.le_of_ble_eq_true rfl, Nat.le_of_ble_eq_true rfl⟩ ⟨Nat.le_of_ble_eq_true rfl, Nat.le_of_ble_eq_true rfl⟩ (o := 0) (show 0 < 32 by decide) rfl rfl hl.1 rfl (Nat.le_of_ble_eq_true rfl) dL_mark_7 hI.2.1 va_S.rf (fun H1 locs1 hP1 hz1 hk1 hS1 => ?_)
  have hO1 := wr_out hI hI.2.2.1 hk1
  refine lv_i2l (v := r.toInt64) S.1 S.2.1 dL_mark_10 rfl ?_
  refine wl_last S.1 S.2.1 hI.2.2.2.2.1 hO1 hS1 (wr_free hI) (t0 := 0) rfl (vp_in_nI (n := 0) (N := 1) (by omega) (by omega)) dL_mark_11 (fun H2 locs2 hO2 hz2 hk2 hS2 => ?_)
  refine lv_goto (tgt := 23) S.1 S.2.1 dL_mark_12 (by decide) ?_
  exact wr_end S hr rfl hlocks (by omega) (by omega) dL_mark_23 (by decide) dL_mark_24 (wr_in hI hP1 hk2) hO2 hS2
theorem wr_mark_x1 {cl : ClassId} {f : Nat → Int64} {x : Int32} {y : Int32} {z : Int32} (hC : cw_T (cc_w K) mX10_mark [.ref (cw_a (cc_w K) 0), .int x, .int y, .int z] I "java/lang/IndexOutOfBoundsException" I2) : wr_C K mL_mark [.ref (cw_a (cc_w K) 0), .int x, .int y, .int z, .ref qo] I qo (lo cl f) (cl, .long) 1 I2 (lo cl f) := by
  refine wr_entry (hh := [(0, 12, 15, 29), (0, 12, 19, 19)]) (by decide) ⟨_, rfl⟩ rfl (Nat.le_of_ble_eq_true rfl) (fun p e s m below meth c ls S hr hlocks htb hI hl => ?_)
  have hl : lv_has ls 6 [(0, .ref (cw_a (cc_w K) 0)), (1, .int x), (2, .int y), (3, .int z), (4, .ref qo)] := hl
  refine lv_aload S.1 S.2.1 dL_mark_0 (lv_at hl 4 rfl) ?_
  refine lv_iconst (v := 0) S.1 S.2.1 dL_mark_2 (by decide) ?_
  refine lv_aload_n S.1 S.2.1 dL_mark_3 rfl (lv_at hl 0 rfl) ?_
  refine lv_iload_n S.1 S.2.1 dL_mark_4 rfl (lv_at hl 1 rfl) ?_
  refine lv_iload_n S.1 S.2.1 dL_mark_5 rfl (lv_at hl 2 rfl) ?_
  refine lv_iload_n S.1 S.2.1 dL_mark_6 rfl (lv_at hl 3 rfl) ?_
  refine wl_callT (w := cc_w K) (As := [.int x, .int y, .int z]) S hI.2.2.2.1 hC okX10_mark rfl (wr_gl gL_mark_X10_mark) ⟨Nat.le_of_ble_eq_true rfl, Nat.le_of_ble_eq_true rfl⟩ ⟨Nat.le_of_ble_eq_true rfl, Nat.le_of_ble_eq_true rfl⟩ (o := 0) (show 0 < 32 by decide) rfl rfl hl.1 rfl (Nat.le_of_ble_eq_true rfl) dL_mark_7 hI.2.1 va_S.rf (fun H1 locs1 q9 ce hP1 hz1 hk1 hS1 hce hcv hcl => ?_)
  have hO1 := wr_out hI hI.2.2.1 hk1
  refine wr_caught (hh := [(0, 12, 15, 29), (0, 12, 19, 19)]) (pre := []) (x := ⟨0, 12, 15, 29⟩) (suf := [⟨0, 12, 19, 19⟩]) S hr rfl hlocks hI htb rfl (fun z hz => nomatch hz) (fun y => absurd rfl y) (by decide) (by decide) lk_mark_29 (by decide) hce hcv hcl ?_
  refine lv_astore (lv' := [(5, .ref q9), (0, .ref (cw_a (cc_w K) 0)), (1, .int x), (2, .int y), (3, .int z), (4, .ref qo)]) S.1 S.2.1 dL_mark_15 hl (by decide) rfl (fun ls hl => ?_)
  exact wr_end S hr rfl hlocks (by omega) (by omega) dL_mark_17 (by decide) dL_mark_18 hP1 hO1 hS1
theorem wr_mark_x2 {cl : ClassId} {f : Nat → Int64} {x : Int32} {y : Int32} {z : Int32} (hC : cw_T (cc_w K) mX10_mark [.ref (cw_a (cc_w K) 0), .int x, .int y, .int z] I "java/lang/IllegalArgumentException" I2) : wr_C K mL_mark [.ref (cw_a (cc_w K) 0), .int x, .int y, .int z, .ref qo] I qo (lo cl f) (cl, .long) 2 I2 (lo cl f) := by
  refine wr_entry (hh := [(0, 12, 15, 29), (0, 12, 19, 19)]) (by decide) ⟨_, rfl⟩ rfl (Nat.le_of_ble_eq_true rfl) (fun p e s m below meth c ls S hr hlocks htb hI hl => ?_)
  have hl : lv_has ls 6 [(0, .ref (cw_a (cc_w K) 0)), (1, .int x), (2, .int y), (3, .int z), (4, .ref qo)] := hl
  refine lv_aload S.1 S.2.1 dL_mark_0 (lv_at hl 4 rfl) ?_
  refine lv_iconst (v := 0) S.1 S.2.1 dL_mark_2 (by decide) ?_
  refine lv_aload_n S.1 S.2.1 dL_mark_3 rfl (lv_at hl 0 rfl) ?_
  refine lv_iload_n S.1 S.2.1 dL_mark_4 rfl (lv_at hl 1 rfl) ?_
  refine lv_iload_n S.1 S.2.1 dL_mark_5 rfl (lv_at hl 2 rfl) ?_
  refine lv_iload_n S.1 S.2.1 dL_mark_6 rfl (lv_at hl 3 rfl) ?_
  refine wl_callT (w := cc_w K) (As := [.int x, .int y, .int z]) S hI.2.2.2.1 hC okX10_mark rfl (wr_gl gL_mark_X10_mark) ⟨Nat.le_of_ble_eq_true rfl, Nat.le_of_ble_eq_true rfl⟩ ⟨Nat.le_of_ble_eq_true rfl, Nat.le_of_ble_eq_true rfl⟩ (o := 0) (show 0 < 32 by decide) rfl rfl hl.1 rfl (Nat.le_of_ble_eq_true rfl) dL_mark_7 hI.2.1 va_S.rf (fun H1 locs1 q9 ce hP1 hz1 hk1 hS1 hce hcv hcl => ?_)
  have hO1 := wr_out hI hI.2.2.1 hk1
  refine wr_caught (hh := [(0, 12, 15, 29), (0, 12, 19, 19)]) (pre := [⟨0, 12, 15, 29⟩]) (x := ⟨0, 12, 19, 19⟩) (suf := []) S hr rfl hlocks hI htb rfl (fun z hz => by rcases List.mem_singleton.mp hz with rfl; exact ⟨rfl, by decide⟩) (fun _ => lk_mark_29) (by decide) (by decide) lk_mark_19 (by decide) hce hcv hcl ?_
  refine lv_astore (lv' := [(5, .ref q9), (0, .ref (cw_a (cc_w K) 0)), (1, .int x), (2, .int y), (3, .int z), (4, .ref qo)]) S.1 S.2.1 dL_mark_19 hl (by decide) rfl (fun ls hl => ?_)
  exact wr_end S hr rfl hlocks (by omega) (by omega) dL_mark_21 (by decide) dL_mark_22 hP1 hO1 hS1
theorem lk_favouriteFreeCell_29 : Cond.classLink RL 29 "java/lang/IndexOutOfBoundsException" ∈ wsL_favouriteFreeCell := by decide +kernel
def mL_favouriteFreeCell : cw_Me := (yL_favouriteFreeCell, wsL_favouriteFreeCell, cL_favouriteFreeCell, 4, (some .int), 8, 132)
theorem wr_favouriteFreeCell_ok {cl : ClassId} {f : Nat → Int64} {x : Int32} {r : Int32} (hC : cw_C (cc_w K) mX10_favouriteFreeCell [.ref (cw_a (cc_w K) 0), .int x] I (some (.int r)) I2) : wr_C K mL_favouriteFreeCell [.ref (cw_a (cc_w K) 0), .int x, .ref qo] I qo (lo cl f) (cl, .long) 0 I2 (lo cl (vp_updL f 0 (r.toInt64))) := by
  refine wr_entry (hh := [(0, 9, 12, 29)]) (by decide) ⟨_, rfl⟩ rfl (Nat.le_of_ble_eq_true rfl) (fun p e s m below meth c ls S hr hlocks htb hI hl => ?_)
  have hl : lv_has ls 4 [(0, .ref (cw_a (cc_w K) 0)), (1, .int x), (2, .ref qo)] := hl
  refine lv_aload_n S.1 S.2.1 dL_favouriteFreeCell_0 rfl (lv_at hl 2 rfl) ?_
  refine lv_iconst (v := 0) S.1 S.2.1 dL_favouriteFreeCell_1 (by decide) ?_
  refine lv_aload_n S.1 S.2.1 dL_favouriteFreeCell_2 rfl (lv_at hl 0 rfl) ?_
  refine lv_iload_n S.1 S.2.1 dL_favouriteFreeCell_3 rfl (lv_at hl 1 rfl) ?_
  refine wl_call (w := cc_w K) (As := [.int x]) S hI.2.2.2.1 hC okX10_favouriteFreeCell rfl gL_favouriteFreeCell_X10_favouriteFreeCell ⟨Nat.le_of_ble_eq_true rfl, Nat.le_of_ble_eq_true rfl⟩ ⟨Nat.le_of_ble_eq_true rfl, Nat.le_of_ble_eq_true rfl⟩ (o := 0) (show 0 < 32 by decide) rfl rfl hl.1 rfl (Nat.le_of_ble_eq_true rfl) dL_favouriteFreeCell_4 hI.2.1 va_S.rf (fun H1 locs1 hP1 hz1 hk1 hS1 => ?_)
  have hO1 := wr_out hI hI.2.2.1 hk1
  refine lv_i2l (v := r.toInt64) S.1 S.2.1 dL_favouriteFreeCell_7 rfl ?_
  refine wl_last S.1 S.2.1 hI.2.2.2.2.1 hO1 hS1 (wr_free hI) (t0 := 0) rfl (vp_in_nI (n := 0) (N := 1) (by omega) (by omega)) dL_favouriteFreeCell_8 (fun H2 locs2 hO2 hz2 hk2 hS2 => ?_)
  refine lv_goto (tgt := 15) S.1 S.2.1 dL_favouriteFreeCell_9 (by decide) ?_
  exact wr_end S hr rfl hlocks (by omega) (by omega) dL_favouriteFreeCell_15 (by decide) dL_favouriteFreeCell_16 (wr_in hI hP1 hk2) hO2 hS2
theorem wr_favouriteFreeCell_x1 {cl : ClassId} {f : Nat → Int64} {x : Int32} (hC : cw_T (cc_w K) mX10_favouriteFreeCell [.ref (cw_a (cc_w K) 0), .int x] I "java/lang/IndexOutOfBoundsException" I2) : wr_C K mL_favouriteFreeCell [.ref (cw_a (cc_w K) 0), .int x, .ref qo] I qo (lo cl f) (cl, .long) 1 I2 (lo cl f) := by
  refine wr_entry (hh := [(0, 9, 12, 29)]) (by decide) ⟨_, rfl⟩ rfl (Nat.le_of_ble_eq_true rfl) (fun p e s m below meth c ls S hr hlocks htb hI hl => ?_)
  have hl : lv_has ls 4 [(0, .ref (cw_a (cc_w K) 0)), (1, .int x), (2, .ref qo)] := hl
  refine lv_aload_n S.1 S.2.1 dL_favouriteFreeCell_0 rfl (lv_at hl 2 rfl) ?_
  refine lv_iconst (v := 0) S.1 S.2.1 dL_favouriteFreeCell_1 (by decide) ?_
  refine lv_aload_n S.1 S.2.1 dL_favouriteFreeCell_2 rfl (lv_at hl 0 rfl) ?_
  refine lv_iload_n S.1 S.2.1 dL_favouriteFreeCell_3 rfl (lv_at hl 1 rfl) ?_
  refine wl_callT (w := cc_w K) (As := [.int x]) S hI.2.2.2.1 hC okX10_favouriteFreeCell rfl gL_favouriteFreeCell_X10_favouriteFreeCell ⟨Nat.le_of_ble_eq_true rfl, Nat.le_of_ble_eq_true rfl⟩ ⟨Nat.le_of_ble_eq_true rfl, Nat.le_of_ble_eq_true rfl⟩ (o := 0) (show 0 < 32 by decide) rfl rfl hl.1 rfl (Nat.le_of_ble_eq_true rfl) dL_favouriteFreeCell_4 hI.2.1 va_S.rf (fun H1 locs1 q9 ce hP1 hz1 hk1 hS1 hce hcv hcl => ?_)
  have hO1 := wr_out hI hI.2.2.1 hk1
  refine wr_caught (hh := [(0, 9, 12, 29)]) (pre := []) (x := ⟨0, 9, 12, 29⟩) (suf := []) S hr rfl hlocks hI htb rfl (fun z hz => nomatch hz) (fun y => absurd rfl y) (by decide) (by decide) lk_favouriteFreeCell_29 (by decide) hce hcv hcl ?_
  refine lv_astore_n (lv' := [(3, .ref q9), (0, .ref (cw_a (cc_w K) 0)), (1, .int x), (2, .ref qo)]) S.1 S.2.1 dL_favouriteFreeCell_12 rfl hl (by decide) rfl (fun ls hl => ?_)
  exact wr_end S hr rfl hlocks (by omega) (by omega) dL_favouriteFreeCell_13 (by decide) dL_favouriteFreeCell_14 hP1 hO1 hS1
theorem lk_envies_29 : Cond.classLink RL 29 "java/lang/IndexOutOfBoundsException" ∈ wsL_envies := by decide +kernel
def mL_envies : cw_Me := (yL_envies, wsL_envies, cL_envies, 5, (some .int), 8, 133)
theorem wr_envies_ok {cl : ClassId} {f : Nat → Int64} {x : Int32} {y : Int32} {r : Int32} (hC : cw_C (cc_w K) mX10_envies [.ref (cw_a (cc_w K) 0), .int x, .int y] I (some (.int r)) I2) : wr_C K mL_envies [.ref (cw_a (cc_w K) 0), .int x, .int y, .ref qo] I qo (lo cl f) (cl, .long) 0 I2 (lo cl (vp_updL f 0 (if r = 0 then 0 else 1))) := by
  refine wr_entry (hh := [(0, 17, 20, 29)]) (by decide) ⟨_, rfl⟩ rfl (Nat.le_of_ble_eq_true rfl) (fun p e s m below meth c ls S hr hlocks htb hI hl => ?_)
  have hl : lv_has ls 5 [(0, .ref (cw_a (cc_w K) 0)), (1, .int x), (2, .int y), (3, .ref qo)] := hl
  refine lv_aload_n S.1 S.2.1 dL_envies_0 rfl (lv_at hl 3 rfl) ?_
  refine lv_iconst (v := 0) S.1 S.2.1 dL_envies_1 (by decide) ?_
  refine lv_aload_n S.1 S.2.1 dL_envies_2 rfl (lv_at hl 0 rfl) ?_
  refine lv_iload_n S.1 S.2.1 dL_envies_3 rfl (lv_at hl 1 rfl) ?_
  refine lv_iload_n S.1 S.2.1 dL_envies_4 rfl (lv_at hl 2 rfl) ?_
  refine wl_call (w := cc_w K) (As := [.int x, .int y]) S hI.2.2.2.1 hC okX10_envies rfl gL_envies_X10_envies ⟨Nat.le_of_ble_eq_true rfl, Nat.le_of_ble_eq_true rfl⟩ ⟨Nat.le_of_ble_eq_true rfl, Nat.le_of_ble_eq_true rfl⟩ (o := 0) (show 0 < 32 by decide) rfl rfl hl.1 rfl (Nat.le_of_ble_eq_true rfl) dL_envies_5 hI.2.1 va_S.rf (fun H1 locs1 hP1 hz1 hk1 hS1 => ?_)
  have hO1 := wr_out hI hI.2.2.1 hk1
  refine lv_if_eq (tgt := 15) S.1 S.2.1 dL_envies_8 (by decide) (fun q => ?_) (fun q => ?_)
  · rw [if_pos q]
    refine lv_lconst (v := 0) S.1 S.2.1 dL_envies_15 (by decide) ?_
    refine wl_last S.1 S.2.1 hI.2.2.2.2.1 hO1 hS1 (wr_free hI) (t0 := 0) rfl (vp_in_nI (n := 0) (N := 1) (by omega) (by omega)) dL_envies_16 (fun H2 locs2 hO2 hz2 hk2 hS2 => ?_)
    refine lv_goto (tgt := 24) S.1 S.2.1 dL_envies_17 (by decide) ?_
    exact wr_end S hr rfl hlocks (by omega) (by omega) dL_envies_24 (by decide) dL_envies_25 (wr_in hI hP1 hk2) hO2 hS2
  · rw [if_neg q]
    refine lv_lconst (v := 1) S.1 S.2.1 dL_envies_11 (by decide) ?_
    refine lv_goto (tgt := 16) S.1 S.2.1 dL_envies_12 (by decide) ?_
    refine wl_last S.1 S.2.1 hI.2.2.2.2.1 hO1 hS1 (wr_free hI) (t0 := 0) rfl (vp_in_nI (n := 0) (N := 1) (by omega) (by omega)) dL_envies_16 (fun H2 locs2 hO2 hz2 hk2 hS2 => ?_)
    refine lv_goto (tgt := 24) S.1 S.2.1 dL_envies_17 (by decide) ?_
    exact wr_end S hr rfl hlocks (by omega) (by omega) dL_envies_24 (by decide) dL_envies_25 (wr_in hI hP1 hk2) hO2 hS2
theorem wr_envies_x1 {cl : ClassId} {f : Nat → Int64} {x : Int32} {y : Int32} (hC : cw_T (cc_w K) mX10_envies [.ref (cw_a (cc_w K) 0), .int x, .int y] I "java/lang/IndexOutOfBoundsException" I2) : wr_C K mL_envies [.ref (cw_a (cc_w K) 0), .int x, .int y, .ref qo] I qo (lo cl f) (cl, .long) 1 I2 (lo cl f) := by
  refine wr_entry (hh := [(0, 17, 20, 29)]) (by decide) ⟨_, rfl⟩ rfl (Nat.le_of_ble_eq_true rfl) (fun p e s m below meth c ls S hr hlocks htb hI hl => ?_)
  have hl : lv_has ls 5 [(0, .ref (cw_a (cc_w K) 0)), (1, .int x), (2, .int y), (3, .ref qo)] := hl
  refine lv_aload_n S.1 S.2.1 dL_envies_0 rfl (lv_at hl 3 rfl) ?_
  refine lv_iconst (v := 0) S.1 S.2.1 dL_envies_1 (by decide) ?_
  refine lv_aload_n S.1 S.2.1 dL_envies_2 rfl (lv_at hl 0 rfl) ?_
  refine lv_iload_n S.1 S.2.1 dL_envies_3 rfl (lv_at hl 1 rfl) ?_
  refine lv_iload_n S.1 S.2.1 dL_envies_4 rfl (lv_at hl 2 rfl) ?_
  refine wl_callT (w := cc_w K) (As := [.int x, .int y]) S hI.2.2.2.1 hC okX10_envies rfl gL_envies_X10_envies ⟨Nat.le_of_ble_eq_true rfl, Nat.le_of_ble_eq_true rfl⟩ ⟨Nat.le_of_ble_eq_true rfl, Nat.le_of_ble_eq_true rfl⟩ (o := 0) (show 0 < 32 by decide) rfl rfl hl.1 rfl (Nat.le_of_ble_eq_true rfl) dL_envies_5 hI.2.1 va_S.rf (fun H1 locs1 q9 ce hP1 hz1 hk1 hS1 hce hcv hcl => ?_)
  have hO1 := wr_out hI hI.2.2.1 hk1
  refine wr_caught (hh := [(0, 17, 20, 29)]) (pre := []) (x := ⟨0, 17, 20, 29⟩) (suf := []) S hr rfl hlocks hI htb rfl (fun z hz => nomatch hz) (fun y => absurd rfl y) (by decide) (by decide) lk_envies_29 (by decide) hce hcv hcl ?_
  refine lv_astore (lv' := [(4, .ref q9), (0, .ref (cw_a (cc_w K) 0)), (1, .int x), (2, .int y), (3, .ref qo)]) S.1 S.2.1 dL_envies_20 hl (by decide) rfl (fun ls hl => ?_)
  exact wr_end S hr rfl hlocks (by omega) (by omega) dL_envies_22 (by decide) dL_envies_23 hP1 hO1 hS1
theorem lk_isMild_29 : Cond.classLink RL 29 "java/lang/IndexOutOfBoundsException" ∈ wsL_isMild ++ [Cond.classLink RL 13 "java/lang/IllegalStateException"] := by decide +kernel
theorem lk_isMild_13 : Cond.classLink RL 13 "java/lang/IllegalStateException" ∈ wsL_isMild ++ [Cond.classLink RL 13 "java/lang/IllegalStateException"] := by decide +kernel
def mL_isMild : cw_Me := (yL_isMild, wsL_isMild ++ [Cond.classLink RL 13 "java/lang/IllegalStateException"], cL_isMild, 5, (some .int), 8, 133)
theorem wr_isMild_ok {cl : ClassId} {f : Nat → Int64} {x : Int32} {y : Int32} {r : Int32} (hC : cw_C (cc_w K) mX10_isMild [.ref (cw_a (cc_w K) 0), .int x, .int y] I (some (.int r)) I2) : wr_C K mL_isMild [.ref (cw_a (cc_w K) 0), .int x, .int y, .ref qo] I qo (lo cl f) (cl, .long) 0 I2 (lo cl (vp_updL f 0 (if r = 0 then 0 else 1))) := by
  refine wr_entry (hh := [(0, 17, 20, 29), (0, 17, 24, 13)]) (by decide) ⟨_, rfl⟩ rfl (Nat.le_of_ble_eq_true rfl) (fun p e s m below meth c ls S hr hlocks htb hI hl => ?_)
  have hl : lv_has ls 5 [(0, .ref (cw_a (cc_w K) 0)), (1, .int x), (2, .int y), (3, .ref qo)] := hl
  refine lv_aload_n S.1 S.2.1 dL_isMild_0 rfl (lv_at hl 3 rfl) ?_
  refine lv_iconst (v := 0) S.1 S.2.1 dL_isMild_1 (by decide) ?_
  refine lv_aload_n S.1 S.2.1 dL_isMild_2 rfl (lv_at hl 0 rfl) ?_
  refine lv_iload_n S.1 S.2.1 dL_isMild_3 rfl (lv_at hl 1 rfl) ?_
  refine lv_iload_n S.1 S.2.1 dL_isMild_4 rfl (lv_at hl 2 rfl) ?_
  refine wl_call (w := cc_w K) (As := [.int x, .int y]) S hI.2.2.2.1 hC okX10_isMild rfl (wr_gl gL_isMild_X10_isMild) ⟨Nat.le_of_ble_eq_true rfl, Nat.le_of_ble_eq_true rfl⟩ ⟨Nat.le_of_ble_eq_true rfl, Nat.le_of_ble_eq_true rfl⟩ (o := 0) (show 0 < 32 by decide) rfl rfl hl.1 rfl (Nat.le_of_ble_eq_true rfl) dL_isMild_5 hI.2.1 va_S.rf (fun H1 locs1 hP1 hz1 hk1 hS1 => ?_)
  have hO1 := wr_out hI hI.2.2.1 hk1
  refine lv_if_eq (tgt := 15) S.1 S.2.1 dL_isMild_8 (by decide) (fun q => ?_) (fun q => ?_)
  · rw [if_pos q]
    refine lv_lconst (v := 0) S.1 S.2.1 dL_isMild_15 (by decide) ?_
    refine wl_last S.1 S.2.1 hI.2.2.2.2.1 hO1 hS1 (wr_free hI) (t0 := 0) rfl (vp_in_nI (n := 0) (N := 1) (by omega) (by omega)) dL_isMild_16 (fun H2 locs2 hO2 hz2 hk2 hS2 => ?_)
    refine lv_goto (tgt := 28) S.1 S.2.1 dL_isMild_17 (by decide) ?_
    exact wr_end S hr rfl hlocks (by omega) (by omega) dL_isMild_28 (by decide) dL_isMild_29 (wr_in hI hP1 hk2) hO2 hS2
  · rw [if_neg q]
    refine lv_lconst (v := 1) S.1 S.2.1 dL_isMild_11 (by decide) ?_
    refine lv_goto (tgt := 16) S.1 S.2.1 dL_isMild_12 (by decide) ?_
    refine wl_last S.1 S.2.1 hI.2.2.2.2.1 hO1 hS1 (wr_free hI) (t0 := 0) rfl (vp_in_nI (n := 0) (N := 1) (by omega) (by omega)) dL_isMild_16 (fun H2 locs2 hO2 hz2 hk2 hS2 => ?_)
    refine lv_goto (tgt := 28) S.1 S.2.1 dL_isMild_17 (by decide) ?_
    exact wr_end S hr rfl hlocks (by omega) (by omega) dL_isMild_28 (by decide) dL_isMild_29 (wr_in hI hP1 hk2) hO2 hS2
theorem wr_isMild_x1 {cl : ClassId} {f : Nat → Int64} {x : Int32} {y : Int32} (hC : cw_T (cc_w K) mX10_isMild [.ref (cw_a (cc_w K) 0), .int x, .int y] I "java/lang/IndexOutOfBoundsException" I2) : wr_C K mL_isMild [.ref (cw_a (cc_w K) 0), .int x, .int y, .ref qo] I qo (lo cl f) (cl, .long) 1 I2 (lo cl f) := by
  refine wr_entry (hh := [(0, 17, 20, 29), (0, 17, 24, 13)]) (by decide) ⟨_, rfl⟩ rfl (Nat.le_of_ble_eq_true rfl) (fun p e s m below meth c ls S hr hlocks htb hI hl => ?_)
  have hl : lv_has ls 5 [(0, .ref (cw_a (cc_w K) 0)), (1, .int x), (2, .int y), (3, .ref qo)] := hl
  refine lv_aload_n S.1 S.2.1 dL_isMild_0 rfl (lv_at hl 3 rfl) ?_
  refine lv_iconst (v := 0) S.1 S.2.1 dL_isMild_1 (by decide) ?_
  refine lv_aload_n S.1 S.2.1 dL_isMild_2 rfl (lv_at hl 0 rfl) ?_
  refine lv_iload_n S.1 S.2.1 dL_isMild_3 rfl (lv_at hl 1 rfl) ?_
  refine lv_iload_n S.1 S.2.1 dL_isMild_4 rfl (lv_at hl 2 rfl) ?_
  refine wl_callT (w := cc_w K) (As := [.int x, .int y]) S hI.2.2.2.1 hC okX10_isMild rfl (wr_gl gL_isMild_X10_isMild) ⟨Nat.le_of_ble_eq_true rfl, Nat.le_of_ble_eq_true rfl⟩ ⟨Nat.le_of_ble_eq_true rfl, Nat.le_of_ble_eq_true rfl⟩ (o := 0) (show 0 < 32 by decide) rfl rfl hl.1 rfl (Nat.le_of_ble_eq_true rfl) dL_isMild_5 hI.2.1 va_S.rf (fun H1 locs1 q9 ce hP1 hz1 hk1 hS1 hce hcv hcl => ?_)
  have hO1 := wr_out hI hI.2.2.1 hk1
  refine wr_caught (hh := [(0, 17, 20, 29), (0, 17, 24, 13)]) (pre := []) (x := ⟨0, 17, 20, 29⟩) (suf := [⟨0, 17, 24, 13⟩]) S hr rfl hlocks hI htb rfl (fun z hz => nomatch hz) (fun y => absurd rfl y) (by decide) (by decide) lk_isMild_29 (by decide) hce hcv hcl ?_
  refine lv_astore (lv' := [(4, .ref q9), (0, .ref (cw_a (cc_w K) 0)), (1, .int x), (2, .int y), (3, .ref qo)]) S.1 S.2.1 dL_isMild_20 hl (by decide) rfl (fun ls hl => ?_)
  exact wr_end S hr rfl hlocks (by omega) (by omega) dL_isMild_22 (by decide) dL_isMild_23 hP1 hO1 hS1
theorem wr_isMild_x2 {cl : ClassId} {f : Nat → Int64} {x : Int32} {y : Int32} (hC : cw_T (cc_w K) mX10_isMild [.ref (cw_a (cc_w K) 0), .int x, .int y] I "java/lang/IllegalStateException" I2) : wr_C K mL_isMild [.ref (cw_a (cc_w K) 0), .int x, .int y, .ref qo] I qo (lo cl f) (cl, .long) 2 I2 (lo cl f) := by
  refine wr_entry (hh := [(0, 17, 20, 29), (0, 17, 24, 13)]) (by decide) ⟨_, rfl⟩ rfl (Nat.le_of_ble_eq_true rfl) (fun p e s m below meth c ls S hr hlocks htb hI hl => ?_)
  have hl : lv_has ls 5 [(0, .ref (cw_a (cc_w K) 0)), (1, .int x), (2, .int y), (3, .ref qo)] := hl
  refine lv_aload_n S.1 S.2.1 dL_isMild_0 rfl (lv_at hl 3 rfl) ?_
  refine lv_iconst (v := 0) S.1 S.2.1 dL_isMild_1 (by decide) ?_
  refine lv_aload_n S.1 S.2.1 dL_isMild_2 rfl (lv_at hl 0 rfl) ?_
  refine lv_iload_n S.1 S.2.1 dL_isMild_3 rfl (lv_at hl 1 rfl) ?_
  refine lv_iload_n S.1 S.2.1 dL_isMild_4 rfl (lv_at hl 2 rfl) ?_
  refine wl_callT (w := cc_w K) (As := [.int x, .int y]) S hI.2.2.2.1 hC okX10_isMild rfl (wr_gl gL_isMild_X10_isMild) ⟨Nat.le_of_ble_eq_true rfl, Nat.le_of_ble_eq_true rfl⟩ ⟨Nat.le_of_ble_eq_true rfl, Nat.le_of_ble_eq_true rfl⟩ (o := 0) (show 0 < 32 by decide) rfl rfl hl.1 rfl (Nat.le_of_ble_eq_true rfl) dL_isMild_5 hI.2.1 va_S.rf (fun H1 locs1 q9 ce hP1 hz1 hk1 hS1 hce hcv hcl => ?_)
  have hO1 := wr_out hI hI.2.2.1 hk1
  refine wr_caught (hh := [(0, 17, 20, 29), (0, 17, 24, 13)]) (pre := [⟨0, 17, 20, 29⟩]) (x := ⟨0, 17, 24, 13⟩) (suf := []) S hr rfl hlocks hI htb rfl (fun z hz => by rcases List.mem_singleton.mp hz with rfl; exact ⟨rfl, by decide⟩) (fun _ => lk_isMild_29) (by decide) (by decide) lk_isMild_13 (by decide) hce hcv hcl ?_
  refine lv_astore (lv' := [(4, .ref q9), (0, .ref (cw_a (cc_w K) 0)), (1, .int x), (2, .int y), (3, .ref qo)]) S.1 S.2.1 dL_isMild_24 hl (by decide) rfl (fun ls hl => ?_)
  exact wr_end S hr rfl hlocks (by omega) (by omega) dL_isMild_26 (by decide) dL_isMild_27 hP1 hO1 hS1
theorem lk_isSatisfied_29 : Cond.classLink RL 29 "java/lang/IndexOutOfBoundsException" ∈ wsL_isSatisfied := by decide +kernel
def mL_isSatisfied : cw_Me := (yL_isSatisfied, wsL_isSatisfied, cL_isSatisfied, 4, (some .int), 8, 132)
theorem wr_isSatisfied_ok {cl : ClassId} {f : Nat → Int64} {x : Int32} {r : Int32} (hC : cw_C (cc_w K) mX10_isSatisfied [.ref (cw_a (cc_w K) 0), .int x] I (some (.int r)) I2) : wr_C K mL_isSatisfied [.ref (cw_a (cc_w K) 0), .int x, .ref qo] I qo (lo cl f) (cl, .long) 0 I2 (lo cl (vp_updL f 0 (if r = 0 then 0 else 1))) := by
  refine wr_entry (hh := [(0, 16, 19, 29)]) (by decide) ⟨_, rfl⟩ rfl (Nat.le_of_ble_eq_true rfl) (fun p e s m below meth c ls S hr hlocks htb hI hl => ?_)
  have hl : lv_has ls 4 [(0, .ref (cw_a (cc_w K) 0)), (1, .int x), (2, .ref qo)] := hl
  refine lv_aload_n S.1 S.2.1 dL_isSatisfied_0 rfl (lv_at hl 2 rfl) ?_
  refine lv_iconst (v := 0) S.1 S.2.1 dL_isSatisfied_1 (by decide) ?_
  refine lv_aload_n S.1 S.2.1 dL_isSatisfied_2 rfl (lv_at hl 0 rfl) ?_
  refine lv_iload_n S.1 S.2.1 dL_isSatisfied_3 rfl (lv_at hl 1 rfl) ?_
  refine wl_call (w := cc_w K) (As := [.int x]) S hI.2.2.2.1 hC okX10_isSatisfied rfl gL_isSatisfied_X10_isSatisfied ⟨Nat.le_of_ble_eq_true rfl, Nat.le_of_ble_eq_true rfl⟩ ⟨Nat.le_of_ble_eq_true rfl, Nat.le_of_ble_eq_true rfl⟩ (o := 0) (show 0 < 32 by decide) rfl rfl hl.1 rfl (Nat.le_of_ble_eq_true rfl) dL_isSatisfied_4 hI.2.1 va_S.rf (fun H1 locs1 hP1 hz1 hk1 hS1 => ?_)
  have hO1 := wr_out hI hI.2.2.1 hk1
  refine lv_if_eq (tgt := 14) S.1 S.2.1 dL_isSatisfied_7 (by decide) (fun q => ?_) (fun q => ?_)
  · rw [if_pos q]
    refine lv_lconst (v := 0) S.1 S.2.1 dL_isSatisfied_14 (by decide) ?_
    refine wl_last S.1 S.2.1 hI.2.2.2.2.1 hO1 hS1 (wr_free hI) (t0 := 0) rfl (vp_in_nI (n := 0) (N := 1) (by omega) (by omega)) dL_isSatisfied_15 (fun H2 locs2 hO2 hz2 hk2 hS2 => ?_)
    refine lv_goto (tgt := 22) S.1 S.2.1 dL_isSatisfied_16 (by decide) ?_
    exact wr_end S hr rfl hlocks (by omega) (by omega) dL_isSatisfied_22 (by decide) dL_isSatisfied_23 (wr_in hI hP1 hk2) hO2 hS2
  · rw [if_neg q]
    refine lv_lconst (v := 1) S.1 S.2.1 dL_isSatisfied_10 (by decide) ?_
    refine lv_goto (tgt := 15) S.1 S.2.1 dL_isSatisfied_11 (by decide) ?_
    refine wl_last S.1 S.2.1 hI.2.2.2.2.1 hO1 hS1 (wr_free hI) (t0 := 0) rfl (vp_in_nI (n := 0) (N := 1) (by omega) (by omega)) dL_isSatisfied_15 (fun H2 locs2 hO2 hz2 hk2 hS2 => ?_)
    refine lv_goto (tgt := 22) S.1 S.2.1 dL_isSatisfied_16 (by decide) ?_
    exact wr_end S hr rfl hlocks (by omega) (by omega) dL_isSatisfied_22 (by decide) dL_isSatisfied_23 (wr_in hI hP1 hk2) hO2 hS2
theorem wr_isSatisfied_x1 {cl : ClassId} {f : Nat → Int64} {x : Int32} (hC : cw_T (cc_w K) mX10_isSatisfied [.ref (cw_a (cc_w K) 0), .int x] I "java/lang/IndexOutOfBoundsException" I2) : wr_C K mL_isSatisfied [.ref (cw_a (cc_w K) 0), .int x, .ref qo] I qo (lo cl f) (cl, .long) 1 I2 (lo cl f) := by
  refine wr_entry (hh := [(0, 16, 19, 29)]) (by decide) ⟨_, rfl⟩ rfl (Nat.le_of_ble_eq_true rfl) (fun p e s m below meth c ls S hr hlocks htb hI hl => ?_)
  have hl : lv_has ls 4 [(0, .ref (cw_a (cc_w K) 0)), (1, .int x), (2, .ref qo)] := hl
  refine lv_aload_n S.1 S.2.1 dL_isSatisfied_0 rfl (lv_at hl 2 rfl) ?_
  refine lv_iconst (v := 0) S.1 S.2.1 dL_isSatisfied_1 (by decide) ?_
  refine lv_aload_n S.1 S.2.1 dL_isSatisfied_2 rfl (lv_at hl 0 rfl) ?_
  refine lv_iload_n S.1 S.2.1 dL_isSatisfied_3 rfl (lv_at hl 1 rfl) ?_
  refine wl_callT (w := cc_w K) (As := [.int x]) S hI.2.2.2.1 hC okX10_isSatisfied rfl gL_isSatisfied_X10_isSatisfied ⟨Nat.le_of_ble_eq_true rfl, Nat.le_of_ble_eq_true rfl⟩ ⟨Nat.le_of_ble_eq_true rfl, Nat.le_of_ble_eq_true rfl⟩ (o := 0) (show 0 < 32 by decide) rfl rfl hl.1 rfl (Nat.le_of_ble_eq_true rfl) dL_isSatisfied_4 hI.2.1 va_S.rf (fun H1 locs1 q9 ce hP1 hz1 hk1 hS1 hce hcv hcl => ?_)
  have hO1 := wr_out hI hI.2.2.1 hk1
  refine wr_caught (hh := [(0, 16, 19, 29)]) (pre := []) (x := ⟨0, 16, 19, 29⟩) (suf := []) S hr rfl hlocks hI htb rfl (fun z hz => nomatch hz) (fun y => absurd rfl y) (by decide) (by decide) lk_isSatisfied_29 (by decide) hce hcv hcl ?_
  refine lv_astore_n (lv' := [(3, .ref q9), (0, .ref (cw_a (cc_w K) 0)), (1, .int x), (2, .ref qo)]) S.1 S.2.1 dL_isSatisfied_19 rfl hl (by decide) rfl (fun ls hl => ?_)
  exact wr_end S hr rfl hlocks (by omega) (by omega) dL_isSatisfied_20 (by decide) dL_isSatisfied_21 hP1 hO1 hS1
theorem lk_envyCycleLength_29 : Cond.classLink RL 29 "java/lang/IndexOutOfBoundsException" ∈ wsL_envyCycleLength := by decide +kernel
def mL_envyCycleLength : cw_Me := (yL_envyCycleLength, wsL_envyCycleLength, cL_envyCycleLength, 4, (some .int), 8, 132)
theorem wr_envyCycleLength_ok {cl : ClassId} {f : Nat → Int64} {x : Int32} {r : Int32} (hC : cw_C (cc_w K) mX10_envyCycleLength [.ref (cw_a (cc_w K) 0), .int x] I (some (.int r)) I2) : wr_C K mL_envyCycleLength [.ref (cw_a (cc_w K) 0), .int x, .ref qo] I qo (lo cl f) (cl, .long) 0 I2 (lo cl (vp_updL f 0 (r.toInt64))) := by
  refine wr_entry (hh := [(0, 9, 12, 29)]) (by decide) ⟨_, rfl⟩ rfl (Nat.le_of_ble_eq_true rfl) (fun p e s m below meth c ls S hr hlocks htb hI hl => ?_)
  have hl : lv_has ls 4 [(0, .ref (cw_a (cc_w K) 0)), (1, .int x), (2, .ref qo)] := hl
  refine lv_aload_n S.1 S.2.1 dL_envyCycleLength_0 rfl (lv_at hl 2 rfl) ?_
  refine lv_iconst (v := 0) S.1 S.2.1 dL_envyCycleLength_1 (by decide) ?_
  refine lv_aload_n S.1 S.2.1 dL_envyCycleLength_2 rfl (lv_at hl 0 rfl) ?_
  refine lv_iload_n S.1 S.2.1 dL_envyCycleLength_3 rfl (lv_at hl 1 rfl) ?_
  refine wl_call (w := cc_w K) (As := [.int x]) S hI.2.2.2.1 hC okX10_envyCycleLength rfl gL_envyCycleLength_X10_envyCycleLength ⟨Nat.le_of_ble_eq_true rfl, Nat.le_of_ble_eq_true rfl⟩ ⟨Nat.le_of_ble_eq_true rfl, Nat.le_of_ble_eq_true rfl⟩ (o := 0) (show 0 < 32 by decide) rfl rfl hl.1 rfl (Nat.le_of_ble_eq_true rfl) dL_envyCycleLength_4 hI.2.1 va_S.rf (fun H1 locs1 hP1 hz1 hk1 hS1 => ?_)
  have hO1 := wr_out hI hI.2.2.1 hk1
  refine lv_i2l (v := r.toInt64) S.1 S.2.1 dL_envyCycleLength_7 rfl ?_
  refine wl_last S.1 S.2.1 hI.2.2.2.2.1 hO1 hS1 (wr_free hI) (t0 := 0) rfl (vp_in_nI (n := 0) (N := 1) (by omega) (by omega)) dL_envyCycleLength_8 (fun H2 locs2 hO2 hz2 hk2 hS2 => ?_)
  refine lv_goto (tgt := 15) S.1 S.2.1 dL_envyCycleLength_9 (by decide) ?_
  exact wr_end S hr rfl hlocks (by omega) (by omega) dL_envyCycleLength_15 (by decide) dL_envyCycleLength_16 (wr_in hI hP1 hk2) hO2 hS2
theorem wr_envyCycleLength_x1 {cl : ClassId} {f : Nat → Int64} {x : Int32} (hC : cw_T (cc_w K) mX10_envyCycleLength [.ref (cw_a (cc_w K) 0), .int x] I "java/lang/IndexOutOfBoundsException" I2) : wr_C K mL_envyCycleLength [.ref (cw_a (cc_w K) 0), .int x, .ref qo] I qo (lo cl f) (cl, .long) 1 I2 (lo cl f) := by
  refine wr_entry (hh := [(0, 9, 12, 29)]) (by decide) ⟨_, rfl⟩ rfl (Nat.le_of_ble_eq_true rfl) (fun p e s m below meth c ls S hr hlocks htb hI hl => ?_)
  have hl : lv_has ls 4 [(0, .ref (cw_a (cc_w K) 0)), (1, .int x), (2, .ref qo)] := hl
  refine lv_aload_n S.1 S.2.1 dL_envyCycleLength_0 rfl (lv_at hl 2 rfl) ?_
  refine lv_iconst (v := 0) S.1 S.2.1 dL_envyCycleLength_1 (by decide) ?_
  refine lv_aload_n S.1 S.2.1 dL_envyCycleLength_2 rfl (lv_at hl 0 rfl) ?_
  refine lv_iload_n S.1 S.2.1 dL_envyCycleLength_3 rfl (lv_at hl 1 rfl) ?_
  refine wl_callT (w := cc_w K) (As := [.int x]) S hI.2.2.2.1 hC okX10_envyCycleLength rfl gL_envyCycleLength_X10_envyCycleLength ⟨Nat.le_of_ble_eq_true rfl, Nat.le_of_ble_eq_true rfl⟩ ⟨Nat.le_of_ble_eq_true rfl, Nat.le_of_ble_eq_true rfl⟩ (o := 0) (show 0 < 32 by decide) rfl rfl hl.1 rfl (Nat.le_of_ble_eq_true rfl) dL_envyCycleLength_4 hI.2.1 va_S.rf (fun H1 locs1 q9 ce hP1 hz1 hk1 hS1 hce hcv hcl => ?_)
  have hO1 := wr_out hI hI.2.2.1 hk1
  refine wr_caught (hh := [(0, 9, 12, 29)]) (pre := []) (x := ⟨0, 9, 12, 29⟩) (suf := []) S hr rfl hlocks hI htb rfl (fun z hz => nomatch hz) (fun y => absurd rfl y) (by decide) (by decide) lk_envyCycleLength_29 (by decide) hce hcv hcl ?_
  refine lv_astore_n (lv' := [(3, .ref q9), (0, .ref (cw_a (cc_w K) 0)), (1, .int x), (2, .ref qo)]) S.1 S.2.1 dL_envyCycleLength_12 rfl hl (by decide) rfl (fun ls hl => ?_)
  exact wr_end S hr rfl hlocks (by omega) (by omega) dL_envyCycleLength_13 (by decide) dL_envyCycleLength_14 hP1 hO1 hS1
theorem lk_envyCycleMember_29 : Cond.classLink RL 29 "java/lang/IndexOutOfBoundsException" ∈ ((wsL_envyCycleMember ++ [Cond.classLink RL 34 "java/util/NoSuchElementException"]).map nse_fix) := by decide +kernel
theorem lk_envyCycleMember_34 : Cond.classLink RL 34 "java/util/NoSuchElementException" ∈ ((wsL_envyCycleMember ++ [Cond.classLink RL 34 "java/util/NoSuchElementException"]).map nse_fix) := by decide +kernel
def mL_envyCycleMember : cw_Me := (yL_envyCycleMember, ((wsL_envyCycleMember ++ [Cond.classLink RL 34 "java/util/NoSuchElementException"]).map nse_fix), cL_envyCycleMember, 5, (some .int), 8, 133)
theorem wr_envyCycleMember_ok {cl : ClassId} {f : Nat → Int64} {x : Int32} {y : Int32} {r : Int32} (hC : cw_C (cc_w K) mX10_envyCycleMember [.ref (cw_a (cc_w K) 0), .int x, .int y] I (some (.int r)) I2) : wr_C K mL_envyCycleMember [.ref (cw_a (cc_w K) 0), .int x, .int y, .ref qo] I qo (lo cl f) (cl, .long) 0 I2 (lo cl (vp_updL f 0 (r.toInt64))) := by
  refine wr_entry (hh := [(0, 10, 13, 29), (0, 10, 17, 34)]) (by decide) (nse_head (by decide +kernel)) rfl (Nat.le_of_ble_eq_true rfl) (fun p e s m below meth c ls S hr hlocks htb hI hl => ?_)
  have hl : lv_has ls 5 [(0, .ref (cw_a (cc_w K) 0)), (1, .int x), (2, .int y), (3, .ref qo)] := hl
  refine lv_aload_n S.1 S.2.1 dL_envyCycleMember_0 rfl (lv_at hl 3 rfl) ?_
  refine lv_iconst (v := 0) S.1 S.2.1 dL_envyCycleMember_1 (by decide) ?_
  refine lv_aload_n S.1 S.2.1 dL_envyCycleMember_2 rfl (lv_at hl 0 rfl) ?_
  refine lv_iload_n S.1 S.2.1 dL_envyCycleMember_3 rfl (lv_at hl 1 rfl) ?_
  refine lv_iload_n S.1 S.2.1 dL_envyCycleMember_4 rfl (lv_at hl 2 rfl) ?_
  refine wl_call (w := cc_w K) (As := [.int x, .int y]) S hI.2.2.2.1 hC okX10_envyCycleMember rfl (nse_gv (wr_gl gL_envyCycleMember_X10_envyCycleMember) (by decide +kernel)) ⟨Nat.le_of_ble_eq_true rfl, Nat.le_of_ble_eq_true rfl⟩ ⟨Nat.le_of_ble_eq_true rfl, Nat.le_of_ble_eq_true rfl⟩ (o := 0) (show 0 < 32 by decide) rfl rfl hl.1 rfl (Nat.le_of_ble_eq_true rfl) dL_envyCycleMember_5 hI.2.1 va_S.rf (fun H1 locs1 hP1 hz1 hk1 hS1 => ?_)
  have hO1 := wr_out hI hI.2.2.1 hk1
  refine lv_i2l (v := r.toInt64) S.1 S.2.1 dL_envyCycleMember_8 rfl ?_
  refine wl_last S.1 S.2.1 hI.2.2.2.2.1 hO1 hS1 (wr_free hI) (t0 := 0) rfl (vp_in_nI (n := 0) (N := 1) (by omega) (by omega)) dL_envyCycleMember_9 (fun H2 locs2 hO2 hz2 hk2 hS2 => ?_)
  refine lv_goto (tgt := 21) S.1 S.2.1 dL_envyCycleMember_10 (by decide) ?_
  exact wr_end S hr rfl hlocks (by omega) (by omega) dL_envyCycleMember_21 (by decide) dL_envyCycleMember_22 (wr_in hI hP1 hk2) hO2 hS2
theorem wr_envyCycleMember_x1 {cl : ClassId} {f : Nat → Int64} {x : Int32} {y : Int32} (hC : cw_T (cc_w K) mX10_envyCycleMember [.ref (cw_a (cc_w K) 0), .int x, .int y] I "java/lang/IndexOutOfBoundsException" I2) : wr_C K mL_envyCycleMember [.ref (cw_a (cc_w K) 0), .int x, .int y, .ref qo] I qo (lo cl f) (cl, .long) 1 I2 (lo cl f) := by
  refine wr_entry (hh := [(0, 10, 13, 29), (0, 10, 17, 34)]) (by decide) (nse_head (by decide +kernel)) rfl (Nat.le_of_ble_eq_true rfl) (fun p e s m below meth c ls S hr hlocks htb hI hl => ?_)
  have hl : lv_has ls 5 [(0, .ref (cw_a (cc_w K) 0)), (1, .int x), (2, .int y), (3, .ref qo)] := hl
  refine lv_aload_n S.1 S.2.1 dL_envyCycleMember_0 rfl (lv_at hl 3 rfl) ?_
  refine lv_iconst (v := 0) S.1 S.2.1 dL_envyCycleMember_1 (by decide) ?_
  refine lv_aload_n S.1 S.2.1 dL_envyCycleMember_2 rfl (lv_at hl 0 rfl) ?_
  refine lv_iload_n S.1 S.2.1 dL_envyCycleMember_3 rfl (lv_at hl 1 rfl) ?_
  refine lv_iload_n S.1 S.2.1 dL_envyCycleMember_4 rfl (lv_at hl 2 rfl) ?_
  refine wl_callT (w := cc_w K) (As := [.int x, .int y]) S hI.2.2.2.1 hC okX10_envyCycleMember rfl (nse_gv (wr_gl gL_envyCycleMember_X10_envyCycleMember) (by decide +kernel)) ⟨Nat.le_of_ble_eq_true rfl, Nat.le_of_ble_eq_true rfl⟩ ⟨Nat.le_of_ble_eq_true rfl, Nat.le_of_ble_eq_true rfl⟩ (o := 0) (show 0 < 32 by decide) rfl rfl hl.1 rfl (Nat.le_of_ble_eq_true rfl) dL_envyCycleMember_5 hI.2.1 va_S.rf (fun H1 locs1 q9 ce hP1 hz1 hk1 hS1 hce hcv hcl => ?_)
  have hO1 := wr_out hI hI.2.2.1 hk1
  refine wr_caught (hh := [(0, 10, 13, 29), (0, 10, 17, 34)]) (pre := []) (x := ⟨0, 10, 13, 29⟩) (suf := [⟨0, 10, 17, 34⟩]) S hr rfl hlocks hI htb rfl (fun z hz => nomatch hz) (fun y => absurd rfl y) (by decide) (by decide) lk_envyCycleMember_29 (by decide) hce hcv hcl ?_
  refine lv_astore (lv' := [(4, .ref q9), (0, .ref (cw_a (cc_w K) 0)), (1, .int x), (2, .int y), (3, .ref qo)]) S.1 S.2.1 dL_envyCycleMember_13 hl (by decide) rfl (fun ls hl => ?_)
  exact wr_end S hr rfl hlocks (by omega) (by omega) dL_envyCycleMember_15 (by decide) dL_envyCycleMember_16 hP1 hO1 hS1
theorem wr_envyCycleMember_x2 {cl : ClassId} {f : Nat → Int64} {x : Int32} {y : Int32} (hC : cw_T (cc_w K) mX10_envyCycleMember [.ref (cw_a (cc_w K) 0), .int x, .int y] I "java/util/NoSuchElementException" I2) : wr_C K mL_envyCycleMember [.ref (cw_a (cc_w K) 0), .int x, .int y, .ref qo] I qo (lo cl f) (cl, .long) 2 I2 (lo cl f) := by
  refine wr_entry (hh := [(0, 10, 13, 29), (0, 10, 17, 34)]) (by decide) (nse_head (by decide +kernel)) rfl (Nat.le_of_ble_eq_true rfl) (fun p e s m below meth c ls S hr hlocks htb hI hl => ?_)
  have hl : lv_has ls 5 [(0, .ref (cw_a (cc_w K) 0)), (1, .int x), (2, .int y), (3, .ref qo)] := hl
  refine lv_aload_n S.1 S.2.1 dL_envyCycleMember_0 rfl (lv_at hl 3 rfl) ?_
  refine lv_iconst (v := 0) S.1 S.2.1 dL_envyCycleMember_1 (by decide) ?_
  refine lv_aload_n S.1 S.2.1 dL_envyCycleMember_2 rfl (lv_at hl 0 rfl) ?_
  refine lv_iload_n S.1 S.2.1 dL_envyCycleMember_3 rfl (lv_at hl 1 rfl) ?_
  refine lv_iload_n S.1 S.2.1 dL_envyCycleMember_4 rfl (lv_at hl 2 rfl) ?_
  refine wl_callT (w := cc_w K) (As := [.int x, .int y]) S hI.2.2.2.1 hC okX10_envyCycleMember rfl (nse_gv (wr_gl gL_envyCycleMember_X10_envyCycleMember) (by decide +kernel)) ⟨Nat.le_of_ble_eq_true rfl, Nat.le_of_ble_eq_true rfl⟩ ⟨Nat.le_of_ble_eq_true rfl, Nat.le_of_ble_eq_true rfl⟩ (o := 0) (show 0 < 32 by decide) rfl rfl hl.1 rfl (Nat.le_of_ble_eq_true rfl) dL_envyCycleMember_5 hI.2.1 va_S.rf (fun H1 locs1 q9 ce hP1 hz1 hk1 hS1 hce hcv hcl => ?_)
  have hO1 := wr_out hI hI.2.2.1 hk1
  refine wr_caught (hh := [(0, 10, 13, 29), (0, 10, 17, 34)]) (pre := [⟨0, 10, 13, 29⟩]) (x := ⟨0, 10, 17, 34⟩) (suf := []) S hr rfl hlocks hI htb rfl (fun z hz => by rcases List.mem_singleton.mp hz with rfl; exact ⟨rfl, by decide⟩) (fun _ => lk_envyCycleMember_29) (by decide) (by decide) lk_envyCycleMember_34 (by decide) hce hcv hcl ?_
  refine lv_astore (lv' := [(4, .ref q9), (0, .ref (cw_a (cc_w K) 0)), (1, .int x), (2, .int y), (3, .ref qo)]) S.1 S.2.1 dL_envyCycleMember_17 hl (by decide) rfl (fun ls hl => ?_)
  exact wr_end S hr rfl hlocks (by omega) (by omega) dL_envyCycleMember_19 (by decide) dL_envyCycleMember_20 hP1 hO1 hS1
theorem lk_wouldSwap_29 : Cond.classLink RL 29 "java/lang/IndexOutOfBoundsException" ∈ wsL_wouldSwap := by decide +kernel
def mL_wouldSwap : cw_Me := (yL_wouldSwap, wsL_wouldSwap, cL_wouldSwap, 5, (some .int), 8, 133)
theorem wr_wouldSwap_ok {cl : ClassId} {f : Nat → Int64} {x : Int32} {y : Int32} {r : Int32} (hC : cw_C (cc_w K) mX10_wouldSwap [.ref (cw_a (cc_w K) 0), .int x, .int y] I (some (.int r)) I2) : wr_C K mL_wouldSwap [.ref (cw_a (cc_w K) 0), .int x, .int y, .ref qo] I qo (lo cl f) (cl, .long) 0 I2 (lo cl (vp_updL f 0 (if r = 0 then 0 else 1))) := by
  refine wr_entry (hh := [(0, 17, 20, 29)]) (by decide) ⟨_, rfl⟩ rfl (Nat.le_of_ble_eq_true rfl) (fun p e s m below meth c ls S hr hlocks htb hI hl => ?_)
  have hl : lv_has ls 5 [(0, .ref (cw_a (cc_w K) 0)), (1, .int x), (2, .int y), (3, .ref qo)] := hl
  refine lv_aload_n S.1 S.2.1 dL_wouldSwap_0 rfl (lv_at hl 3 rfl) ?_
  refine lv_iconst (v := 0) S.1 S.2.1 dL_wouldSwap_1 (by decide) ?_
  refine lv_aload_n S.1 S.2.1 dL_wouldSwap_2 rfl (lv_at hl 0 rfl) ?_
  refine lv_iload_n S.1 S.2.1 dL_wouldSwap_3 rfl (lv_at hl 1 rfl) ?_
  refine lv_iload_n S.1 S.2.1 dL_wouldSwap_4 rfl (lv_at hl 2 rfl) ?_
  refine wl_call (w := cc_w K) (As := [.int x, .int y]) S hI.2.2.2.1 hC okX10_wouldSwap rfl gL_wouldSwap_X10_wouldSwap ⟨Nat.le_of_ble_eq_true rfl, Nat.le_of_ble_eq_true rfl⟩ ⟨Nat.le_of_ble_eq_true rfl, Nat.le_of_ble_eq_true rfl⟩ (o := 0) (show 0 < 32 by decide) rfl rfl hl.1 rfl (Nat.le_of_ble_eq_true rfl) dL_wouldSwap_5 hI.2.1 va_S.rf (fun H1 locs1 hP1 hz1 hk1 hS1 => ?_)
  have hO1 := wr_out hI hI.2.2.1 hk1
  refine lv_if_eq (tgt := 15) S.1 S.2.1 dL_wouldSwap_8 (by decide) (fun q => ?_) (fun q => ?_)
  · rw [if_pos q]
    refine lv_lconst (v := 0) S.1 S.2.1 dL_wouldSwap_15 (by decide) ?_
    refine wl_last S.1 S.2.1 hI.2.2.2.2.1 hO1 hS1 (wr_free hI) (t0 := 0) rfl (vp_in_nI (n := 0) (N := 1) (by omega) (by omega)) dL_wouldSwap_16 (fun H2 locs2 hO2 hz2 hk2 hS2 => ?_)
    refine lv_goto (tgt := 24) S.1 S.2.1 dL_wouldSwap_17 (by decide) ?_
    exact wr_end S hr rfl hlocks (by omega) (by omega) dL_wouldSwap_24 (by decide) dL_wouldSwap_25 (wr_in hI hP1 hk2) hO2 hS2
  · rw [if_neg q]
    refine lv_lconst (v := 1) S.1 S.2.1 dL_wouldSwap_11 (by decide) ?_
    refine lv_goto (tgt := 16) S.1 S.2.1 dL_wouldSwap_12 (by decide) ?_
    refine wl_last S.1 S.2.1 hI.2.2.2.2.1 hO1 hS1 (wr_free hI) (t0 := 0) rfl (vp_in_nI (n := 0) (N := 1) (by omega) (by omega)) dL_wouldSwap_16 (fun H2 locs2 hO2 hz2 hk2 hS2 => ?_)
    refine lv_goto (tgt := 24) S.1 S.2.1 dL_wouldSwap_17 (by decide) ?_
    exact wr_end S hr rfl hlocks (by omega) (by omega) dL_wouldSwap_24 (by decide) dL_wouldSwap_25 (wr_in hI hP1 hk2) hO2 hS2
theorem wr_wouldSwap_x1 {cl : ClassId} {f : Nat → Int64} {x : Int32} {y : Int32} (hC : cw_T (cc_w K) mX10_wouldSwap [.ref (cw_a (cc_w K) 0), .int x, .int y] I "java/lang/IndexOutOfBoundsException" I2) : wr_C K mL_wouldSwap [.ref (cw_a (cc_w K) 0), .int x, .int y, .ref qo] I qo (lo cl f) (cl, .long) 1 I2 (lo cl f) := by
  refine wr_entry (hh := [(0, 17, 20, 29)]) (by decide) ⟨_, rfl⟩ rfl (Nat.le_of_ble_eq_true rfl) (fun p e s m below meth c ls S hr hlocks htb hI hl => ?_)
  have hl : lv_has ls 5 [(0, .ref (cw_a (cc_w K) 0)), (1, .int x), (2, .int y), (3, .ref qo)] := hl
  refine lv_aload_n S.1 S.2.1 dL_wouldSwap_0 rfl (lv_at hl 3 rfl) ?_
  refine lv_iconst (v := 0) S.1 S.2.1 dL_wouldSwap_1 (by decide) ?_
  refine lv_aload_n S.1 S.2.1 dL_wouldSwap_2 rfl (lv_at hl 0 rfl) ?_
  refine lv_iload_n S.1 S.2.1 dL_wouldSwap_3 rfl (lv_at hl 1 rfl) ?_
  refine lv_iload_n S.1 S.2.1 dL_wouldSwap_4 rfl (lv_at hl 2 rfl) ?_
  refine wl_callT (w := cc_w K) (As := [.int x, .int y]) S hI.2.2.2.1 hC okX10_wouldSwap rfl gL_wouldSwap_X10_wouldSwap ⟨Nat.le_of_ble_eq_true rfl, Nat.le_of_ble_eq_true rfl⟩ ⟨Nat.le_of_ble_eq_true rfl, Nat.le_of_ble_eq_true rfl⟩ (o := 0) (show 0 < 32 by decide) rfl rfl hl.1 rfl (Nat.le_of_ble_eq_true rfl) dL_wouldSwap_5 hI.2.1 va_S.rf (fun H1 locs1 q9 ce hP1 hz1 hk1 hS1 hce hcv hcl => ?_)
  have hO1 := wr_out hI hI.2.2.1 hk1
  refine wr_caught (hh := [(0, 17, 20, 29)]) (pre := []) (x := ⟨0, 17, 20, 29⟩) (suf := []) S hr rfl hlocks hI htb rfl (fun z hz => nomatch hz) (fun y => absurd rfl y) (by decide) (by decide) lk_wouldSwap_29 (by decide) hce hcv hcl ?_
  refine lv_astore (lv' := [(4, .ref q9), (0, .ref (cw_a (cc_w K) 0)), (1, .int x), (2, .int y), (3, .ref qo)]) S.1 S.2.1 dL_wouldSwap_20 hl (by decide) rfl (fun ls hl => ?_)
  exact wr_end S hr rfl hlocks (by omega) (by omega) dL_wouldSwap_22 (by decide) dL_wouldSwap_23 hP1 hO1 hS1
theorem lk_satisfaction_29 : Cond.classLink RL 29 "java/lang/IndexOutOfBoundsException" ∈ wsL_satisfaction := by decide +kernel
def mL_satisfaction : cw_Me := (yL_satisfaction, wsL_satisfaction, cL_satisfaction, 4, (some .int), 8, 133)
theorem wr_satisfaction_ok {cl : ClassId} {f : Nat → UInt64} {x : Int32} {r : UInt32} (hn : vf_n64 (FP.f2d r)) (hC : cw_C (cc_w K) mX10_satisfaction [.ref (cw_a (cc_w K) 0), .int x] I (some (.float r)) I2) : ∃ f2 : Nat → UInt64, f2 0 = FP.f2d r ∧ wr_C K mL_satisfaction [.ref (cw_a (cc_w K) 0), .int x, .ref qo] I qo (ld cl f) (cl, .double) 0 I2 (ld cl f2) := by
  refine ⟨fun k => if k = 0 then FP.f2d r else f k, rfl, ?_⟩
  refine wr_entry (hh := [(0, 9, 12, 29)]) (by decide) ⟨_, rfl⟩ rfl (Nat.le_of_ble_eq_true rfl) (fun p e s m below meth c ls S hr hlocks htb hI hl => ?_)
  have hl : lv_has ls 4 [(0, .ref (cw_a (cc_w K) 0)), (1, .int x), (2, .ref qo)] := hl
  refine lv_aload_n S.1 S.2.1 dL_satisfaction_0 rfl (lv_at hl 2 rfl) ?_
  refine lv_iconst (v := 0) S.1 S.2.1 dL_satisfaction_1 (by decide) ?_
  refine lv_aload_n S.1 S.2.1 dL_satisfaction_2 rfl (lv_at hl 0 rfl) ?_
  refine lv_iload_n S.1 S.2.1 dL_satisfaction_3 rfl (lv_at hl 1 rfl) ?_
  refine wl_call (w := cc_w K) (As := [.int x]) S hI.2.2.2.1 hC okX10_satisfaction rfl gL_satisfaction_X10_satisfaction ⟨Nat.le_of_ble_eq_true rfl, Nat.le_of_ble_eq_true rfl⟩ ⟨Nat.le_of_ble_eq_true rfl, Nat.le_of_ble_eq_true rfl⟩ (o := 0) (show 0 < 32 by decide) rfl rfl hl.1 rfl (Nat.le_of_ble_eq_true rfl) dL_satisfaction_4 hI.2.1 va_S.rf (fun H1 locs1 hP1 hz1 hk1 hS1 => ?_)
  have hO1 := wr_out hI hI.2.2.1 hk1
  refine lv_f2d S.1 S.2.1 dL_satisfaction_7 hn ?_
  refine wl_dast S.1 S.2.1 hI.2.2.2.2.1 hO1 hS1 (wr_free hI) (t0 := 0) rfl (vp_in_nI (n := 0) (N := 1) (by omega) (by omega)) dL_satisfaction_8 (fun H2 locs2 hO2 hz2 hk2 hS2 => ?_)
  refine lv_goto (tgt := 15) S.1 S.2.1 dL_satisfaction_9 (by decide) ?_
  exact wr_end S hr rfl hlocks (by omega) (by omega) dL_satisfaction_15 (by decide) dL_satisfaction_16 (wr_in hI hP1 hk2) hO2 hS2
theorem wr_satisfaction_x1 {cl : ClassId} {f : Nat → UInt64} {x : Int32} (hC : cw_T (cc_w K) mX10_satisfaction [.ref (cw_a (cc_w K) 0), .int x] I "java/lang/IndexOutOfBoundsException" I2) : wr_C K mL_satisfaction [.ref (cw_a (cc_w K) 0), .int x, .ref qo] I qo (ld cl f) (cl, .double) 1 I2 (ld cl f) := by
  refine wr_entry (hh := [(0, 9, 12, 29)]) (by decide) ⟨_, rfl⟩ rfl (Nat.le_of_ble_eq_true rfl) (fun p e s m below meth c ls S hr hlocks htb hI hl => ?_)
  have hl : lv_has ls 4 [(0, .ref (cw_a (cc_w K) 0)), (1, .int x), (2, .ref qo)] := hl
  refine lv_aload_n S.1 S.2.1 dL_satisfaction_0 rfl (lv_at hl 2 rfl) ?_
  refine lv_iconst (v := 0) S.1 S.2.1 dL_satisfaction_1 (by decide) ?_
  refine lv_aload_n S.1 S.2.1 dL_satisfaction_2 rfl (lv_at hl 0 rfl) ?_
  refine lv_iload_n S.1 S.2.1 dL_satisfaction_3 rfl (lv_at hl 1 rfl) ?_
  refine wl_callT (w := cc_w K) (As := [.int x]) S hI.2.2.2.1 hC okX10_satisfaction rfl gL_satisfaction_X10_satisfaction ⟨Nat.le_of_ble_eq_true rfl, Nat.le_of_ble_eq_true rfl⟩ ⟨Nat.le_of_ble_eq_true rfl, Nat.le_of_ble_eq_true rfl⟩ (o := 0) (show 0 < 32 by decide) rfl rfl hl.1 rfl (Nat.le_of_ble_eq_true rfl) dL_satisfaction_4 hI.2.1 va_S.rf (fun H1 locs1 q9 ce hP1 hz1 hk1 hS1 hce hcv hcl => ?_)
  have hO1 := wr_out hI hI.2.2.1 hk1
  refine wr_caught (hh := [(0, 9, 12, 29)]) (pre := []) (x := ⟨0, 9, 12, 29⟩) (suf := []) S hr rfl hlocks hI htb rfl (fun z hz => nomatch hz) (fun y => absurd rfl y) (by decide) (by decide) lk_satisfaction_29 (by decide) hce hcv hcl ?_
  refine lv_astore_n (lv' := [(3, .ref q9), (0, .ref (cw_a (cc_w K) 0)), (1, .int x), (2, .ref qo)]) S.1 S.2.1 dL_satisfaction_12 rfl hl (by decide) rfl (fun ls hl => ?_)
  exact wr_end S hr rfl hlocks (by omega) (by omega) dL_satisfaction_13 (by decide) dL_satisfaction_14 hP1 hO1 hS1
theorem lk_cutFor_29 : Cond.classLink RL 29 "java/lang/IndexOutOfBoundsException" ∈ wsL_cutFor := by decide +kernel
def mL_cutFor : cw_Me := (yL_cutFor, wsL_cutFor, cL_cutFor, 4, (some .int), 8, 132)
theorem wr_cutFor_ok {cl : ClassId} {f : Nat → Int64} {x : Int32} {r : Int32} (hC : cw_C (cc_w K) mX10_cutFor [.ref (cw_a (cc_w K) 0), .int x] I (some (.int r)) I2) : wr_C K mL_cutFor [.ref (cw_a (cc_w K) 0), .int x, .ref qo] I qo (lo cl f) (cl, .long) 0 I2 (lo cl (vp_updL f 0 (r.toInt64))) := by
  refine wr_entry (hh := [(0, 9, 12, 29)]) (by decide) ⟨_, rfl⟩ rfl (Nat.le_of_ble_eq_true rfl) (fun p e s m below meth c ls S hr hlocks htb hI hl => ?_)
  have hl : lv_has ls 4 [(0, .ref (cw_a (cc_w K) 0)), (1, .int x), (2, .ref qo)] := hl
  refine lv_aload_n S.1 S.2.1 dL_cutFor_0 rfl (lv_at hl 2 rfl) ?_
  refine lv_iconst (v := 0) S.1 S.2.1 dL_cutFor_1 (by decide) ?_
  refine lv_aload_n S.1 S.2.1 dL_cutFor_2 rfl (lv_at hl 0 rfl) ?_
  refine lv_iload_n S.1 S.2.1 dL_cutFor_3 rfl (lv_at hl 1 rfl) ?_
  refine wl_call (w := cc_w K) (As := [.int x]) S hI.2.2.2.1 hC okX10_cutFor rfl gL_cutFor_X10_cutFor ⟨Nat.le_of_ble_eq_true rfl, Nat.le_of_ble_eq_true rfl⟩ ⟨Nat.le_of_ble_eq_true rfl, Nat.le_of_ble_eq_true rfl⟩ (o := 0) (show 0 < 32 by decide) rfl rfl hl.1 rfl (Nat.le_of_ble_eq_true rfl) dL_cutFor_4 hI.2.1 va_S.rf (fun H1 locs1 hP1 hz1 hk1 hS1 => ?_)
  have hO1 := wr_out hI hI.2.2.1 hk1
  refine lv_i2l (v := r.toInt64) S.1 S.2.1 dL_cutFor_7 rfl ?_
  refine wl_last S.1 S.2.1 hI.2.2.2.2.1 hO1 hS1 (wr_free hI) (t0 := 0) rfl (vp_in_nI (n := 0) (N := 1) (by omega) (by omega)) dL_cutFor_8 (fun H2 locs2 hO2 hz2 hk2 hS2 => ?_)
  refine lv_goto (tgt := 15) S.1 S.2.1 dL_cutFor_9 (by decide) ?_
  exact wr_end S hr rfl hlocks (by omega) (by omega) dL_cutFor_15 (by decide) dL_cutFor_16 (wr_in hI hP1 hk2) hO2 hS2
theorem wr_cutFor_x1 {cl : ClassId} {f : Nat → Int64} {x : Int32} (hC : cw_T (cc_w K) mX10_cutFor [.ref (cw_a (cc_w K) 0), .int x] I "java/lang/IndexOutOfBoundsException" I2) : wr_C K mL_cutFor [.ref (cw_a (cc_w K) 0), .int x, .ref qo] I qo (lo cl f) (cl, .long) 1 I2 (lo cl f) := by
  refine wr_entry (hh := [(0, 9, 12, 29)]) (by decide) ⟨_, rfl⟩ rfl (Nat.le_of_ble_eq_true rfl) (fun p e s m below meth c ls S hr hlocks htb hI hl => ?_)
  have hl : lv_has ls 4 [(0, .ref (cw_a (cc_w K) 0)), (1, .int x), (2, .ref qo)] := hl
  refine lv_aload_n S.1 S.2.1 dL_cutFor_0 rfl (lv_at hl 2 rfl) ?_
  refine lv_iconst (v := 0) S.1 S.2.1 dL_cutFor_1 (by decide) ?_
  refine lv_aload_n S.1 S.2.1 dL_cutFor_2 rfl (lv_at hl 0 rfl) ?_
  refine lv_iload_n S.1 S.2.1 dL_cutFor_3 rfl (lv_at hl 1 rfl) ?_
  refine wl_callT (w := cc_w K) (As := [.int x]) S hI.2.2.2.1 hC okX10_cutFor rfl gL_cutFor_X10_cutFor ⟨Nat.le_of_ble_eq_true rfl, Nat.le_of_ble_eq_true rfl⟩ ⟨Nat.le_of_ble_eq_true rfl, Nat.le_of_ble_eq_true rfl⟩ (o := 0) (show 0 < 32 by decide) rfl rfl hl.1 rfl (Nat.le_of_ble_eq_true rfl) dL_cutFor_4 hI.2.1 va_S.rf (fun H1 locs1 q9 ce hP1 hz1 hk1 hS1 hce hcv hcl => ?_)
  have hO1 := wr_out hI hI.2.2.1 hk1
  refine wr_caught (hh := [(0, 9, 12, 29)]) (pre := []) (x := ⟨0, 9, 12, 29⟩) (suf := []) S hr rfl hlocks hI htb rfl (fun z hz => nomatch hz) (fun y => absurd rfl y) (by decide) (by decide) lk_cutFor_29 (by decide) hce hcv hcl ?_
  refine lv_astore_n (lv' := [(3, .ref q9), (0, .ref (cw_a (cc_w K) 0)), (1, .int x), (2, .ref qo)]) S.1 S.2.1 dL_cutFor_12 rfl hl (by decide) rfl (fun ls hl => ?_)
  exact wr_end S hr rfl hlocks (by omega) (by omega) dL_cutFor_13 (by decide) dL_cutFor_14 hP1 hO1 hS1
theorem lk_welfareByKnife_29 : Cond.classLink RL 29 "java/lang/IndexOutOfBoundsException" ∈ wsL_welfareByKnife := by decide +kernel
def mL_welfareByKnife : cw_Me := (yL_welfareByKnife, wsL_welfareByKnife, cL_welfareByKnife, 4, (some .int), 8, 146)
theorem wr_welfareByKnife_ok {cl : ClassId} {f : Nat → Int64} {x : Int32} {r : Int32} (hC : cw_C (cc_w K) mX10_welfareByKnife [.ref (cw_a (cc_w K) 0), .int x] I (some (.int r)) I2) : wr_C K mL_welfareByKnife [.ref (cw_a (cc_w K) 0), .int x, .ref qo] I qo (lo cl f) (cl, .long) 0 I2 (lo cl (vp_updL f 0 (r.toInt64))) := by
  refine wr_entry (hh := [(0, 9, 12, 29)]) (by decide) ⟨_, rfl⟩ rfl (Nat.le_of_ble_eq_true rfl) (fun p e s m below meth c ls S hr hlocks htb hI hl => ?_)
  have hl : lv_has ls 4 [(0, .ref (cw_a (cc_w K) 0)), (1, .int x), (2, .ref qo)] := hl
  refine lv_aload_n S.1 S.2.1 dL_welfareByKnife_0 rfl (lv_at hl 2 rfl) ?_
  refine lv_iconst (v := 0) S.1 S.2.1 dL_welfareByKnife_1 (by decide) ?_
  refine lv_aload_n S.1 S.2.1 dL_welfareByKnife_2 rfl (lv_at hl 0 rfl) ?_
  refine lv_iload_n S.1 S.2.1 dL_welfareByKnife_3 rfl (lv_at hl 1 rfl) ?_
  refine wl_call (w := cc_w K) (As := [.int x]) S hI.2.2.2.1 hC okX10_welfareByKnife rfl gL_welfareByKnife_X10_welfareByKnife ⟨Nat.le_of_ble_eq_true rfl, Nat.le_of_ble_eq_true rfl⟩ ⟨Nat.le_of_ble_eq_true rfl, Nat.le_of_ble_eq_true rfl⟩ (o := 0) (show 0 < 32 by decide) rfl rfl hl.1 rfl (Nat.le_of_ble_eq_true rfl) dL_welfareByKnife_4 hI.2.1 va_S.rf (fun H1 locs1 hP1 hz1 hk1 hS1 => ?_)
  have hO1 := wr_out hI hI.2.2.1 hk1
  refine lv_i2l (v := r.toInt64) S.1 S.2.1 dL_welfareByKnife_7 rfl ?_
  refine wl_last S.1 S.2.1 hI.2.2.2.2.1 hO1 hS1 (wr_free hI) (t0 := 0) rfl (vp_in_nI (n := 0) (N := 1) (by omega) (by omega)) dL_welfareByKnife_8 (fun H2 locs2 hO2 hz2 hk2 hS2 => ?_)
  refine lv_goto (tgt := 15) S.1 S.2.1 dL_welfareByKnife_9 (by decide) ?_
  exact wr_end S hr rfl hlocks (by omega) (by omega) dL_welfareByKnife_15 (by decide) dL_welfareByKnife_16 (wr_in hI hP1 hk2) hO2 hS2
theorem wr_welfareByKnife_x1 {cl : ClassId} {f : Nat → Int64} {x : Int32} (hC : cw_T (cc_w K) mX10_welfareByKnife [.ref (cw_a (cc_w K) 0), .int x] I "java/lang/IndexOutOfBoundsException" I2) : wr_C K mL_welfareByKnife [.ref (cw_a (cc_w K) 0), .int x, .ref qo] I qo (lo cl f) (cl, .long) 1 I2 (lo cl f) := by
  refine wr_entry (hh := [(0, 9, 12, 29)]) (by decide) ⟨_, rfl⟩ rfl (Nat.le_of_ble_eq_true rfl) (fun p e s m below meth c ls S hr hlocks htb hI hl => ?_)
  have hl : lv_has ls 4 [(0, .ref (cw_a (cc_w K) 0)), (1, .int x), (2, .ref qo)] := hl
  refine lv_aload_n S.1 S.2.1 dL_welfareByKnife_0 rfl (lv_at hl 2 rfl) ?_
  refine lv_iconst (v := 0) S.1 S.2.1 dL_welfareByKnife_1 (by decide) ?_
  refine lv_aload_n S.1 S.2.1 dL_welfareByKnife_2 rfl (lv_at hl 0 rfl) ?_
  refine lv_iload_n S.1 S.2.1 dL_welfareByKnife_3 rfl (lv_at hl 1 rfl) ?_
  refine wl_callT (w := cc_w K) (As := [.int x]) S hI.2.2.2.1 hC okX10_welfareByKnife rfl gL_welfareByKnife_X10_welfareByKnife ⟨Nat.le_of_ble_eq_true rfl, Nat.le_of_ble_eq_true rfl⟩ ⟨Nat.le_of_ble_eq_true rfl, Nat.le_of_ble_eq_true rfl⟩ (o := 0) (show 0 < 32 by decide) rfl rfl hl.1 rfl (Nat.le_of_ble_eq_true rfl) dL_welfareByKnife_4 hI.2.1 va_S.rf (fun H1 locs1 q9 ce hP1 hz1 hk1 hS1 hce hcv hcl => ?_)
  have hO1 := wr_out hI hI.2.2.1 hk1
  refine wr_caught (hh := [(0, 9, 12, 29)]) (pre := []) (x := ⟨0, 9, 12, 29⟩) (suf := []) S hr rfl hlocks hI htb rfl (fun z hz => nomatch hz) (fun y => absurd rfl y) (by decide) (by decide) lk_welfareByKnife_29 (by decide) hce hcv hcl ?_
  refine lv_astore_n (lv' := [(3, .ref q9), (0, .ref (cw_a (cc_w K) 0)), (1, .int x), (2, .ref qo)]) S.1 S.2.1 dL_welfareByKnife_12 rfl hl (by decide) rfl (fun ls hl => ?_)
  exact wr_end S hr rfl hlocks (by omega) (by omega) dL_welfareByKnife_13 (by decide) dL_welfareByKnife_14 hP1 hO1 hS1
theorem lk_welfareByRobin_29 : Cond.classLink RL 29 "java/lang/IndexOutOfBoundsException" ∈ wsL_welfareByRobin := by decide +kernel
def mL_welfareByRobin : cw_Me := (yL_welfareByRobin, wsL_welfareByRobin, cL_welfareByRobin, 5, (some .int), 8, 137)
theorem wr_welfareByRobin_ok {cl : ClassId} {f : Nat → Int64} {x : Int32} {y : Int32} {r : Int32} (hC : cw_C (cc_w K) mX10_welfareByRobin [.ref (cw_a (cc_w K) 0), .int x, .int y] I (some (.int r)) I2) : wr_C K mL_welfareByRobin [.ref (cw_a (cc_w K) 0), .int x, .int y, .ref qo] I qo (lo cl f) (cl, .long) 0 I2 (lo cl (vp_updL f 0 (r.toInt64))) := by
  refine wr_entry (hh := [(0, 10, 13, 29)]) (by decide) ⟨_, rfl⟩ rfl (Nat.le_of_ble_eq_true rfl) (fun p e s m below meth c ls S hr hlocks htb hI hl => ?_)
  have hl : lv_has ls 5 [(0, .ref (cw_a (cc_w K) 0)), (1, .int x), (2, .int y), (3, .ref qo)] := hl
  refine lv_aload_n S.1 S.2.1 dL_welfareByRobin_0 rfl (lv_at hl 3 rfl) ?_
  refine lv_iconst (v := 0) S.1 S.2.1 dL_welfareByRobin_1 (by decide) ?_
  refine lv_aload_n S.1 S.2.1 dL_welfareByRobin_2 rfl (lv_at hl 0 rfl) ?_
  refine lv_iload_n S.1 S.2.1 dL_welfareByRobin_3 rfl (lv_at hl 1 rfl) ?_
  refine lv_iload_n S.1 S.2.1 dL_welfareByRobin_4 rfl (lv_at hl 2 rfl) ?_
  refine wl_call (w := cc_w K) (As := [.int x, .int y]) S hI.2.2.2.1 hC okX10_welfareByRobin rfl gL_welfareByRobin_X10_welfareByRobin ⟨Nat.le_of_ble_eq_true rfl, Nat.le_of_ble_eq_true rfl⟩ ⟨Nat.le_of_ble_eq_true rfl, Nat.le_of_ble_eq_true rfl⟩ (o := 0) (show 0 < 32 by decide) rfl rfl hl.1 rfl (Nat.le_of_ble_eq_true rfl) dL_welfareByRobin_5 hI.2.1 va_S.rf (fun H1 locs1 hP1 hz1 hk1 hS1 => ?_)
  have hO1 := wr_out hI hI.2.2.1 hk1
  refine lv_i2l (v := r.toInt64) S.1 S.2.1 dL_welfareByRobin_8 rfl ?_
  refine wl_last S.1 S.2.1 hI.2.2.2.2.1 hO1 hS1 (wr_free hI) (t0 := 0) rfl (vp_in_nI (n := 0) (N := 1) (by omega) (by omega)) dL_welfareByRobin_9 (fun H2 locs2 hO2 hz2 hk2 hS2 => ?_)
  refine lv_goto (tgt := 17) S.1 S.2.1 dL_welfareByRobin_10 (by decide) ?_
  exact wr_end S hr rfl hlocks (by omega) (by omega) dL_welfareByRobin_17 (by decide) dL_welfareByRobin_18 (wr_in hI hP1 hk2) hO2 hS2
theorem wr_welfareByRobin_x1 {cl : ClassId} {f : Nat → Int64} {x : Int32} {y : Int32} (hC : cw_T (cc_w K) mX10_welfareByRobin [.ref (cw_a (cc_w K) 0), .int x, .int y] I "java/lang/IndexOutOfBoundsException" I2) : wr_C K mL_welfareByRobin [.ref (cw_a (cc_w K) 0), .int x, .int y, .ref qo] I qo (lo cl f) (cl, .long) 1 I2 (lo cl f) := by
  refine wr_entry (hh := [(0, 10, 13, 29)]) (by decide) ⟨_, rfl⟩ rfl (Nat.le_of_ble_eq_true rfl) (fun p e s m below meth c ls S hr hlocks htb hI hl => ?_)
  have hl : lv_has ls 5 [(0, .ref (cw_a (cc_w K) 0)), (1, .int x), (2, .int y), (3, .ref qo)] := hl
  refine lv_aload_n S.1 S.2.1 dL_welfareByRobin_0 rfl (lv_at hl 3 rfl) ?_
  refine lv_iconst (v := 0) S.1 S.2.1 dL_welfareByRobin_1 (by decide) ?_
  refine lv_aload_n S.1 S.2.1 dL_welfareByRobin_2 rfl (lv_at hl 0 rfl) ?_
  refine lv_iload_n S.1 S.2.1 dL_welfareByRobin_3 rfl (lv_at hl 1 rfl) ?_
  refine lv_iload_n S.1 S.2.1 dL_welfareByRobin_4 rfl (lv_at hl 2 rfl) ?_
  refine wl_callT (w := cc_w K) (As := [.int x, .int y]) S hI.2.2.2.1 hC okX10_welfareByRobin rfl gL_welfareByRobin_X10_welfareByRobin ⟨Nat.le_of_ble_eq_true rfl, Nat.le_of_ble_eq_true rfl⟩ ⟨Nat.le_of_ble_eq_true rfl, Nat.le_of_ble_eq_true rfl⟩ (o := 0) (show 0 < 32 by decide) rfl rfl hl.1 rfl (Nat.le_of_ble_eq_true rfl) dL_welfareByRobin_5 hI.2.1 va_S.rf (fun H1 locs1 q9 ce hP1 hz1 hk1 hS1 hce hcv hcl => ?_)
  have hO1 := wr_out hI hI.2.2.1 hk1
  refine wr_caught (hh := [(0, 10, 13, 29)]) (pre := []) (x := ⟨0, 10, 13, 29⟩) (suf := []) S hr rfl hlocks hI htb rfl (fun z hz => nomatch hz) (fun y => absurd rfl y) (by decide) (by decide) lk_welfareByRobin_29 (by decide) hce hcv hcl ?_
  refine lv_astore (lv' := [(4, .ref q9), (0, .ref (cw_a (cc_w K) 0)), (1, .int x), (2, .int y), (3, .ref qo)]) S.1 S.2.1 dL_welfareByRobin_13 hl (by decide) rfl (fun ls hl => ?_)
  exact wr_end S hr rfl hlocks (by omega) (by omega) dL_welfareByRobin_15 (by decide) dL_welfareByRobin_16 hP1 hO1 hS1
theorem lk_give_29 : Cond.classLink RL 29 "java/lang/IndexOutOfBoundsException" ∈ wsL_give ++ [Cond.classLink RL 19 "java/lang/IllegalArgumentException"] := by decide +kernel
theorem lk_give_19 : Cond.classLink RL 19 "java/lang/IllegalArgumentException" ∈ wsL_give ++ [Cond.classLink RL 19 "java/lang/IllegalArgumentException"] := by decide +kernel
def mL_give : cw_Me := (yL_give, wsL_give ++ [Cond.classLink RL 19 "java/lang/IllegalArgumentException"], cL_give, 6, (some .int), 8, 135)
theorem wr_give_ok {cl : ClassId} {f : Nat → Int64} {x : Int32} {y : Int32} {z : Int32} {r : Int32} (hC : cw_C (cc_w K) mX10_give [.ref (cw_a (cc_w K) 0), .int x, .int y, .int z] I (some (.int r)) I2) : wr_C K mL_give [.ref (cw_a (cc_w K) 0), .int x, .int y, .int z, .ref qo] I qo (lo cl f) (cl, .long) 0 I2 (lo cl (vp_updL f 0 (r.toInt64))) := by
  refine wr_entry (hh := [(0, 12, 15, 29), (0, 12, 19, 19)]) (by decide) ⟨_, rfl⟩ rfl (Nat.le_of_ble_eq_true rfl) (fun p e s m below meth c ls S hr hlocks htb hI hl => ?_)
  have hl : lv_has ls 6 [(0, .ref (cw_a (cc_w K) 0)), (1, .int x), (2, .int y), (3, .int z), (4, .ref qo)] := hl
  refine lv_aload S.1 S.2.1 dL_give_0 (lv_at hl 4 rfl) ?_
  refine lv_iconst (v := 0) S.1 S.2.1 dL_give_2 (by decide) ?_
  refine lv_aload_n S.1 S.2.1 dL_give_3 rfl (lv_at hl 0 rfl) ?_
  refine lv_iload_n S.1 S.2.1 dL_give_4 rfl (lv_at hl 1 rfl) ?_
  refine lv_iload_n S.1 S.2.1 dL_give_5 rfl (lv_at hl 2 rfl) ?_
  refine lv_iload_n S.1 S.2.1 dL_give_6 rfl (lv_at hl 3 rfl) ?_
  refine wl_call (w := cc_w K) (As := [.int x, .int y, .int z]) S hI.2.2.2.1 hC okX10_give rfl (wr_gl gL_give_X10_give) ⟨Nat.le_of_ble_eq_true rfl, Nat.le_of_ble_eq_true rfl⟩ ⟨Nat.le_of_ble_eq_true rfl, Nat.le_of_ble_eq_true rfl⟩ (o := 0) (show 0 < 32 by decide) rfl rfl hl.1 rfl (Nat.le_of_ble_eq_true rfl) dL_give_7 hI.2.1 va_S.rf (fun H1 locs1 hP1 hz1 hk1 hS1 => ?_)
  have hO1 := wr_out hI hI.2.2.1 hk1
  refine lv_i2l (v := r.toInt64) S.1 S.2.1 dL_give_10 rfl ?_
  refine wl_last S.1 S.2.1 hI.2.2.2.2.1 hO1 hS1 (wr_free hI) (t0 := 0) rfl (vp_in_nI (n := 0) (N := 1) (by omega) (by omega)) dL_give_11 (fun H2 locs2 hO2 hz2 hk2 hS2 => ?_)
  refine lv_goto (tgt := 23) S.1 S.2.1 dL_give_12 (by decide) ?_
  exact wr_end S hr rfl hlocks (by omega) (by omega) dL_give_23 (by decide) dL_give_24 (wr_in hI hP1 hk2) hO2 hS2
theorem wr_give_x1 {cl : ClassId} {f : Nat → Int64} {x : Int32} {y : Int32} {z : Int32} (hC : cw_T (cc_w K) mX10_give [.ref (cw_a (cc_w K) 0), .int x, .int y, .int z] I "java/lang/IndexOutOfBoundsException" I2) : wr_C K mL_give [.ref (cw_a (cc_w K) 0), .int x, .int y, .int z, .ref qo] I qo (lo cl f) (cl, .long) 1 I2 (lo cl f) := by
  refine wr_entry (hh := [(0, 12, 15, 29), (0, 12, 19, 19)]) (by decide) ⟨_, rfl⟩ rfl (Nat.le_of_ble_eq_true rfl) (fun p e s m below meth c ls S hr hlocks htb hI hl => ?_)
  have hl : lv_has ls 6 [(0, .ref (cw_a (cc_w K) 0)), (1, .int x), (2, .int y), (3, .int z), (4, .ref qo)] := hl
  refine lv_aload S.1 S.2.1 dL_give_0 (lv_at hl 4 rfl) ?_
  refine lv_iconst (v := 0) S.1 S.2.1 dL_give_2 (by decide) ?_
  refine lv_aload_n S.1 S.2.1 dL_give_3 rfl (lv_at hl 0 rfl) ?_
  refine lv_iload_n S.1 S.2.1 dL_give_4 rfl (lv_at hl 1 rfl) ?_
  refine lv_iload_n S.1 S.2.1 dL_give_5 rfl (lv_at hl 2 rfl) ?_
  refine lv_iload_n S.1 S.2.1 dL_give_6 rfl (lv_at hl 3 rfl) ?_
  refine wl_callT (w := cc_w K) (As := [.int x, .int y, .int z]) S hI.2.2.2.1 hC okX10_give rfl (wr_gl gL_give_X10_give) ⟨Nat.le_of_ble_eq_true rfl, Nat.le_of_ble_eq_true rfl⟩ ⟨Nat.le_of_ble_eq_true rfl, Nat.le_of_ble_eq_true rfl⟩ (o := 0) (show 0 < 32 by decide) rfl rfl hl.1 rfl (Nat.le_of_ble_eq_true rfl) dL_give_7 hI.2.1 va_S.rf (fun H1 locs1 q9 ce hP1 hz1 hk1 hS1 hce hcv hcl => ?_)
  have hO1 := wr_out hI hI.2.2.1 hk1
  refine wr_caught (hh := [(0, 12, 15, 29), (0, 12, 19, 19)]) (pre := []) (x := ⟨0, 12, 15, 29⟩) (suf := [⟨0, 12, 19, 19⟩]) S hr rfl hlocks hI htb rfl (fun z hz => nomatch hz) (fun y => absurd rfl y) (by decide) (by decide) lk_give_29 (by decide) hce hcv hcl ?_
  refine lv_astore (lv' := [(5, .ref q9), (0, .ref (cw_a (cc_w K) 0)), (1, .int x), (2, .int y), (3, .int z), (4, .ref qo)]) S.1 S.2.1 dL_give_15 hl (by decide) rfl (fun ls hl => ?_)
  exact wr_end S hr rfl hlocks (by omega) (by omega) dL_give_17 (by decide) dL_give_18 hP1 hO1 hS1
theorem wr_give_x2 {cl : ClassId} {f : Nat → Int64} {x : Int32} {y : Int32} {z : Int32} (hC : cw_T (cc_w K) mX10_give [.ref (cw_a (cc_w K) 0), .int x, .int y, .int z] I "java/lang/IllegalArgumentException" I2) : wr_C K mL_give [.ref (cw_a (cc_w K) 0), .int x, .int y, .int z, .ref qo] I qo (lo cl f) (cl, .long) 2 I2 (lo cl f) := by
  refine wr_entry (hh := [(0, 12, 15, 29), (0, 12, 19, 19)]) (by decide) ⟨_, rfl⟩ rfl (Nat.le_of_ble_eq_true rfl) (fun p e s m below meth c ls S hr hlocks htb hI hl => ?_)
  have hl : lv_has ls 6 [(0, .ref (cw_a (cc_w K) 0)), (1, .int x), (2, .int y), (3, .int z), (4, .ref qo)] := hl
  refine lv_aload S.1 S.2.1 dL_give_0 (lv_at hl 4 rfl) ?_
  refine lv_iconst (v := 0) S.1 S.2.1 dL_give_2 (by decide) ?_
  refine lv_aload_n S.1 S.2.1 dL_give_3 rfl (lv_at hl 0 rfl) ?_
  refine lv_iload_n S.1 S.2.1 dL_give_4 rfl (lv_at hl 1 rfl) ?_
  refine lv_iload_n S.1 S.2.1 dL_give_5 rfl (lv_at hl 2 rfl) ?_
  refine lv_iload_n S.1 S.2.1 dL_give_6 rfl (lv_at hl 3 rfl) ?_
  refine wl_callT (w := cc_w K) (As := [.int x, .int y, .int z]) S hI.2.2.2.1 hC okX10_give rfl (wr_gl gL_give_X10_give) ⟨Nat.le_of_ble_eq_true rfl, Nat.le_of_ble_eq_true rfl⟩ ⟨Nat.le_of_ble_eq_true rfl, Nat.le_of_ble_eq_true rfl⟩ (o := 0) (show 0 < 32 by decide) rfl rfl hl.1 rfl (Nat.le_of_ble_eq_true rfl) dL_give_7 hI.2.1 va_S.rf (fun H1 locs1 q9 ce hP1 hz1 hk1 hS1 hce hcv hcl => ?_)
  have hO1 := wr_out hI hI.2.2.1 hk1
  refine wr_caught (hh := [(0, 12, 15, 29), (0, 12, 19, 19)]) (pre := [⟨0, 12, 15, 29⟩]) (x := ⟨0, 12, 19, 19⟩) (suf := []) S hr rfl hlocks hI htb rfl (fun z hz => by rcases List.mem_singleton.mp hz with rfl; exact ⟨rfl, by decide⟩) (fun _ => lk_give_29) (by decide) (by decide) lk_give_19 (by decide) hce hcv hcl ?_
  refine lv_astore (lv' := [(5, .ref q9), (0, .ref (cw_a (cc_w K) 0)), (1, .int x), (2, .int y), (3, .int z), (4, .ref qo)]) S.1 S.2.1 dL_give_19 hl (by decide) rfl (fun ls hl => ?_)
  exact wr_end S hr rfl hlocks (by omega) (by omega) dL_give_21 (by decide) dL_give_22 hP1 hO1 hS1
theorem lk_release_19 : Cond.classLink RL 19 "java/lang/IllegalArgumentException" ∈ wsL_release := by decide +kernel
def mL_release : cw_Me := (yL_release, wsL_release, cL_release, 5, (some .int), 8, 134)
theorem wr_release_ok {cl : ClassId} {f : Nat → Int64} {x : Int32} {y : Int32} {r : Int32} (hC : cw_C (cc_w K) mX10_release [.ref (cw_a (cc_w K) 0), .int x, .int y] I (some (.int r)) I2) : wr_C K mL_release [.ref (cw_a (cc_w K) 0), .int x, .int y, .ref qo] I qo (lo cl f) (cl, .long) 0 I2 (lo cl (vp_updL f 0 (r.toInt64))) := by
  refine wr_entry (hh := [(0, 10, 13, 19)]) (by decide) ⟨_, rfl⟩ rfl (Nat.le_of_ble_eq_true rfl) (fun p e s m below meth c ls S hr hlocks htb hI hl => ?_)
  have hl : lv_has ls 5 [(0, .ref (cw_a (cc_w K) 0)), (1, .int x), (2, .int y), (3, .ref qo)] := hl
  refine lv_aload_n S.1 S.2.1 dL_release_0 rfl (lv_at hl 3 rfl) ?_
  refine lv_iconst (v := 0) S.1 S.2.1 dL_release_1 (by decide) ?_
  refine lv_aload_n S.1 S.2.1 dL_release_2 rfl (lv_at hl 0 rfl) ?_
  refine lv_iload_n S.1 S.2.1 dL_release_3 rfl (lv_at hl 1 rfl) ?_
  refine lv_iload_n S.1 S.2.1 dL_release_4 rfl (lv_at hl 2 rfl) ?_
  refine wl_call (w := cc_w K) (As := [.int x, .int y]) S hI.2.2.2.1 hC okX10_release rfl gL_release_X10_release ⟨Nat.le_of_ble_eq_true rfl, Nat.le_of_ble_eq_true rfl⟩ ⟨Nat.le_of_ble_eq_true rfl, Nat.le_of_ble_eq_true rfl⟩ (o := 0) (show 0 < 32 by decide) rfl rfl hl.1 rfl (Nat.le_of_ble_eq_true rfl) dL_release_5 hI.2.1 va_S.rf (fun H1 locs1 hP1 hz1 hk1 hS1 => ?_)
  have hO1 := wr_out hI hI.2.2.1 hk1
  refine lv_i2l (v := r.toInt64) S.1 S.2.1 dL_release_8 rfl ?_
  refine wl_last S.1 S.2.1 hI.2.2.2.2.1 hO1 hS1 (wr_free hI) (t0 := 0) rfl (vp_in_nI (n := 0) (N := 1) (by omega) (by omega)) dL_release_9 (fun H2 locs2 hO2 hz2 hk2 hS2 => ?_)
  refine lv_goto (tgt := 17) S.1 S.2.1 dL_release_10 (by decide) ?_
  exact wr_end S hr rfl hlocks (by omega) (by omega) dL_release_17 (by decide) dL_release_18 (wr_in hI hP1 hk2) hO2 hS2
theorem wr_release_x1 {cl : ClassId} {f : Nat → Int64} {x : Int32} {y : Int32} (hC : cw_T (cc_w K) mX10_release [.ref (cw_a (cc_w K) 0), .int x, .int y] I "java/lang/IllegalArgumentException" I2) : wr_C K mL_release [.ref (cw_a (cc_w K) 0), .int x, .int y, .ref qo] I qo (lo cl f) (cl, .long) 1 I2 (lo cl f) := by
  refine wr_entry (hh := [(0, 10, 13, 19)]) (by decide) ⟨_, rfl⟩ rfl (Nat.le_of_ble_eq_true rfl) (fun p e s m below meth c ls S hr hlocks htb hI hl => ?_)
  have hl : lv_has ls 5 [(0, .ref (cw_a (cc_w K) 0)), (1, .int x), (2, .int y), (3, .ref qo)] := hl
  refine lv_aload_n S.1 S.2.1 dL_release_0 rfl (lv_at hl 3 rfl) ?_
  refine lv_iconst (v := 0) S.1 S.2.1 dL_release_1 (by decide) ?_
  refine lv_aload_n S.1 S.2.1 dL_release_2 rfl (lv_at hl 0 rfl) ?_
  refine lv_iload_n S.1 S.2.1 dL_release_3 rfl (lv_at hl 1 rfl) ?_
  refine lv_iload_n S.1 S.2.1 dL_release_4 rfl (lv_at hl 2 rfl) ?_
  refine wl_callT (w := cc_w K) (As := [.int x, .int y]) S hI.2.2.2.1 hC okX10_release rfl gL_release_X10_release ⟨Nat.le_of_ble_eq_true rfl, Nat.le_of_ble_eq_true rfl⟩ ⟨Nat.le_of_ble_eq_true rfl, Nat.le_of_ble_eq_true rfl⟩ (o := 0) (show 0 < 32 by decide) rfl rfl hl.1 rfl (Nat.le_of_ble_eq_true rfl) dL_release_5 hI.2.1 va_S.rf (fun H1 locs1 q9 ce hP1 hz1 hk1 hS1 hce hcv hcl => ?_)
  have hO1 := wr_out hI hI.2.2.1 hk1
  refine wr_caught (hh := [(0, 10, 13, 19)]) (pre := []) (x := ⟨0, 10, 13, 19⟩) (suf := []) S hr rfl hlocks hI htb rfl (fun z hz => nomatch hz) (fun y => absurd rfl y) (by decide) (by decide) lk_release_19 (by decide) hce hcv hcl ?_
  refine lv_astore (lv' := [(4, .ref q9), (0, .ref (cw_a (cc_w K) 0)), (1, .int x), (2, .int y), (3, .ref qo)]) S.1 S.2.1 dL_release_13 hl (by decide) rfl (fun ls hl => ?_)
  exact wr_end S hr rfl hlocks (by omega) (by omega) dL_release_15 (by decide) dL_release_16 hP1 hO1 hS1
theorem lk_swapShares_29 : Cond.classLink RL 29 "java/lang/IndexOutOfBoundsException" ∈ wsL_swapShares ++ [Cond.classLink RL 13 "java/lang/IllegalStateException"] := by decide +kernel
theorem lk_swapShares_13 : Cond.classLink RL 13 "java/lang/IllegalStateException" ∈ wsL_swapShares ++ [Cond.classLink RL 13 "java/lang/IllegalStateException"] := by decide +kernel
def mL_swapShares : cw_Me := (yL_swapShares, wsL_swapShares ++ [Cond.classLink RL 13 "java/lang/IllegalStateException"], cL_swapShares, 5, (some .int), 8, 134)
theorem wr_swapShares_ok {cl : ClassId} {f : Nat → Int64} {x : Int32} {y : Int32} {r : Int32} (hC : cw_C (cc_w K) mX10_swapShares [.ref (cw_a (cc_w K) 0), .int x, .int y] I (some (.int r)) I2) : wr_C K mL_swapShares [.ref (cw_a (cc_w K) 0), .int x, .int y, .ref qo] I qo (lo cl f) (cl, .long) 0 I2 (lo cl (vp_updL f 0 (r.toInt64))) := by
  refine wr_entry (hh := [(0, 10, 13, 29), (0, 10, 17, 13)]) (by decide) ⟨_, rfl⟩ rfl (Nat.le_of_ble_eq_true rfl) (fun p e s m below meth c ls S hr hlocks htb hI hl => ?_)
  have hl : lv_has ls 5 [(0, .ref (cw_a (cc_w K) 0)), (1, .int x), (2, .int y), (3, .ref qo)] := hl
  refine lv_aload_n S.1 S.2.1 dL_swapShares_0 rfl (lv_at hl 3 rfl) ?_
  refine lv_iconst (v := 0) S.1 S.2.1 dL_swapShares_1 (by decide) ?_
  refine lv_aload_n S.1 S.2.1 dL_swapShares_2 rfl (lv_at hl 0 rfl) ?_
  refine lv_iload_n S.1 S.2.1 dL_swapShares_3 rfl (lv_at hl 1 rfl) ?_
  refine lv_iload_n S.1 S.2.1 dL_swapShares_4 rfl (lv_at hl 2 rfl) ?_
  refine wl_call (w := cc_w K) (As := [.int x, .int y]) S hI.2.2.2.1 hC okX10_swapShares rfl (wr_gl gL_swapShares_X10_swapShares) ⟨Nat.le_of_ble_eq_true rfl, Nat.le_of_ble_eq_true rfl⟩ ⟨Nat.le_of_ble_eq_true rfl, Nat.le_of_ble_eq_true rfl⟩ (o := 0) (show 0 < 32 by decide) rfl rfl hl.1 rfl (Nat.le_of_ble_eq_true rfl) dL_swapShares_5 hI.2.1 va_S.rf (fun H1 locs1 hP1 hz1 hk1 hS1 => ?_)
  have hO1 := wr_out hI hI.2.2.1 hk1
  refine lv_i2l (v := r.toInt64) S.1 S.2.1 dL_swapShares_8 rfl ?_
  refine wl_last S.1 S.2.1 hI.2.2.2.2.1 hO1 hS1 (wr_free hI) (t0 := 0) rfl (vp_in_nI (n := 0) (N := 1) (by omega) (by omega)) dL_swapShares_9 (fun H2 locs2 hO2 hz2 hk2 hS2 => ?_)
  refine lv_goto (tgt := 21) S.1 S.2.1 dL_swapShares_10 (by decide) ?_
  exact wr_end S hr rfl hlocks (by omega) (by omega) dL_swapShares_21 (by decide) dL_swapShares_22 (wr_in hI hP1 hk2) hO2 hS2
theorem wr_swapShares_x1 {cl : ClassId} {f : Nat → Int64} {x : Int32} {y : Int32} (hC : cw_T (cc_w K) mX10_swapShares [.ref (cw_a (cc_w K) 0), .int x, .int y] I "java/lang/IndexOutOfBoundsException" I2) : wr_C K mL_swapShares [.ref (cw_a (cc_w K) 0), .int x, .int y, .ref qo] I qo (lo cl f) (cl, .long) 1 I2 (lo cl f) := by
  refine wr_entry (hh := [(0, 10, 13, 29), (0, 10, 17, 13)]) (by decide) ⟨_, rfl⟩ rfl (Nat.le_of_ble_eq_true rfl) (fun p e s m below meth c ls S hr hlocks htb hI hl => ?_)
  have hl : lv_has ls 5 [(0, .ref (cw_a (cc_w K) 0)), (1, .int x), (2, .int y), (3, .ref qo)] := hl
  refine lv_aload_n S.1 S.2.1 dL_swapShares_0 rfl (lv_at hl 3 rfl) ?_
  refine lv_iconst (v := 0) S.1 S.2.1 dL_swapShares_1 (by decide) ?_
  refine lv_aload_n S.1 S.2.1 dL_swapShares_2 rfl (lv_at hl 0 rfl) ?_
  refine lv_iload_n S.1 S.2.1 dL_swapShares_3 rfl (lv_at hl 1 rfl) ?_
  refine lv_iload_n S.1 S.2.1 dL_swapShares_4 rfl (lv_at hl 2 rfl) ?_
  refine wl_callT (w := cc_w K) (As := [.int x, .int y]) S hI.2.2.2.1 hC okX10_swapShares rfl (wr_gl gL_swapShares_X10_swapShares) ⟨Nat.le_of_ble_eq_true rfl, Nat.le_of_ble_eq_true rfl⟩ ⟨Nat.le_of_ble_eq_true rfl, Nat.le_of_ble_eq_true rfl⟩ (o := 0) (show 0 < 32 by decide) rfl rfl hl.1 rfl (Nat.le_of_ble_eq_true rfl) dL_swapShares_5 hI.2.1 va_S.rf (fun H1 locs1 q9 ce hP1 hz1 hk1 hS1 hce hcv hcl => ?_)
  have hO1 := wr_out hI hI.2.2.1 hk1
  refine wr_caught (hh := [(0, 10, 13, 29), (0, 10, 17, 13)]) (pre := []) (x := ⟨0, 10, 13, 29⟩) (suf := [⟨0, 10, 17, 13⟩]) S hr rfl hlocks hI htb rfl (fun z hz => nomatch hz) (fun y => absurd rfl y) (by decide) (by decide) lk_swapShares_29 (by decide) hce hcv hcl ?_
  refine lv_astore (lv' := [(4, .ref q9), (0, .ref (cw_a (cc_w K) 0)), (1, .int x), (2, .int y), (3, .ref qo)]) S.1 S.2.1 dL_swapShares_13 hl (by decide) rfl (fun ls hl => ?_)
  exact wr_end S hr rfl hlocks (by omega) (by omega) dL_swapShares_15 (by decide) dL_swapShares_16 hP1 hO1 hS1
theorem wr_swapShares_x2 {cl : ClassId} {f : Nat → Int64} {x : Int32} {y : Int32} (hC : cw_T (cc_w K) mX10_swapShares [.ref (cw_a (cc_w K) 0), .int x, .int y] I "java/lang/IllegalStateException" I2) : wr_C K mL_swapShares [.ref (cw_a (cc_w K) 0), .int x, .int y, .ref qo] I qo (lo cl f) (cl, .long) 2 I2 (lo cl f) := by
  refine wr_entry (hh := [(0, 10, 13, 29), (0, 10, 17, 13)]) (by decide) ⟨_, rfl⟩ rfl (Nat.le_of_ble_eq_true rfl) (fun p e s m below meth c ls S hr hlocks htb hI hl => ?_)
  have hl : lv_has ls 5 [(0, .ref (cw_a (cc_w K) 0)), (1, .int x), (2, .int y), (3, .ref qo)] := hl
  refine lv_aload_n S.1 S.2.1 dL_swapShares_0 rfl (lv_at hl 3 rfl) ?_
  refine lv_iconst (v := 0) S.1 S.2.1 dL_swapShares_1 (by decide) ?_
  refine lv_aload_n S.1 S.2.1 dL_swapShares_2 rfl (lv_at hl 0 rfl) ?_
  refine lv_iload_n S.1 S.2.1 dL_swapShares_3 rfl (lv_at hl 1 rfl) ?_
  refine lv_iload_n S.1 S.2.1 dL_swapShares_4 rfl (lv_at hl 2 rfl) ?_
  refine wl_callT (w := cc_w K) (As := [.int x, .int y]) S hI.2.2.2.1 hC okX10_swapShares rfl (wr_gl gL_swapShares_X10_swapShares) ⟨Nat.le_of_ble_eq_true rfl, Nat.le_of_ble_eq_true rfl⟩ ⟨Nat.le_of_ble_eq_true rfl, Nat.le_of_ble_eq_true rfl⟩ (o := 0) (show 0 < 32 by decide) rfl rfl hl.1 rfl (Nat.le_of_ble_eq_true rfl) dL_swapShares_5 hI.2.1 va_S.rf (fun H1 locs1 q9 ce hP1 hz1 hk1 hS1 hce hcv hcl => ?_)
  have hO1 := wr_out hI hI.2.2.1 hk1
  refine wr_caught (hh := [(0, 10, 13, 29), (0, 10, 17, 13)]) (pre := [⟨0, 10, 13, 29⟩]) (x := ⟨0, 10, 17, 13⟩) (suf := []) S hr rfl hlocks hI htb rfl (fun z hz => by rcases List.mem_singleton.mp hz with rfl; exact ⟨rfl, by decide⟩) (fun _ => lk_swapShares_29) (by decide) (by decide) lk_swapShares_13 (by decide) hce hcv hcl ?_
  refine lv_astore (lv' := [(4, .ref q9), (0, .ref (cw_a (cc_w K) 0)), (1, .int x), (2, .int y), (3, .ref qo)]) S.1 S.2.1 dL_swapShares_17 hl (by decide) rfl (fun ls hl => ?_)
  exact wr_end S hr rfl hlocks (by omega) (by omega) dL_swapShares_19 (by decide) dL_swapShares_20 hP1 hO1 hS1
theorem lk_setValue_29 : Cond.classLink RL 29 "java/lang/IndexOutOfBoundsException" ∈ wsL_setValue ++ [Cond.classLink RL 19 "java/lang/IllegalArgumentException"] := by decide +kernel
theorem lk_setValue_19 : Cond.classLink RL 19 "java/lang/IllegalArgumentException" ∈ wsL_setValue ++ [Cond.classLink RL 19 "java/lang/IllegalArgumentException"] := by decide +kernel
def mL_setValue : cw_Me := (yL_setValue, wsL_setValue ++ [Cond.classLink RL 19 "java/lang/IllegalArgumentException"], cL_setValue, 6, (some .int), 8, 135)
theorem wr_setValue_ok {cl : ClassId} {f : Nat → Int64} {x : Int32} {y : Int32} {z : Int32} {r : Int32} (hC : cw_C (cc_w K) mX10_setValue [.ref (cw_a (cc_w K) 0), .int x, .int y, .int z] I (some (.int r)) I2) : wr_C K mL_setValue [.ref (cw_a (cc_w K) 0), .int x, .int y, .int z, .ref qo] I qo (lo cl f) (cl, .long) 0 I2 (lo cl (vp_updL f 0 (r.toInt64))) := by
  refine wr_entry (hh := [(0, 12, 15, 29), (0, 12, 19, 19)]) (by decide) ⟨_, rfl⟩ rfl (Nat.le_of_ble_eq_true rfl) (fun p e s m below meth c ls S hr hlocks htb hI hl => ?_)
  have hl : lv_has ls 6 [(0, .ref (cw_a (cc_w K) 0)), (1, .int x), (2, .int y), (3, .int z), (4, .ref qo)] := hl
  refine lv_aload S.1 S.2.1 dL_setValue_0 (lv_at hl 4 rfl) ?_
  refine lv_iconst (v := 0) S.1 S.2.1 dL_setValue_2 (by decide) ?_
  refine lv_aload_n S.1 S.2.1 dL_setValue_3 rfl (lv_at hl 0 rfl) ?_
  refine lv_iload_n S.1 S.2.1 dL_setValue_4 rfl (lv_at hl 1 rfl) ?_
  refine lv_iload_n S.1 S.2.1 dL_setValue_5 rfl (lv_at hl 2 rfl) ?_
  refine lv_iload_n S.1 S.2.1 dL_setValue_6 rfl (lv_at hl 3 rfl) ?_
  refine wl_call (w := cc_w K) (As := [.int x, .int y, .int z]) S hI.2.2.2.1 hC okX10_setValue rfl (wr_gl gL_setValue_X10_setValue) ⟨Nat.le_of_ble_eq_true rfl, Nat.le_of_ble_eq_true rfl⟩ ⟨Nat.le_of_ble_eq_true rfl, Nat.le_of_ble_eq_true rfl⟩ (o := 0) (show 0 < 32 by decide) rfl rfl hl.1 rfl (Nat.le_of_ble_eq_true rfl) dL_setValue_7 hI.2.1 va_S.rf (fun H1 locs1 hP1 hz1 hk1 hS1 => ?_)
  have hO1 := wr_out hI hI.2.2.1 hk1
  refine lv_i2l (v := r.toInt64) S.1 S.2.1 dL_setValue_10 rfl ?_
  refine wl_last S.1 S.2.1 hI.2.2.2.2.1 hO1 hS1 (wr_free hI) (t0 := 0) rfl (vp_in_nI (n := 0) (N := 1) (by omega) (by omega)) dL_setValue_11 (fun H2 locs2 hO2 hz2 hk2 hS2 => ?_)
  refine lv_goto (tgt := 23) S.1 S.2.1 dL_setValue_12 (by decide) ?_
  exact wr_end S hr rfl hlocks (by omega) (by omega) dL_setValue_23 (by decide) dL_setValue_24 (wr_in hI hP1 hk2) hO2 hS2
theorem wr_setValue_x1 {cl : ClassId} {f : Nat → Int64} {x : Int32} {y : Int32} {z : Int32} (hC : cw_T (cc_w K) mX10_setValue [.ref (cw_a (cc_w K) 0), .int x, .int y, .int z] I "java/lang/IndexOutOfBoundsException" I2) : wr_C K mL_setValue [.ref (cw_a (cc_w K) 0), .int x, .int y, .int z, .ref qo] I qo (lo cl f) (cl, .long) 1 I2 (lo cl f) := by
  refine wr_entry (hh := [(0, 12, 15, 29), (0, 12, 19, 19)]) (by decide) ⟨_, rfl⟩ rfl (Nat.le_of_ble_eq_true rfl) (fun p e s m below meth c ls S hr hlocks htb hI hl => ?_)
  have hl : lv_has ls 6 [(0, .ref (cw_a (cc_w K) 0)), (1, .int x), (2, .int y), (3, .int z), (4, .ref qo)] := hl
  refine lv_aload S.1 S.2.1 dL_setValue_0 (lv_at hl 4 rfl) ?_
  refine lv_iconst (v := 0) S.1 S.2.1 dL_setValue_2 (by decide) ?_
  refine lv_aload_n S.1 S.2.1 dL_setValue_3 rfl (lv_at hl 0 rfl) ?_
  refine lv_iload_n S.1 S.2.1 dL_setValue_4 rfl (lv_at hl 1 rfl) ?_
  refine lv_iload_n S.1 S.2.1 dL_setValue_5 rfl (lv_at hl 2 rfl) ?_
  refine lv_iload_n S.1 S.2.1 dL_setValue_6 rfl (lv_at hl 3 rfl) ?_
  refine wl_callT (w := cc_w K) (As := [.int x, .int y, .int z]) S hI.2.2.2.1 hC okX10_setValue rfl (wr_gl gL_setValue_X10_setValue) ⟨Nat.le_of_ble_eq_true rfl, Nat.le_of_ble_eq_true rfl⟩ ⟨Nat.le_of_ble_eq_true rfl, Nat.le_of_ble_eq_true rfl⟩ (o := 0) (show 0 < 32 by decide) rfl rfl hl.1 rfl (Nat.le_of_ble_eq_true rfl) dL_setValue_7 hI.2.1 va_S.rf (fun H1 locs1 q9 ce hP1 hz1 hk1 hS1 hce hcv hcl => ?_)
  have hO1 := wr_out hI hI.2.2.1 hk1
  refine wr_caught (hh := [(0, 12, 15, 29), (0, 12, 19, 19)]) (pre := []) (x := ⟨0, 12, 15, 29⟩) (suf := [⟨0, 12, 19, 19⟩]) S hr rfl hlocks hI htb rfl (fun z hz => nomatch hz) (fun y => absurd rfl y) (by decide) (by decide) lk_setValue_29 (by decide) hce hcv hcl ?_
  refine lv_astore (lv' := [(5, .ref q9), (0, .ref (cw_a (cc_w K) 0)), (1, .int x), (2, .int y), (3, .int z), (4, .ref qo)]) S.1 S.2.1 dL_setValue_15 hl (by decide) rfl (fun ls hl => ?_)
  exact wr_end S hr rfl hlocks (by omega) (by omega) dL_setValue_17 (by decide) dL_setValue_18 hP1 hO1 hS1
theorem wr_setValue_x2 {cl : ClassId} {f : Nat → Int64} {x : Int32} {y : Int32} {z : Int32} (hC : cw_T (cc_w K) mX10_setValue [.ref (cw_a (cc_w K) 0), .int x, .int y, .int z] I "java/lang/IllegalArgumentException" I2) : wr_C K mL_setValue [.ref (cw_a (cc_w K) 0), .int x, .int y, .int z, .ref qo] I qo (lo cl f) (cl, .long) 2 I2 (lo cl f) := by
  refine wr_entry (hh := [(0, 12, 15, 29), (0, 12, 19, 19)]) (by decide) ⟨_, rfl⟩ rfl (Nat.le_of_ble_eq_true rfl) (fun p e s m below meth c ls S hr hlocks htb hI hl => ?_)
  have hl : lv_has ls 6 [(0, .ref (cw_a (cc_w K) 0)), (1, .int x), (2, .int y), (3, .int z), (4, .ref qo)] := hl
  refine lv_aload S.1 S.2.1 dL_setValue_0 (lv_at hl 4 rfl) ?_
  refine lv_iconst (v := 0) S.1 S.2.1 dL_setValue_2 (by decide) ?_
  refine lv_aload_n S.1 S.2.1 dL_setValue_3 rfl (lv_at hl 0 rfl) ?_
  refine lv_iload_n S.1 S.2.1 dL_setValue_4 rfl (lv_at hl 1 rfl) ?_
  refine lv_iload_n S.1 S.2.1 dL_setValue_5 rfl (lv_at hl 2 rfl) ?_
  refine lv_iload_n S.1 S.2.1 dL_setValue_6 rfl (lv_at hl 3 rfl) ?_
  refine wl_callT (w := cc_w K) (As := [.int x, .int y, .int z]) S hI.2.2.2.1 hC okX10_setValue rfl (wr_gl gL_setValue_X10_setValue) ⟨Nat.le_of_ble_eq_true rfl, Nat.le_of_ble_eq_true rfl⟩ ⟨Nat.le_of_ble_eq_true rfl, Nat.le_of_ble_eq_true rfl⟩ (o := 0) (show 0 < 32 by decide) rfl rfl hl.1 rfl (Nat.le_of_ble_eq_true rfl) dL_setValue_7 hI.2.1 va_S.rf (fun H1 locs1 q9 ce hP1 hz1 hk1 hS1 hce hcv hcl => ?_)
  have hO1 := wr_out hI hI.2.2.1 hk1
  refine wr_caught (hh := [(0, 12, 15, 29), (0, 12, 19, 19)]) (pre := [⟨0, 12, 15, 29⟩]) (x := ⟨0, 12, 19, 19⟩) (suf := []) S hr rfl hlocks hI htb rfl (fun z hz => by rcases List.mem_singleton.mp hz with rfl; exact ⟨rfl, by decide⟩) (fun _ => lk_setValue_29) (by decide) (by decide) lk_setValue_19 (by decide) hce hcv hcl ?_
  refine lv_astore (lv' := [(5, .ref q9), (0, .ref (cw_a (cc_w K) 0)), (1, .int x), (2, .int y), (3, .int z), (4, .ref qo)]) S.1 S.2.1 dL_setValue_19 hl (by decide) rfl (fun ls hl => ?_)
  exact wr_end S hr rfl hlocks (by omega) (by omega) dL_setValue_21 (by decide) dL_setValue_22 hP1 hO1 hS1
theorem lk_divideAndChoose_29 : Cond.classLink RL 29 "java/lang/IndexOutOfBoundsException" ∈ wsL_divideAndChoose ++ [Cond.classLink RL 13 "java/lang/IllegalStateException"] := by decide +kernel
theorem lk_divideAndChoose_13 : Cond.classLink RL 13 "java/lang/IllegalStateException" ∈ wsL_divideAndChoose ++ [Cond.classLink RL 13 "java/lang/IllegalStateException"] := by decide +kernel
def mL_divideAndChoose : cw_Me := (yL_divideAndChoose, wsL_divideAndChoose ++ [Cond.classLink RL 13 "java/lang/IllegalStateException"], cL_divideAndChoose, 5, (some .int), 8, 134)
theorem wr_divideAndChoose_ok {cl : ClassId} {f : Nat → Int64} {x : Int32} {y : Int32} {r : Int32} (hC : cw_C (cc_w K) mX10_divideAndChoose [.ref (cw_a (cc_w K) 0), .int x, .int y] I (some (.int r)) I2) : wr_C K mL_divideAndChoose [.ref (cw_a (cc_w K) 0), .int x, .int y, .ref qo] I qo (lo cl f) (cl, .long) 0 I2 (lo cl (vp_updL f 0 (r.toInt64))) := by
  refine wr_entry (hh := [(0, 10, 13, 29), (0, 10, 17, 13)]) (by decide) ⟨_, rfl⟩ rfl (Nat.le_of_ble_eq_true rfl) (fun p e s m below meth c ls S hr hlocks htb hI hl => ?_)
  have hl : lv_has ls 5 [(0, .ref (cw_a (cc_w K) 0)), (1, .int x), (2, .int y), (3, .ref qo)] := hl
  refine lv_aload_n S.1 S.2.1 dL_divideAndChoose_0 rfl (lv_at hl 3 rfl) ?_
  refine lv_iconst (v := 0) S.1 S.2.1 dL_divideAndChoose_1 (by decide) ?_
  refine lv_aload_n S.1 S.2.1 dL_divideAndChoose_2 rfl (lv_at hl 0 rfl) ?_
  refine lv_iload_n S.1 S.2.1 dL_divideAndChoose_3 rfl (lv_at hl 1 rfl) ?_
  refine lv_iload_n S.1 S.2.1 dL_divideAndChoose_4 rfl (lv_at hl 2 rfl) ?_
  refine wl_call (w := cc_w K) (As := [.int x, .int y]) S hI.2.2.2.1 hC okX10_divideAndChoose rfl (wr_gl gL_divideAndChoose_X10_divideAndChoose) ⟨Nat.le_of_ble_eq_true rfl, Nat.le_of_ble_eq_true rfl⟩ ⟨Nat.le_of_ble_eq_true rfl, Nat.le_of_ble_eq_true rfl⟩ (o := 0) (show 0 < 32 by decide) rfl rfl hl.1 rfl (Nat.le_of_ble_eq_true rfl) dL_divideAndChoose_5 hI.2.1 va_S.rf (fun H1 locs1 hP1 hz1 hk1 hS1 => ?_)
  have hO1 := wr_out hI hI.2.2.1 hk1
  refine lv_i2l (v := r.toInt64) S.1 S.2.1 dL_divideAndChoose_8 rfl ?_
  refine wl_last S.1 S.2.1 hI.2.2.2.2.1 hO1 hS1 (wr_free hI) (t0 := 0) rfl (vp_in_nI (n := 0) (N := 1) (by omega) (by omega)) dL_divideAndChoose_9 (fun H2 locs2 hO2 hz2 hk2 hS2 => ?_)
  refine lv_goto (tgt := 21) S.1 S.2.1 dL_divideAndChoose_10 (by decide) ?_
  exact wr_end S hr rfl hlocks (by omega) (by omega) dL_divideAndChoose_21 (by decide) dL_divideAndChoose_22 (wr_in hI hP1 hk2) hO2 hS2
theorem wr_divideAndChoose_x1 {cl : ClassId} {f : Nat → Int64} {x : Int32} {y : Int32} (hC : cw_T (cc_w K) mX10_divideAndChoose [.ref (cw_a (cc_w K) 0), .int x, .int y] I "java/lang/IndexOutOfBoundsException" I2) : wr_C K mL_divideAndChoose [.ref (cw_a (cc_w K) 0), .int x, .int y, .ref qo] I qo (lo cl f) (cl, .long) 1 I2 (lo cl f) := by
  refine wr_entry (hh := [(0, 10, 13, 29), (0, 10, 17, 13)]) (by decide) ⟨_, rfl⟩ rfl (Nat.le_of_ble_eq_true rfl) (fun p e s m below meth c ls S hr hlocks htb hI hl => ?_)
  have hl : lv_has ls 5 [(0, .ref (cw_a (cc_w K) 0)), (1, .int x), (2, .int y), (3, .ref qo)] := hl
  refine lv_aload_n S.1 S.2.1 dL_divideAndChoose_0 rfl (lv_at hl 3 rfl) ?_
  refine lv_iconst (v := 0) S.1 S.2.1 dL_divideAndChoose_1 (by decide) ?_
  refine lv_aload_n S.1 S.2.1 dL_divideAndChoose_2 rfl (lv_at hl 0 rfl) ?_
  refine lv_iload_n S.1 S.2.1 dL_divideAndChoose_3 rfl (lv_at hl 1 rfl) ?_
  refine lv_iload_n S.1 S.2.1 dL_divideAndChoose_4 rfl (lv_at hl 2 rfl) ?_
  refine wl_callT (w := cc_w K) (As := [.int x, .int y]) S hI.2.2.2.1 hC okX10_divideAndChoose rfl (wr_gl gL_divideAndChoose_X10_divideAndChoose) ⟨Nat.le_of_ble_eq_true rfl, Nat.le_of_ble_eq_true rfl⟩ ⟨Nat.le_of_ble_eq_true rfl, Nat.le_of_ble_eq_true rfl⟩ (o := 0) (show 0 < 32 by decide) rfl rfl hl.1 rfl (Nat.le_of_ble_eq_true rfl) dL_divideAndChoose_5 hI.2.1 va_S.rf (fun H1 locs1 q9 ce hP1 hz1 hk1 hS1 hce hcv hcl => ?_)
  have hO1 := wr_out hI hI.2.2.1 hk1
  refine wr_caught (hh := [(0, 10, 13, 29), (0, 10, 17, 13)]) (pre := []) (x := ⟨0, 10, 13, 29⟩) (suf := [⟨0, 10, 17, 13⟩]) S hr rfl hlocks hI htb rfl (fun z hz => nomatch hz) (fun y => absurd rfl y) (by decide) (by decide) lk_divideAndChoose_29 (by decide) hce hcv hcl ?_
  refine lv_astore (lv' := [(4, .ref q9), (0, .ref (cw_a (cc_w K) 0)), (1, .int x), (2, .int y), (3, .ref qo)]) S.1 S.2.1 dL_divideAndChoose_13 hl (by decide) rfl (fun ls hl => ?_)
  exact wr_end S hr rfl hlocks (by omega) (by omega) dL_divideAndChoose_15 (by decide) dL_divideAndChoose_16 hP1 hO1 hS1
theorem wr_divideAndChoose_x2 {cl : ClassId} {f : Nat → Int64} {x : Int32} {y : Int32} (hC : cw_T (cc_w K) mX10_divideAndChoose [.ref (cw_a (cc_w K) 0), .int x, .int y] I "java/lang/IllegalStateException" I2) : wr_C K mL_divideAndChoose [.ref (cw_a (cc_w K) 0), .int x, .int y, .ref qo] I qo (lo cl f) (cl, .long) 2 I2 (lo cl f) := by
  refine wr_entry (hh := [(0, 10, 13, 29), (0, 10, 17, 13)]) (by decide) ⟨_, rfl⟩ rfl (Nat.le_of_ble_eq_true rfl) (fun p e s m below meth c ls S hr hlocks htb hI hl => ?_)
  have hl : lv_has ls 5 [(0, .ref (cw_a (cc_w K) 0)), (1, .int x), (2, .int y), (3, .ref qo)] := hl
  refine lv_aload_n S.1 S.2.1 dL_divideAndChoose_0 rfl (lv_at hl 3 rfl) ?_
  refine lv_iconst (v := 0) S.1 S.2.1 dL_divideAndChoose_1 (by decide) ?_
  refine lv_aload_n S.1 S.2.1 dL_divideAndChoose_2 rfl (lv_at hl 0 rfl) ?_
  refine lv_iload_n S.1 S.2.1 dL_divideAndChoose_3 rfl (lv_at hl 1 rfl) ?_
  refine lv_iload_n S.1 S.2.1 dL_divideAndChoose_4 rfl (lv_at hl 2 rfl) ?_
  refine wl_callT (w := cc_w K) (As := [.int x, .int y]) S hI.2.2.2.1 hC okX10_divideAndChoose rfl (wr_gl gL_divideAndChoose_X10_divideAndChoose) ⟨Nat.le_of_ble_eq_true rfl, Nat.le_of_ble_eq_true rfl⟩ ⟨Nat.le_of_ble_eq_true rfl, Nat.le_of_ble_eq_true rfl⟩ (o := 0) (show 0 < 32 by decide) rfl rfl hl.1 rfl (Nat.le_of_ble_eq_true rfl) dL_divideAndChoose_5 hI.2.1 va_S.rf (fun H1 locs1 q9 ce hP1 hz1 hk1 hS1 hce hcv hcl => ?_)
  have hO1 := wr_out hI hI.2.2.1 hk1
  refine wr_caught (hh := [(0, 10, 13, 29), (0, 10, 17, 13)]) (pre := [⟨0, 10, 13, 29⟩]) (x := ⟨0, 10, 17, 13⟩) (suf := []) S hr rfl hlocks hI htb rfl (fun z hz => by rcases List.mem_singleton.mp hz with rfl; exact ⟨rfl, by decide⟩) (fun _ => lk_divideAndChoose_29) (by decide) (by decide) lk_divideAndChoose_13 (by decide) hce hcv hcl ?_
  refine lv_astore (lv' := [(4, .ref q9), (0, .ref (cw_a (cc_w K) 0)), (1, .int x), (2, .int y), (3, .ref qo)]) S.1 S.2.1 dL_divideAndChoose_17 hl (by decide) rfl (fun ls hl => ?_)
  exact wr_end S hr rfl hlocks (by omega) (by omega) dL_divideAndChoose_19 (by decide) dL_divideAndChoose_20 hP1 hO1 hS1
theorem lk_roundRobin_29 : Cond.classLink RL 29 "java/lang/IndexOutOfBoundsException" ∈ wsL_roundRobin := by decide +kernel
def mL_roundRobin : cw_Me := (yL_roundRobin, wsL_roundRobin, cL_roundRobin, 4, (some .int), 8, 132)
theorem wr_roundRobin_ok {cl : ClassId} {f : Nat → Int64} {x : Int32} {r : Int32} (hC : cw_C (cc_w K) mX10_roundRobin [.ref (cw_a (cc_w K) 0), .int x] I (some (.int r)) I2) : wr_C K mL_roundRobin [.ref (cw_a (cc_w K) 0), .int x, .ref qo] I qo (lo cl f) (cl, .long) 0 I2 (lo cl (vp_updL f 0 (r.toInt64))) := by
  refine wr_entry (hh := [(0, 9, 12, 29)]) (by decide) ⟨_, rfl⟩ rfl (Nat.le_of_ble_eq_true rfl) (fun p e s m below meth c ls S hr hlocks htb hI hl => ?_)
  have hl : lv_has ls 4 [(0, .ref (cw_a (cc_w K) 0)), (1, .int x), (2, .ref qo)] := hl
  refine lv_aload_n S.1 S.2.1 dL_roundRobin_0 rfl (lv_at hl 2 rfl) ?_
  refine lv_iconst (v := 0) S.1 S.2.1 dL_roundRobin_1 (by decide) ?_
  refine lv_aload_n S.1 S.2.1 dL_roundRobin_2 rfl (lv_at hl 0 rfl) ?_
  refine lv_iload_n S.1 S.2.1 dL_roundRobin_3 rfl (lv_at hl 1 rfl) ?_
  refine wl_call (w := cc_w K) (As := [.int x]) S hI.2.2.2.1 hC okX10_roundRobin rfl gL_roundRobin_X10_roundRobin ⟨Nat.le_of_ble_eq_true rfl, Nat.le_of_ble_eq_true rfl⟩ ⟨Nat.le_of_ble_eq_true rfl, Nat.le_of_ble_eq_true rfl⟩ (o := 0) (show 0 < 32 by decide) rfl rfl hl.1 rfl (Nat.le_of_ble_eq_true rfl) dL_roundRobin_4 hI.2.1 va_S.rf (fun H1 locs1 hP1 hz1 hk1 hS1 => ?_)
  have hO1 := wr_out hI hI.2.2.1 hk1
  refine lv_i2l (v := r.toInt64) S.1 S.2.1 dL_roundRobin_7 rfl ?_
  refine wl_last S.1 S.2.1 hI.2.2.2.2.1 hO1 hS1 (wr_free hI) (t0 := 0) rfl (vp_in_nI (n := 0) (N := 1) (by omega) (by omega)) dL_roundRobin_8 (fun H2 locs2 hO2 hz2 hk2 hS2 => ?_)
  refine lv_goto (tgt := 15) S.1 S.2.1 dL_roundRobin_9 (by decide) ?_
  exact wr_end S hr rfl hlocks (by omega) (by omega) dL_roundRobin_15 (by decide) dL_roundRobin_16 (wr_in hI hP1 hk2) hO2 hS2
theorem wr_roundRobin_x1 {cl : ClassId} {f : Nat → Int64} {x : Int32} (hC : cw_T (cc_w K) mX10_roundRobin [.ref (cw_a (cc_w K) 0), .int x] I "java/lang/IndexOutOfBoundsException" I2) : wr_C K mL_roundRobin [.ref (cw_a (cc_w K) 0), .int x, .ref qo] I qo (lo cl f) (cl, .long) 1 I2 (lo cl f) := by
  refine wr_entry (hh := [(0, 9, 12, 29)]) (by decide) ⟨_, rfl⟩ rfl (Nat.le_of_ble_eq_true rfl) (fun p e s m below meth c ls S hr hlocks htb hI hl => ?_)
  have hl : lv_has ls 4 [(0, .ref (cw_a (cc_w K) 0)), (1, .int x), (2, .ref qo)] := hl
  refine lv_aload_n S.1 S.2.1 dL_roundRobin_0 rfl (lv_at hl 2 rfl) ?_
  refine lv_iconst (v := 0) S.1 S.2.1 dL_roundRobin_1 (by decide) ?_
  refine lv_aload_n S.1 S.2.1 dL_roundRobin_2 rfl (lv_at hl 0 rfl) ?_
  refine lv_iload_n S.1 S.2.1 dL_roundRobin_3 rfl (lv_at hl 1 rfl) ?_
  refine wl_callT (w := cc_w K) (As := [.int x]) S hI.2.2.2.1 hC okX10_roundRobin rfl gL_roundRobin_X10_roundRobin ⟨Nat.le_of_ble_eq_true rfl, Nat.le_of_ble_eq_true rfl⟩ ⟨Nat.le_of_ble_eq_true rfl, Nat.le_of_ble_eq_true rfl⟩ (o := 0) (show 0 < 32 by decide) rfl rfl hl.1 rfl (Nat.le_of_ble_eq_true rfl) dL_roundRobin_4 hI.2.1 va_S.rf (fun H1 locs1 q9 ce hP1 hz1 hk1 hS1 hce hcv hcl => ?_)
  have hO1 := wr_out hI hI.2.2.1 hk1
  refine wr_caught (hh := [(0, 9, 12, 29)]) (pre := []) (x := ⟨0, 9, 12, 29⟩) (suf := []) S hr rfl hlocks hI htb rfl (fun z hz => nomatch hz) (fun y => absurd rfl y) (by decide) (by decide) lk_roundRobin_29 (by decide) hce hcv hcl ?_
  refine lv_astore_n (lv' := [(3, .ref q9), (0, .ref (cw_a (cc_w K) 0)), (1, .int x), (2, .ref qo)]) S.1 S.2.1 dL_roundRobin_12 rfl hl (by decide) rfl (fun ls hl => ?_)
  exact wr_end S hr rfl hlocks (by omega) (by omega) dL_roundRobin_13 (by decide) dL_roundRobin_14 hP1 hO1 hS1
theorem lk_rotate_29 : Cond.classLink RL 29 "java/lang/IndexOutOfBoundsException" ∈ wsL_rotate ++ [Cond.classLink RL 13 "java/lang/IllegalStateException"] := by decide +kernel
theorem lk_rotate_13 : Cond.classLink RL 13 "java/lang/IllegalStateException" ∈ wsL_rotate ++ [Cond.classLink RL 13 "java/lang/IllegalStateException"] := by decide +kernel
def mL_rotate : cw_Me := (yL_rotate, wsL_rotate ++ [Cond.classLink RL 13 "java/lang/IllegalStateException"], cL_rotate, 4, (some .int), 8, 132)
theorem wr_rotate_ok {cl : ClassId} {f : Nat → Int64} {x : Int32} {r : Int32} (hC : cw_C (cc_w K) mX10_rotate [.ref (cw_a (cc_w K) 0), .int x] I (some (.int r)) I2) : wr_C K mL_rotate [.ref (cw_a (cc_w K) 0), .int x, .ref qo] I qo (lo cl f) (cl, .long) 0 I2 (lo cl (vp_updL f 0 (r.toInt64))) := by
  refine wr_entry (hh := [(0, 9, 12, 29), (0, 9, 15, 13)]) (by decide) ⟨_, rfl⟩ rfl (Nat.le_of_ble_eq_true rfl) (fun p e s m below meth c ls S hr hlocks htb hI hl => ?_)
  have hl : lv_has ls 4 [(0, .ref (cw_a (cc_w K) 0)), (1, .int x), (2, .ref qo)] := hl
  refine lv_aload_n S.1 S.2.1 dL_rotate_0 rfl (lv_at hl 2 rfl) ?_
  refine lv_iconst (v := 0) S.1 S.2.1 dL_rotate_1 (by decide) ?_
  refine lv_aload_n S.1 S.2.1 dL_rotate_2 rfl (lv_at hl 0 rfl) ?_
  refine lv_iload_n S.1 S.2.1 dL_rotate_3 rfl (lv_at hl 1 rfl) ?_
  refine wl_call (w := cc_w K) (As := [.int x]) S hI.2.2.2.1 hC okX10_rotate rfl (wr_gl gL_rotate_X10_rotate) ⟨Nat.le_of_ble_eq_true rfl, Nat.le_of_ble_eq_true rfl⟩ ⟨Nat.le_of_ble_eq_true rfl, Nat.le_of_ble_eq_true rfl⟩ (o := 0) (show 0 < 32 by decide) rfl rfl hl.1 rfl (Nat.le_of_ble_eq_true rfl) dL_rotate_4 hI.2.1 va_S.rf (fun H1 locs1 hP1 hz1 hk1 hS1 => ?_)
  have hO1 := wr_out hI hI.2.2.1 hk1
  refine lv_i2l (v := r.toInt64) S.1 S.2.1 dL_rotate_7 rfl ?_
  refine wl_last S.1 S.2.1 hI.2.2.2.2.1 hO1 hS1 (wr_free hI) (t0 := 0) rfl (vp_in_nI (n := 0) (N := 1) (by omega) (by omega)) dL_rotate_8 (fun H2 locs2 hO2 hz2 hk2 hS2 => ?_)
  refine lv_goto (tgt := 18) S.1 S.2.1 dL_rotate_9 (by decide) ?_
  exact wr_end S hr rfl hlocks (by omega) (by omega) dL_rotate_18 (by decide) dL_rotate_19 (wr_in hI hP1 hk2) hO2 hS2
theorem wr_rotate_x1 {cl : ClassId} {f : Nat → Int64} {x : Int32} (hC : cw_T (cc_w K) mX10_rotate [.ref (cw_a (cc_w K) 0), .int x] I "java/lang/IndexOutOfBoundsException" I2) : wr_C K mL_rotate [.ref (cw_a (cc_w K) 0), .int x, .ref qo] I qo (lo cl f) (cl, .long) 1 I2 (lo cl f) := by
  refine wr_entry (hh := [(0, 9, 12, 29), (0, 9, 15, 13)]) (by decide) ⟨_, rfl⟩ rfl (Nat.le_of_ble_eq_true rfl) (fun p e s m below meth c ls S hr hlocks htb hI hl => ?_)
  have hl : lv_has ls 4 [(0, .ref (cw_a (cc_w K) 0)), (1, .int x), (2, .ref qo)] := hl
  refine lv_aload_n S.1 S.2.1 dL_rotate_0 rfl (lv_at hl 2 rfl) ?_
  refine lv_iconst (v := 0) S.1 S.2.1 dL_rotate_1 (by decide) ?_
  refine lv_aload_n S.1 S.2.1 dL_rotate_2 rfl (lv_at hl 0 rfl) ?_
  refine lv_iload_n S.1 S.2.1 dL_rotate_3 rfl (lv_at hl 1 rfl) ?_
  refine wl_callT (w := cc_w K) (As := [.int x]) S hI.2.2.2.1 hC okX10_rotate rfl (wr_gl gL_rotate_X10_rotate) ⟨Nat.le_of_ble_eq_true rfl, Nat.le_of_ble_eq_true rfl⟩ ⟨Nat.le_of_ble_eq_true rfl, Nat.le_of_ble_eq_true rfl⟩ (o := 0) (show 0 < 32 by decide) rfl rfl hl.1 rfl (Nat.le_of_ble_eq_true rfl) dL_rotate_4 hI.2.1 va_S.rf (fun H1 locs1 q9 ce hP1 hz1 hk1 hS1 hce hcv hcl => ?_)
  have hO1 := wr_out hI hI.2.2.1 hk1
  refine wr_caught (hh := [(0, 9, 12, 29), (0, 9, 15, 13)]) (pre := []) (x := ⟨0, 9, 12, 29⟩) (suf := [⟨0, 9, 15, 13⟩]) S hr rfl hlocks hI htb rfl (fun z hz => nomatch hz) (fun y => absurd rfl y) (by decide) (by decide) lk_rotate_29 (by decide) hce hcv hcl ?_
  refine lv_astore_n (lv' := [(3, .ref q9), (0, .ref (cw_a (cc_w K) 0)), (1, .int x), (2, .ref qo)]) S.1 S.2.1 dL_rotate_12 rfl hl (by decide) rfl (fun ls hl => ?_)
  exact wr_end S hr rfl hlocks (by omega) (by omega) dL_rotate_13 (by decide) dL_rotate_14 hP1 hO1 hS1
theorem wr_rotate_x2 {cl : ClassId} {f : Nat → Int64} {x : Int32} (hC : cw_T (cc_w K) mX10_rotate [.ref (cw_a (cc_w K) 0), .int x] I "java/lang/IllegalStateException" I2) : wr_C K mL_rotate [.ref (cw_a (cc_w K) 0), .int x, .ref qo] I qo (lo cl f) (cl, .long) 2 I2 (lo cl f) := by
  refine wr_entry (hh := [(0, 9, 12, 29), (0, 9, 15, 13)]) (by decide) ⟨_, rfl⟩ rfl (Nat.le_of_ble_eq_true rfl) (fun p e s m below meth c ls S hr hlocks htb hI hl => ?_)
  have hl : lv_has ls 4 [(0, .ref (cw_a (cc_w K) 0)), (1, .int x), (2, .ref qo)] := hl
  refine lv_aload_n S.1 S.2.1 dL_rotate_0 rfl (lv_at hl 2 rfl) ?_
  refine lv_iconst (v := 0) S.1 S.2.1 dL_rotate_1 (by decide) ?_
  refine lv_aload_n S.1 S.2.1 dL_rotate_2 rfl (lv_at hl 0 rfl) ?_
  refine lv_iload_n S.1 S.2.1 dL_rotate_3 rfl (lv_at hl 1 rfl) ?_
  refine wl_callT (w := cc_w K) (As := [.int x]) S hI.2.2.2.1 hC okX10_rotate rfl (wr_gl gL_rotate_X10_rotate) ⟨Nat.le_of_ble_eq_true rfl, Nat.le_of_ble_eq_true rfl⟩ ⟨Nat.le_of_ble_eq_true rfl, Nat.le_of_ble_eq_true rfl⟩ (o := 0) (show 0 < 32 by decide) rfl rfl hl.1 rfl (Nat.le_of_ble_eq_true rfl) dL_rotate_4 hI.2.1 va_S.rf (fun H1 locs1 q9 ce hP1 hz1 hk1 hS1 hce hcv hcl => ?_)
  have hO1 := wr_out hI hI.2.2.1 hk1
  refine wr_caught (hh := [(0, 9, 12, 29), (0, 9, 15, 13)]) (pre := [⟨0, 9, 12, 29⟩]) (x := ⟨0, 9, 15, 13⟩) (suf := []) S hr rfl hlocks hI htb rfl (fun z hz => by rcases List.mem_singleton.mp hz with rfl; exact ⟨rfl, by decide⟩) (fun _ => lk_rotate_29) (by decide) (by decide) lk_rotate_13 (by decide) hce hcv hcl ?_
  refine lv_astore_n (lv' := [(3, .ref q9), (0, .ref (cw_a (cc_w K) 0)), (1, .int x), (2, .ref qo)]) S.1 S.2.1 dL_rotate_15 rfl hl (by decide) rfl (fun ls hl => ?_)
  exact wr_end S hr rfl hlocks (by omega) (by omega) dL_rotate_16 (by decide) dL_rotate_17 hP1 hO1 hS1
theorem lk_runScript_19 : Cond.classLink RL 19 "java/lang/IllegalArgumentException" ∈ wsL_runScript.map nse_fix := by decide +kernel
def mL_runScript : cw_Me := (yL_runScript, wsL_runScript.map nse_fix, cL_runScript, 3, (some .int), 10, 218)
theorem wr_runScript_ok {cl : ClassId} {f : Nat → Int64} {r : Int32} (hC : cw_C (cc_w K) mX10_runScript [.ref (cw_a (cc_w K) 0)] I (some (.int r)) I2) : wr_C K mL_runScript [.ref (cw_a (cc_w K) 0), .ref qo] I qo (lo cl f) (cl, .long) 0 I2 (lo cl (vp_updL f 0 (r.toInt64))) := by
  refine wr_entry (hh := [(0, 8, 11, 19)]) (by decide) (nse_head (by decide +kernel)) rfl (Nat.le_of_ble_eq_true rfl) (fun p e s m below meth c ls S hr hlocks htb hI hl => ?_)
  have hl : lv_has ls 3 [(0, .ref (cw_a (cc_w K) 0)), (1, .ref qo)] := hl
  refine lv_aload_n S.1 S.2.1 dL_runScript_0 rfl (lv_at hl 1 rfl) ?_
  refine lv_iconst (v := 0) S.1 S.2.1 dL_runScript_1 (by decide) ?_
  refine lv_aload_n S.1 S.2.1 dL_runScript_2 rfl (lv_at hl 0 rfl) ?_
  refine wl_call (w := cc_w K) (As := []) S hI.2.2.2.1 hC okX10_runScript rfl (nse_gv gL_runScript_X10_runScript (by decide +kernel)) ⟨Nat.le_of_ble_eq_true rfl, Nat.le_of_ble_eq_true rfl⟩ ⟨Nat.le_of_ble_eq_true rfl, Nat.le_of_ble_eq_true rfl⟩ (o := 0) (show 0 < 32 by decide) rfl rfl hl.1 rfl (Nat.le_of_ble_eq_true rfl) dL_runScript_3 hI.2.1 va_S.rf (fun H1 locs1 hP1 hz1 hk1 hS1 => ?_)
  have hO1 := wr_out hI hI.2.2.1 hk1
  refine lv_i2l (v := r.toInt64) S.1 S.2.1 dL_runScript_6 rfl ?_
  refine wl_last S.1 S.2.1 hI.2.2.2.2.1 hO1 hS1 (wr_free hI) (t0 := 0) rfl (vp_in_nI (n := 0) (N := 1) (by omega) (by omega)) dL_runScript_7 (fun H2 locs2 hO2 hz2 hk2 hS2 => ?_)
  refine lv_goto (tgt := 14) S.1 S.2.1 dL_runScript_8 (by decide) ?_
  exact wr_end S hr rfl hlocks (by omega) (by omega) dL_runScript_14 (by decide) dL_runScript_15 (wr_in hI hP1 hk2) hO2 hS2
theorem wr_runScript_x1 {cl : ClassId} {f : Nat → Int64} (hC : cw_T (cc_w K) mX10_runScript [.ref (cw_a (cc_w K) 0)] I "java/lang/IllegalArgumentException" I2) : wr_C K mL_runScript [.ref (cw_a (cc_w K) 0), .ref qo] I qo (lo cl f) (cl, .long) 1 I2 (lo cl f) := by
  refine wr_entry (hh := [(0, 8, 11, 19)]) (by decide) (nse_head (by decide +kernel)) rfl (Nat.le_of_ble_eq_true rfl) (fun p e s m below meth c ls S hr hlocks htb hI hl => ?_)
  have hl : lv_has ls 3 [(0, .ref (cw_a (cc_w K) 0)), (1, .ref qo)] := hl
  refine lv_aload_n S.1 S.2.1 dL_runScript_0 rfl (lv_at hl 1 rfl) ?_
  refine lv_iconst (v := 0) S.1 S.2.1 dL_runScript_1 (by decide) ?_
  refine lv_aload_n S.1 S.2.1 dL_runScript_2 rfl (lv_at hl 0 rfl) ?_
  refine wl_callT (w := cc_w K) (As := []) S hI.2.2.2.1 hC okX10_runScript rfl (nse_gv gL_runScript_X10_runScript (by decide +kernel)) ⟨Nat.le_of_ble_eq_true rfl, Nat.le_of_ble_eq_true rfl⟩ ⟨Nat.le_of_ble_eq_true rfl, Nat.le_of_ble_eq_true rfl⟩ (o := 0) (show 0 < 32 by decide) rfl rfl hl.1 rfl (Nat.le_of_ble_eq_true rfl) dL_runScript_3 hI.2.1 va_S.rf (fun H1 locs1 q9 ce hP1 hz1 hk1 hS1 hce hcv hcl => ?_)
  have hO1 := wr_out hI hI.2.2.1 hk1
  refine wr_caught (hh := [(0, 8, 11, 19)]) (pre := []) (x := ⟨0, 8, 11, 19⟩) (suf := []) S hr rfl hlocks hI htb rfl (fun z hz => nomatch hz) (fun y => absurd rfl y) (by decide) (by decide) lk_runScript_19 (by decide) hce hcv hcl ?_
  refine lv_astore_n (lv' := [(2, .ref q9), (0, .ref (cw_a (cc_w K) 0)), (1, .ref qo)]) S.1 S.2.1 dL_runScript_11 rfl hl (by decide) rfl (fun ls hl => ?_)
  exact wr_end S hr rfl hlocks (by omega) (by omega) dL_runScript_12 (by decide) dL_runScript_13 hP1 hO1 hS1
theorem lk_undo_13 : Cond.classLink RL 13 "java/lang/IllegalStateException" ∈ wsL_undo := by decide +kernel
def mL_undo : cw_Me := (yL_undo, wsL_undo, cL_undo, 3, (some .int), 7, 110)
theorem wr_undo_ok {cl : ClassId} {f : Nat → Int64} {r : Int32} (hC : cw_C (cc_w K) mX10_undo [.ref (cw_a (cc_w K) 0)] I (some (.int r)) I2) : wr_C K mL_undo [.ref (cw_a (cc_w K) 0), .ref qo] I qo (lo cl f) (cl, .long) 0 I2 (lo cl (vp_updL f 0 (r.toInt64))) := by
  refine wr_entry (hh := [(0, 8, 11, 13)]) (by decide) ⟨_, rfl⟩ rfl (Nat.le_of_ble_eq_true rfl) (fun p e s m below meth c ls S hr hlocks htb hI hl => ?_)
  have hl : lv_has ls 3 [(0, .ref (cw_a (cc_w K) 0)), (1, .ref qo)] := hl
  refine lv_aload_n S.1 S.2.1 dL_undo_0 rfl (lv_at hl 1 rfl) ?_
  refine lv_iconst (v := 0) S.1 S.2.1 dL_undo_1 (by decide) ?_
  refine lv_aload_n S.1 S.2.1 dL_undo_2 rfl (lv_at hl 0 rfl) ?_
  refine wl_call (w := cc_w K) (As := []) S hI.2.2.2.1 hC okX10_undo rfl gL_undo_X10_undo ⟨Nat.le_of_ble_eq_true rfl, Nat.le_of_ble_eq_true rfl⟩ ⟨Nat.le_of_ble_eq_true rfl, Nat.le_of_ble_eq_true rfl⟩ (o := 0) (show 0 < 32 by decide) rfl rfl hl.1 rfl (Nat.le_of_ble_eq_true rfl) dL_undo_3 hI.2.1 va_S.rf (fun H1 locs1 hP1 hz1 hk1 hS1 => ?_)
  have hO1 := wr_out hI hI.2.2.1 hk1
  refine lv_i2l (v := r.toInt64) S.1 S.2.1 dL_undo_6 rfl ?_
  refine wl_last S.1 S.2.1 hI.2.2.2.2.1 hO1 hS1 (wr_free hI) (t0 := 0) rfl (vp_in_nI (n := 0) (N := 1) (by omega) (by omega)) dL_undo_7 (fun H2 locs2 hO2 hz2 hk2 hS2 => ?_)
  refine lv_goto (tgt := 14) S.1 S.2.1 dL_undo_8 (by decide) ?_
  exact wr_end S hr rfl hlocks (by omega) (by omega) dL_undo_14 (by decide) dL_undo_15 (wr_in hI hP1 hk2) hO2 hS2
theorem wr_undo_x1 {cl : ClassId} {f : Nat → Int64} (hC : cw_T (cc_w K) mX10_undo [.ref (cw_a (cc_w K) 0)] I "java/lang/IllegalStateException" I2) : wr_C K mL_undo [.ref (cw_a (cc_w K) 0), .ref qo] I qo (lo cl f) (cl, .long) 1 I2 (lo cl f) := by
  refine wr_entry (hh := [(0, 8, 11, 13)]) (by decide) ⟨_, rfl⟩ rfl (Nat.le_of_ble_eq_true rfl) (fun p e s m below meth c ls S hr hlocks htb hI hl => ?_)
  have hl : lv_has ls 3 [(0, .ref (cw_a (cc_w K) 0)), (1, .ref qo)] := hl
  refine lv_aload_n S.1 S.2.1 dL_undo_0 rfl (lv_at hl 1 rfl) ?_
  refine lv_iconst (v := 0) S.1 S.2.1 dL_undo_1 (by decide) ?_
  refine lv_aload_n S.1 S.2.1 dL_undo_2 rfl (lv_at hl 0 rfl) ?_
  refine wl_callT (w := cc_w K) (As := []) S hI.2.2.2.1 hC okX10_undo rfl gL_undo_X10_undo ⟨Nat.le_of_ble_eq_true rfl, Nat.le_of_ble_eq_true rfl⟩ ⟨Nat.le_of_ble_eq_true rfl, Nat.le_of_ble_eq_true rfl⟩ (o := 0) (show 0 < 32 by decide) rfl rfl hl.1 rfl (Nat.le_of_ble_eq_true rfl) dL_undo_3 hI.2.1 va_S.rf (fun H1 locs1 q9 ce hP1 hz1 hk1 hS1 hce hcv hcl => ?_)
  have hO1 := wr_out hI hI.2.2.1 hk1
  refine wr_caught (hh := [(0, 8, 11, 13)]) (pre := []) (x := ⟨0, 8, 11, 13⟩) (suf := []) S hr rfl hlocks hI htb rfl (fun z hz => nomatch hz) (fun y => absurd rfl y) (by decide) (by decide) lk_undo_13 (by decide) hce hcv hcl ?_
  refine lv_astore_n (lv' := [(2, .ref q9), (0, .ref (cw_a (cc_w K) 0)), (1, .ref qo)]) S.1 S.2.1 dL_undo_11 rfl hl (by decide) rfl (fun ls hl => ?_)
  exact wr_end S hr rfl hlocks (by omega) (by omega) dL_undo_12 (by decide) dL_undo_13 hP1 hO1 hS1
theorem lk_save_29 : Cond.classLink RL 29 "java/lang/IndexOutOfBoundsException" ∈ wsL_save := by decide +kernel
def mL_save : cw_Me := (yL_save, wsL_save, cL_save, 4, (some .int), 8, 132)
theorem wr_save_ok {cl : ClassId} {f : Nat → Int64} {x : Int32} {r : Int32} (hC : cw_C (cc_w K) mX10_save [.ref (cw_a (cc_w K) 0), .int x] I (some (.int r)) I2) : wr_C K mL_save [.ref (cw_a (cc_w K) 0), .int x, .ref qo] I qo (lo cl f) (cl, .long) 0 I2 (lo cl (vp_updL f 0 (r.toInt64))) := by
  refine wr_entry (hh := [(0, 9, 12, 29)]) (by decide) ⟨_, rfl⟩ rfl (Nat.le_of_ble_eq_true rfl) (fun p e s m below meth c ls S hr hlocks htb hI hl => ?_)
  have hl : lv_has ls 4 [(0, .ref (cw_a (cc_w K) 0)), (1, .int x), (2, .ref qo)] := hl
  refine lv_aload_n S.1 S.2.1 dL_save_0 rfl (lv_at hl 2 rfl) ?_
  refine lv_iconst (v := 0) S.1 S.2.1 dL_save_1 (by decide) ?_
  refine lv_aload_n S.1 S.2.1 dL_save_2 rfl (lv_at hl 0 rfl) ?_
  refine lv_iload_n S.1 S.2.1 dL_save_3 rfl (lv_at hl 1 rfl) ?_
  refine wl_call (w := cc_w K) (As := [.int x]) S hI.2.2.2.1 hC okX10_save rfl gL_save_X10_save ⟨Nat.le_of_ble_eq_true rfl, Nat.le_of_ble_eq_true rfl⟩ ⟨Nat.le_of_ble_eq_true rfl, Nat.le_of_ble_eq_true rfl⟩ (o := 0) (show 0 < 32 by decide) rfl rfl hl.1 rfl (Nat.le_of_ble_eq_true rfl) dL_save_4 hI.2.1 va_S.rf (fun H1 locs1 hP1 hz1 hk1 hS1 => ?_)
  have hO1 := wr_out hI hI.2.2.1 hk1
  refine lv_i2l (v := r.toInt64) S.1 S.2.1 dL_save_7 rfl ?_
  refine wl_last S.1 S.2.1 hI.2.2.2.2.1 hO1 hS1 (wr_free hI) (t0 := 0) rfl (vp_in_nI (n := 0) (N := 1) (by omega) (by omega)) dL_save_8 (fun H2 locs2 hO2 hz2 hk2 hS2 => ?_)
  refine lv_goto (tgt := 15) S.1 S.2.1 dL_save_9 (by decide) ?_
  exact wr_end S hr rfl hlocks (by omega) (by omega) dL_save_15 (by decide) dL_save_16 (wr_in hI hP1 hk2) hO2 hS2
theorem wr_save_x1 {cl : ClassId} {f : Nat → Int64} {x : Int32} (hC : cw_T (cc_w K) mX10_save [.ref (cw_a (cc_w K) 0), .int x] I "java/lang/IndexOutOfBoundsException" I2) : wr_C K mL_save [.ref (cw_a (cc_w K) 0), .int x, .ref qo] I qo (lo cl f) (cl, .long) 1 I2 (lo cl f) := by
  refine wr_entry (hh := [(0, 9, 12, 29)]) (by decide) ⟨_, rfl⟩ rfl (Nat.le_of_ble_eq_true rfl) (fun p e s m below meth c ls S hr hlocks htb hI hl => ?_)
  have hl : lv_has ls 4 [(0, .ref (cw_a (cc_w K) 0)), (1, .int x), (2, .ref qo)] := hl
  refine lv_aload_n S.1 S.2.1 dL_save_0 rfl (lv_at hl 2 rfl) ?_
  refine lv_iconst (v := 0) S.1 S.2.1 dL_save_1 (by decide) ?_
  refine lv_aload_n S.1 S.2.1 dL_save_2 rfl (lv_at hl 0 rfl) ?_
  refine lv_iload_n S.1 S.2.1 dL_save_3 rfl (lv_at hl 1 rfl) ?_
  refine wl_callT (w := cc_w K) (As := [.int x]) S hI.2.2.2.1 hC okX10_save rfl gL_save_X10_save ⟨Nat.le_of_ble_eq_true rfl, Nat.le_of_ble_eq_true rfl⟩ ⟨Nat.le_of_ble_eq_true rfl, Nat.le_of_ble_eq_true rfl⟩ (o := 0) (show 0 < 32 by decide) rfl rfl hl.1 rfl (Nat.le_of_ble_eq_true rfl) dL_save_4 hI.2.1 va_S.rf (fun H1 locs1 q9 ce hP1 hz1 hk1 hS1 hce hcv hcl => ?_)
  have hO1 := wr_out hI hI.2.2.1 hk1
  refine wr_caught (hh := [(0, 9, 12, 29)]) (pre := []) (x := ⟨0, 9, 12, 29⟩) (suf := []) S hr rfl hlocks hI htb rfl (fun z hz => nomatch hz) (fun y => absurd rfl y) (by decide) (by decide) lk_save_29 (by decide) hce hcv hcl ?_
  refine lv_astore_n (lv' := [(3, .ref q9), (0, .ref (cw_a (cc_w K) 0)), (1, .int x), (2, .ref qo)]) S.1 S.2.1 dL_save_12 rfl hl (by decide) rfl (fun ls hl => ?_)
  exact wr_end S hr rfl hlocks (by omega) (by omega) dL_save_13 (by decide) dL_save_14 hP1 hO1 hS1
theorem lk_restore_29 : Cond.classLink RL 29 "java/lang/IndexOutOfBoundsException" ∈ wsL_restore ++ [Cond.classLink RL 13 "java/lang/IllegalStateException"] := by decide +kernel
theorem lk_restore_13 : Cond.classLink RL 13 "java/lang/IllegalStateException" ∈ wsL_restore ++ [Cond.classLink RL 13 "java/lang/IllegalStateException"] := by decide +kernel
def mL_restore : cw_Me := (yL_restore, wsL_restore ++ [Cond.classLink RL 13 "java/lang/IllegalStateException"], cL_restore, 4, (some .int), 8, 132)
theorem wr_restore_ok {cl : ClassId} {f : Nat → Int64} {x : Int32} {r : Int32} (hC : cw_C (cc_w K) mX10_restore [.ref (cw_a (cc_w K) 0), .int x] I (some (.int r)) I2) : wr_C K mL_restore [.ref (cw_a (cc_w K) 0), .int x, .ref qo] I qo (lo cl f) (cl, .long) 0 I2 (lo cl (vp_updL f 0 (r.toInt64))) := by
  refine wr_entry (hh := [(0, 9, 12, 29), (0, 9, 15, 13)]) (by decide) ⟨_, rfl⟩ rfl (Nat.le_of_ble_eq_true rfl) (fun p e s m below meth c ls S hr hlocks htb hI hl => ?_)
  have hl : lv_has ls 4 [(0, .ref (cw_a (cc_w K) 0)), (1, .int x), (2, .ref qo)] := hl
  refine lv_aload_n S.1 S.2.1 dL_restore_0 rfl (lv_at hl 2 rfl) ?_
  refine lv_iconst (v := 0) S.1 S.2.1 dL_restore_1 (by decide) ?_
  refine lv_aload_n S.1 S.2.1 dL_restore_2 rfl (lv_at hl 0 rfl) ?_
  refine lv_iload_n S.1 S.2.1 dL_restore_3 rfl (lv_at hl 1 rfl) ?_
  refine wl_call (w := cc_w K) (As := [.int x]) S hI.2.2.2.1 hC okX10_restore rfl (wr_gl gL_restore_X10_restore) ⟨Nat.le_of_ble_eq_true rfl, Nat.le_of_ble_eq_true rfl⟩ ⟨Nat.le_of_ble_eq_true rfl, Nat.le_of_ble_eq_true rfl⟩ (o := 0) (show 0 < 32 by decide) rfl rfl hl.1 rfl (Nat.le_of_ble_eq_true rfl) dL_restore_4 hI.2.1 va_S.rf (fun H1 locs1 hP1 hz1 hk1 hS1 => ?_)
  have hO1 := wr_out hI hI.2.2.1 hk1
  refine lv_i2l (v := r.toInt64) S.1 S.2.1 dL_restore_7 rfl ?_
  refine wl_last S.1 S.2.1 hI.2.2.2.2.1 hO1 hS1 (wr_free hI) (t0 := 0) rfl (vp_in_nI (n := 0) (N := 1) (by omega) (by omega)) dL_restore_8 (fun H2 locs2 hO2 hz2 hk2 hS2 => ?_)
  refine lv_goto (tgt := 18) S.1 S.2.1 dL_restore_9 (by decide) ?_
  exact wr_end S hr rfl hlocks (by omega) (by omega) dL_restore_18 (by decide) dL_restore_19 (wr_in hI hP1 hk2) hO2 hS2
theorem wr_restore_x1 {cl : ClassId} {f : Nat → Int64} {x : Int32} (hC : cw_T (cc_w K) mX10_restore [.ref (cw_a (cc_w K) 0), .int x] I "java/lang/IndexOutOfBoundsException" I2) : wr_C K mL_restore [.ref (cw_a (cc_w K) 0), .int x, .ref qo] I qo (lo cl f) (cl, .long) 1 I2 (lo cl f) := by
  refine wr_entry (hh := [(0, 9, 12, 29), (0, 9, 15, 13)]) (by decide) ⟨_, rfl⟩ rfl (Nat.le_of_ble_eq_true rfl) (fun p e s m below meth c ls S hr hlocks htb hI hl => ?_)
  have hl : lv_has ls 4 [(0, .ref (cw_a (cc_w K) 0)), (1, .int x), (2, .ref qo)] := hl
  refine lv_aload_n S.1 S.2.1 dL_restore_0 rfl (lv_at hl 2 rfl) ?_
  refine lv_iconst (v := 0) S.1 S.2.1 dL_restore_1 (by decide) ?_
  refine lv_aload_n S.1 S.2.1 dL_restore_2 rfl (lv_at hl 0 rfl) ?_
  refine lv_iload_n S.1 S.2.1 dL_restore_3 rfl (lv_at hl 1 rfl) ?_
  refine wl_callT (w := cc_w K) (As := [.int x]) S hI.2.2.2.1 hC okX10_restore rfl (wr_gl gL_restore_X10_restore) ⟨Nat.le_of_ble_eq_true rfl, Nat.le_of_ble_eq_true rfl⟩ ⟨Nat.le_of_ble_eq_true rfl, Nat.le_of_ble_eq_true rfl⟩ (o := 0) (show 0 < 32 by decide) rfl rfl hl.1 rfl (Nat.le_of_ble_eq_true rfl) dL_restore_4 hI.2.1 va_S.rf (fun H1 locs1 q9 ce hP1 hz1 hk1 hS1 hce hcv hcl => ?_)
  have hO1 := wr_out hI hI.2.2.1 hk1
  refine wr_caught (hh := [(0, 9, 12, 29), (0, 9, 15, 13)]) (pre := []) (x := ⟨0, 9, 12, 29⟩) (suf := [⟨0, 9, 15, 13⟩]) S hr rfl hlocks hI htb rfl (fun z hz => nomatch hz) (fun y => absurd rfl y) (by decide) (by decide) lk_restore_29 (by decide) hce hcv hcl ?_
  refine lv_astore_n (lv' := [(3, .ref q9), (0, .ref (cw_a (cc_w K) 0)), (1, .int x), (2, .ref qo)]) S.1 S.2.1 dL_restore_12 rfl hl (by decide) rfl (fun ls hl => ?_)
  exact wr_end S hr rfl hlocks (by omega) (by omega) dL_restore_13 (by decide) dL_restore_14 hP1 hO1 hS1
theorem wr_restore_x2 {cl : ClassId} {f : Nat → Int64} {x : Int32} (hC : cw_T (cc_w K) mX10_restore [.ref (cw_a (cc_w K) 0), .int x] I "java/lang/IllegalStateException" I2) : wr_C K mL_restore [.ref (cw_a (cc_w K) 0), .int x, .ref qo] I qo (lo cl f) (cl, .long) 2 I2 (lo cl f) := by
  refine wr_entry (hh := [(0, 9, 12, 29), (0, 9, 15, 13)]) (by decide) ⟨_, rfl⟩ rfl (Nat.le_of_ble_eq_true rfl) (fun p e s m below meth c ls S hr hlocks htb hI hl => ?_)
  have hl : lv_has ls 4 [(0, .ref (cw_a (cc_w K) 0)), (1, .int x), (2, .ref qo)] := hl
  refine lv_aload_n S.1 S.2.1 dL_restore_0 rfl (lv_at hl 2 rfl) ?_
  refine lv_iconst (v := 0) S.1 S.2.1 dL_restore_1 (by decide) ?_
  refine lv_aload_n S.1 S.2.1 dL_restore_2 rfl (lv_at hl 0 rfl) ?_
  refine lv_iload_n S.1 S.2.1 dL_restore_3 rfl (lv_at hl 1 rfl) ?_
  refine wl_callT (w := cc_w K) (As := [.int x]) S hI.2.2.2.1 hC okX10_restore rfl (wr_gl gL_restore_X10_restore) ⟨Nat.le_of_ble_eq_true rfl, Nat.le_of_ble_eq_true rfl⟩ ⟨Nat.le_of_ble_eq_true rfl, Nat.le_of_ble_eq_true rfl⟩ (o := 0) (show 0 < 32 by decide) rfl rfl hl.1 rfl (Nat.le_of_ble_eq_true rfl) dL_restore_4 hI.2.1 va_S.rf (fun H1 locs1 q9 ce hP1 hz1 hk1 hS1 hce hcv hcl => ?_)
  have hO1 := wr_out hI hI.2.2.1 hk1
  refine wr_caught (hh := [(0, 9, 12, 29), (0, 9, 15, 13)]) (pre := [⟨0, 9, 12, 29⟩]) (x := ⟨0, 9, 15, 13⟩) (suf := []) S hr rfl hlocks hI htb rfl (fun z hz => by rcases List.mem_singleton.mp hz with rfl; exact ⟨rfl, by decide⟩) (fun _ => lk_restore_29) (by decide) (by decide) lk_restore_13 (by decide) hce hcv hcl ?_
  refine lv_astore_n (lv' := [(3, .ref q9), (0, .ref (cw_a (cc_w K) 0)), (1, .int x), (2, .ref qo)]) S.1 S.2.1 dL_restore_15 rfl hl (by decide) rfl (fun ls hl => ?_)
  exact wr_end S hr rfl hlocks (by omega) (by omega) dL_restore_16 (by decide) dL_restore_17 hP1 hO1 hS1
theorem lk_outputByte_29 : Cond.classLink RL 29 "java/lang/IndexOutOfBoundsException" ∈ wsL_outputByte := by decide +kernel
def mL_outputByte : cw_Me := (yL_outputByte, wsL_outputByte, cL_outputByte, 4, (some .int), 7, 111)
theorem wr_outputByte_ok {cl : ClassId} {f : Nat → Int64} {x : Int32} {r : Int32} (hC : cw_C (cc_w K) mX10_outputByte [.ref (cw_a (cc_w K) 0), .int x] I (some (.int r)) I2) : wr_C K mL_outputByte [.ref (cw_a (cc_w K) 0), .int x, .ref qo] I qo (lo cl f) (cl, .long) 0 I2 (lo cl (vp_updL f 0 (r.toInt64))) := by
  refine wr_entry (hh := [(0, 9, 12, 29)]) (by decide) ⟨_, rfl⟩ rfl (Nat.le_of_ble_eq_true rfl) (fun p e s m below meth c ls S hr hlocks htb hI hl => ?_)
  have hl : lv_has ls 4 [(0, .ref (cw_a (cc_w K) 0)), (1, .int x), (2, .ref qo)] := hl
  refine lv_aload_n S.1 S.2.1 dL_outputByte_0 rfl (lv_at hl 2 rfl) ?_
  refine lv_iconst (v := 0) S.1 S.2.1 dL_outputByte_1 (by decide) ?_
  refine lv_aload_n S.1 S.2.1 dL_outputByte_2 rfl (lv_at hl 0 rfl) ?_
  refine lv_iload_n S.1 S.2.1 dL_outputByte_3 rfl (lv_at hl 1 rfl) ?_
  refine wl_call (w := cc_w K) (As := [.int x]) S hI.2.2.2.1 hC okX10_outputByte rfl gL_outputByte_X10_outputByte ⟨Nat.le_of_ble_eq_true rfl, Nat.le_of_ble_eq_true rfl⟩ ⟨Nat.le_of_ble_eq_true rfl, Nat.le_of_ble_eq_true rfl⟩ (o := 0) (show 0 < 32 by decide) rfl rfl hl.1 rfl (Nat.le_of_ble_eq_true rfl) dL_outputByte_4 hI.2.1 va_S.rf (fun H1 locs1 hP1 hz1 hk1 hS1 => ?_)
  have hO1 := wr_out hI hI.2.2.1 hk1
  refine lv_i2l (v := r.toInt64) S.1 S.2.1 dL_outputByte_7 rfl ?_
  refine wl_last S.1 S.2.1 hI.2.2.2.2.1 hO1 hS1 (wr_free hI) (t0 := 0) rfl (vp_in_nI (n := 0) (N := 1) (by omega) (by omega)) dL_outputByte_8 (fun H2 locs2 hO2 hz2 hk2 hS2 => ?_)
  refine lv_goto (tgt := 15) S.1 S.2.1 dL_outputByte_9 (by decide) ?_
  exact wr_end S hr rfl hlocks (by omega) (by omega) dL_outputByte_15 (by decide) dL_outputByte_16 (wr_in hI hP1 hk2) hO2 hS2
theorem wr_outputByte_x1 {cl : ClassId} {f : Nat → Int64} {x : Int32} (hC : cw_T (cc_w K) mX10_outputByte [.ref (cw_a (cc_w K) 0), .int x] I "java/lang/IndexOutOfBoundsException" I2) : wr_C K mL_outputByte [.ref (cw_a (cc_w K) 0), .int x, .ref qo] I qo (lo cl f) (cl, .long) 1 I2 (lo cl f) := by
  refine wr_entry (hh := [(0, 9, 12, 29)]) (by decide) ⟨_, rfl⟩ rfl (Nat.le_of_ble_eq_true rfl) (fun p e s m below meth c ls S hr hlocks htb hI hl => ?_)
  have hl : lv_has ls 4 [(0, .ref (cw_a (cc_w K) 0)), (1, .int x), (2, .ref qo)] := hl
  refine lv_aload_n S.1 S.2.1 dL_outputByte_0 rfl (lv_at hl 2 rfl) ?_
  refine lv_iconst (v := 0) S.1 S.2.1 dL_outputByte_1 (by decide) ?_
  refine lv_aload_n S.1 S.2.1 dL_outputByte_2 rfl (lv_at hl 0 rfl) ?_
  refine lv_iload_n S.1 S.2.1 dL_outputByte_3 rfl (lv_at hl 1 rfl) ?_
  refine wl_callT (w := cc_w K) (As := [.int x]) S hI.2.2.2.1 hC okX10_outputByte rfl gL_outputByte_X10_outputByte ⟨Nat.le_of_ble_eq_true rfl, Nat.le_of_ble_eq_true rfl⟩ ⟨Nat.le_of_ble_eq_true rfl, Nat.le_of_ble_eq_true rfl⟩ (o := 0) (show 0 < 32 by decide) rfl rfl hl.1 rfl (Nat.le_of_ble_eq_true rfl) dL_outputByte_4 hI.2.1 va_S.rf (fun H1 locs1 q9 ce hP1 hz1 hk1 hS1 hce hcv hcl => ?_)
  have hO1 := wr_out hI hI.2.2.1 hk1
  refine wr_caught (hh := [(0, 9, 12, 29)]) (pre := []) (x := ⟨0, 9, 12, 29⟩) (suf := []) S hr rfl hlocks hI htb rfl (fun z hz => nomatch hz) (fun y => absurd rfl y) (by decide) (by decide) lk_outputByte_29 (by decide) hce hcv hcl ?_
  refine lv_astore_n (lv' := [(3, .ref q9), (0, .ref (cw_a (cc_w K) 0)), (1, .int x), (2, .ref qo)]) S.1 S.2.1 dL_outputByte_12 rfl hl (by decide) rfl (fun ls hl => ?_)
  exact wr_end S hr rfl hlocks (by omega) (by omega) dL_outputByte_13 (by decide) dL_outputByte_14 hP1 hO1 hS1
end WRP
