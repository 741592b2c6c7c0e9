/-! ## constructors: what they make stands at the heap's end, in order -/
def kn_Q (D : va_G) (A : Nat → Prop) (fin : va_W) (sz2 : Nat) : Array Value → State → Outcome → State → Prop := fun _ st oc t => oc = .returned none ∧ (va_P D vwCl fin t.heap ∧ va_D A fin ∧ t.heap.size = sz2) ∧ va_F A st t
def kn_I (D : va_G) (cy : Nat → ClassId) (sz : Nat) (ws0 : va_W) (U : State) : Prop := U.heap.size = sz ∧ va_P D vwCl ws0 U.heap ∧ va_K D vwCl (cw_ty cy) U ∧ va_D (fun _ => True) ws0 ∧ va_AO RX9 U
/-- THE CONTRACT OF A CONSTRUCTOR: from the cells ws0 it makes the cells fin -/
def kn_T (l : Launch) (D : va_G) (cy : Nat → ClassId) (M : cw_Me) (as : List Value) (sz : Nat) (ws0 : va_W) (mc ms : Nat) (fin : va_W) : Prop :=
  Met l (cw_y M) (cw_w M) (cw_R M mc ms) (va_Pc as (kn_I D cy sz ws0)) (kn_Q D (va_A ws0 sz) fin (sz + mc)) mc ms (va_A ws0 sz)
theorem kn_entry {l : Launch} {D : va_G} {cy : Nat → ClassId} {M : cw_Me} {n : Nat} {as : List Value} {sz mc ms : Nat} {ws0 fin : va_W} (ho : cw_ok M n) (hl : (lg_sl as).length ≤ cw_k M) (hi : (cw_y M).name = "<init>")
    (k : ∀ (p : Program) (e : Env) (s : State) (m : MethodId) (below : List Frame) (meth : Method) (c : Code) (ls : Array Slot) (A : Nat → Prop), CallFix p m c (cw_c M) (cw_k M) s as.toArray (cw_w M) (cw_y M).cls → meth.sig.returnType = cw_r M → meth.locks = false → meth.name = "<init>" → s.heap.size = sz → (∀ q : Nat, s.heap.size ≤ q → A q) → va_P D vwCl ws0 s.heap → va_K D vwCl (cw_ty cy) s → va_D A ws0 → va_AO RX9 s → lv_has ls (cw_k M) (lv_args 0 as) → W p l e (cw_R M mc ms) s m as.toArray below meth c s.heap [] 0 0 (MQ below (kn_Q D A fin (sz + mc)) as.toArray s mc ms A) (F0 m 0 ls [])) : kn_T l D cy M as sz ws0 mc ms fin := by
  obtain ⟨hy, ⟨ws', hw⟩, -⟩ := ho
  refine Met.ofW (cc := cw_c M) (maxL := cw_k M) (ret := cw_r M) hy hw ?_
  intro p e s m args below meth c s₁ B hml hv
  obtain ⟨rfl, hsz, hP, hK, hD0, hO⟩ := hv
  have hts := atoms_spec (ws := cw_w M) B.pre
  have hown : s.vm.findClass (cw_y M).cls = some m.cls := findClass_of_methodNamed B.named
  have hin : meth.name = "<init>" := (name_of_methodNamed B.named B.method).1.trans hi
  have hl := lv_entry as (n := cw_k M) hl
  rw [lg_entry_eq]
  generalize (lg_sl as ++ List.replicate (cw_k M - (lg_sl as).length) Slot.unset).toArray = ls at hl ⊢
  exact k p e s m below meth c ls _ ⟨B.exec, B.bytes, hml, hown, hts⟩ B.returns B.notSynchronized hin hsz (fun q h => Or.inr (by rw [← hsz]; exact h)) hP hK (hD0.self (sz := sz)) hO hl
section KN
variable {p : Program} {l : Launch} {e : Env} {R : Room} {s : State} {m : MethodId} {args : Array Value} {below : List Frame} {meth : Method} {c : Code} {H H0 : Heap} {locs : List Loc} {cells slots pc a : Nat} {Q : State → Prop} {ls : Array Slot} {rest : List Value} {cc : ByteArray} {D : va_G} {tys : List (ClassId × FieldType)} {ws : va_W} {A : Nat → Prop}
/-- one cell more at the end -/
theorem kn_push {H1 : Heap} {en : va_E} (hP : va_P D vwCl ws H) (hD : va_D A ws) (hS : va_S A H0 H locs) (hA : ∀ q, H0.size ≤ q → A q) (hz : H.size = a) (z1 : H1.size = a + 1) (o1 : ∀ q, q < a → H1[q]? = H[q]?) (hq : va_at D vwCl (a, en) H1) : va_P D vwCl (ws ++ [(a, en)]) H1 ∧ va_D A (ws ++ [(a, en)]) ∧ va_S A H0 H1 locs := by
  subst hz
  have hk : ∀ (k : Nat) (x : Nat × va_E), ws[k]? = some x → H1[x.1]? = H[x.1]? := fun k x hx => o1 x.1 ((hP k x hx).lt)
  refine ⟨(hP.kept hk).app (fun k x hx => ?_), hD.push hP rfl (hA _ hS.1), Nat.le_trans hS.1 (by omega), fun x h1 h2 => (o1 x (Nat.lt_of_lt_of_le h1 hS.1)).trans (hS.2.1 x h1 h2), hS.2.2⟩
  cases k with
  | zero =>
    cases hx
    exact hq
  | succ k => simp at hx
theorem kn_newa {atype : ArrayType} {ty : FieldType} {t0 : Nat} {cA : ClassId} {n : Int32} {N' : Nat} {a0 : vp_A} (hexec : p.tables.exec = Jvm.exec) (hb : c.code = cc) (harr : (Cond.arrayClass (newarray.typeOf atype)).before args s = true) (hty : newarray.typeOf atype = ty) (hK : va_K D vwCl tys s) (ht : tys[t0]? = some (cA, ty)) (hno : va_RA s cA ty = (s.vm.findClass ("[" ++ ty.toString) = some cA)) (hP : va_P D vwCl ws H) (hD : va_D A ws) (hS : va_S A H0 H locs) (hA : ∀ q, H0.size ≤ q → A q) (hz : H.size = a)
    (ha : ∀ cA : ClassId, vp_cell cA a0 = arrV cA N' (fun _ => defaultValue ty)) (hn : ¬ n < 0) (hN : n.toNatClampNeg = N') (hbytes : N' * componentBytes ty ≤ 536870912) (hcells : cells + 1 ≤ R.cells) (hslots : slots + N' ≤ R.slots) (hd : decode cc pc = .ok (.newarray atype, 2))
    (kk : ∀ (H1 : Heap), va_P D vwCl (ws ++ [(a, .inl (cA, a0))]) H1 → va_D A (ws ++ [(a, .inl (cA, a0))]) → va_S A H0 H1 locs → H1.size = a + 1 → W p l e R s m args below meth c H1 locs (cells + 1) (slots + N') Q (F0 m (pc + 2) ls (.ref a :: rest))) : W p l e R s m args below meth c H locs cells slots Q (F0 m pc ls (.int n :: rest)) := by
  subst hty
  refine va_newaK hexec hb harr rfl hd rfl hn hN hbytes hcells hslots hz (fun H1 cA2 e1 z1 o1 hAr hNm => ?_)
  have h1 := (hK.2 t0 _ ht).2
  rw [hno] at h1
  obtain rfl : cA2 = cA := Option.some.inj (hNm.symm.trans h1)
  obtain ⟨h2, h3, h4⟩ := kn_push (en := .inl (cA2, a0)) hP hD hS hA hz z1 o1 (by
    show H1[a]? = some (vp_cell _ _)
    rw [ha]
    exact e1)
  exact kk H1 h2 h3 h4 z1
theorem kn_newq {C : String} {index t0 : Nat} {cA : ClassId} {n : Int32} {N' : Nat} (hexec : p.tables.exec = Jvm.exec) (hb : c.code = cc) {own : String} (hown : s.vm.findClass own = some m.cls) (hclink : (Cond.classLink own index C).before args s = true) (hover : va_AO C s) (hK : va_K D vwCl tys s) (ht : tys[t0]? = some (cA, .object C)) (hP : va_P D vwCl ws H) (hD : va_D A ws) (hS : va_S A H0 H locs) (hA : ∀ q, H0.size ≤ q → A q) (hz : H.size = a)
    (hn : ¬ n < 0) (hN : n.toNatClampNeg = N') (hbytes : N' * 4 ≤ 536870912) (hcells : cells + 1 ≤ R.cells) (hslots : slots + N' ≤ R.slots) (hd : decode cc pc = .ok (.anewarray index, 3))
    (kk : ∀ (H1 : Heap), va_P D vwCl (ws ++ [(a, .inl (cA, N', .inr (.inr (.inr (.inr (fun _ => none))))))]) H1 → va_D A (ws ++ [(a, .inl (cA, N', .inr (.inr (.inr (.inr (fun _ => none))))))]) → va_S A H0 H1 locs → H1.size = a + 1 → W p l e R s m args below meth c H1 locs (cells + 1) (slots + N') Q (F0 m (pc + 3) ls (.ref a :: rest))) : W p l e R s m args below meth c H locs cells slots Q (F0 m pc ls (.int n :: rest)) := by
  subst hN
  refine W.anew hexec hb hown hclink (va_AO.use hover) rfl hd rfl hn hbytes hcells hslots fun cA2 kA comp f1 f2 f3 f4 => ?_
  generalize hH1 : H.push ({ cls := cA2, slots := Array.replicate n.toNatClampNeg .null, vm := .none } : Cell) = H1
  have z1 : H1.size = a + 1 := by rw [← hH1, Array.size_push, hz]
  have e1 : H1[a]? = some (arrV cA2 n.toNatClampNeg (fun _ => .null)) := by rw [← hH1, ← hz, Array.getElem?_push_size, ← arrV_new]
  have o1 : ∀ q : Nat, q < a → H1[q]? = H[q]? := fun q hq => by rw [← hH1, Array.getElem?_push, if_neg (by omega)]
  obtain ⟨k2, c2, -, -, -, h1⟩ := (hK.2 t0 _ ht).2
  obtain rfl : cA2 = cA := Option.some.inj (f1.symm.trans h1)
  obtain ⟨h2, h3, h4⟩ := kn_push (en := .inl (cA2, n.toNatClampNeg, .inr (.inr (.inr (.inr (fun _ => none)))))) hP hD hS hA hz z1 o1 (by
    show H1[a]? = some (vp_cell _ _)
    rw [vp_cell_q]
    exact e1)
  rw [hz]
  exact kk H1 h2 h3 h4 z1
/-- the cells made so far bound the heap -/
theorem kn_size {g : JFrame} (h : s.heap.size + cells ≤ H.size) (kk : H.size = s.heap.size + cells → W p l e R s m args below meth c H locs cells slots Q g) : W p l e R s m args below meth c H locs cells slots Q g := fun T hT X => kk (by
  have h9 := X.heapSize
  rw [hT] at h9
  omega) T hT X
theorem kn_putF (hexec : p.tables.exec = Jvm.exec) (hb : c.code = cc) {own ref C : String} {T : u_T} {N ci index : Nat} {Ts : List Cond} (hts : ∀ w ∈ Ts, w.before args s = true) (hin : ∀ w ∈ u_ws C T N, w ∈ Ts) (ty0 : Nat → FieldType) (hty : ∀ k, k < N → parseFieldDescriptor (T k).2.2.1 = some (ty0 k)) (hnm : ∀ a, a < N → ∀ b, b < N → a ≠ b → (T a).2.1 ≠ (T b).2.1) (hown : s.vm.findClass own = some m.cls) (hK : va_K D vwCl tys s) (hP : va_P D vwCl ws H) (hD : va_D A ws) (hS : va_S A H0 H locs) (hz : H.size = a) (hz0 : s.heap.size + cells = a) {o : Nat} (q0 : Nat) {fs : List Value} (he : ws[q0]? = some (o, .inr (ci, fs))) (hc : vwCl[ci]? = some (C, T, N)) (k : Nat) (hk : k < N) (hlink : (Cond.fieldLink own index ref (T k).2.1 (T k).2.2.1).before args s = true) (hsame : ∀ x, s.fieldFound? (T k).1 (T k).2.1 (T k).2.2.1 = some x → s.fieldFound? ref (T k).2.1 (T k).2.2.1 = some x) (hfin : (T k).2.2.2 = true) (hin2 : meth.name = "<init>") (hdecl : (T k).1 = own) {ty : FieldType} {v : Value} (hd : parseFieldDescriptor (T k).2.2.1 = some ty) (hn : narrow ty v = v) (hfit : fits ty v = true) (hl : k < fs.length)
    (hdg : decode cc pc = .ok (.putfield index, 3)) (kk : ∀ (H1 : Heap) (locs1 : List Loc), va_P D vwCl (ws.set q0 (o, .inr (ci, fs.set k v))) H1 → va_D A (ws.set q0 (o, .inr (ci, fs.set k v))) → va_S A H0 H1 locs1 → H1.size = a → W p l e R s m args below meth c H1 locs1 cells slots Q (F0 m (pc + 3) ls rest)) : W p l e R s m args below meth c H locs cells slots Q (F0 m pc ls (v :: .ref o :: rest)) :=
  va_putF hexec hb hts hin ty0 hty hnm hown hK hP hD (H0 := H) (⟨Nat.le_refl _, fun _ _ _ => rfl, hS.2.2⟩ : va_S A H H locs) q0 he hc k hk hlink hsame hfin hin2 hdecl hd hn hfit hl hdg (fun H1 locs1 hP1 hD1 hS1 => kn_size (by have := hS1.1; omega) (fun z => kk H1 locs1 hP1 hD1 ⟨Nat.le_trans hS.1 hS1.1, fun q h1 h2 => (hS1.2.1 q (Nat.lt_of_lt_of_le h1 hS.1) h2).trans (hS.2.1 q h1 h2), hS1.2.2⟩ (by omega)))
theorem kn_ret {fin : va_W} {sz2 mc ms : Nat} (hexec : p.tables.exec = Jvm.exec) (hb : c.code = cc) (hr : meth.sig.returnType = none) (hP : va_P D vwCl fin H) (hD : va_D A fin) (hS : va_S A s.heap H locs) (hz : H.size = sz2) (hd : decode cc pc = .ok (.return_, 1)) (hc : cells ≤ mc) (hs : slots ≤ ms) (hlocks : meth.locks = false) : W p l e R s m args below meth c H locs cells slots (MQ below (kn_Q D A fin sz2) args s mc ms A) (F0 m pc ls []) := by
  refine W.widen (k := mc) (n := ms) hc hs ?_
  exact W.vret hexec hb hr (fun t ht hW => ⟨rfl, ⟨by rw [ht]; exact hP, hD, by rw [ht]; exact hz⟩, hS.F ht⟩) hS.2.2 hd
end KN
def mX8_init : cw_Me := (yX8_init, wsX8_init, cX8_init, 1, none, 1, 24)
theorem okX8_init : cw_ok mX8_init 0 := ⟨by decide +kernel, ⟨_, rfl⟩, by decide +kernel, by decide +kernel, by decide +kernel⟩
set_option maxHeartbeats 4000000 in
theorem knX8 {l : Launch} {D : va_G} {cy : Nat → ClassId} {o sz : Nat} : kn_T l D cy mX8_init [.ref o] sz [(o, .inr (7, [.null, .int 0]))] 1 600 [(o, .inr (7, [.ref (sz), .int 0])), (sz, .inl (cy 0, 600, .inl (fun _ => 0)))] := by
  refine kn_entry okX8_init (Nat.le_of_ble_eq_true rfl) rfl (fun p e s m below meth c ls A S hr hlocks hin hs0 hA hP hK hD hO hl => ?_)
  have hl : lv_has ls 1 [(0, .ref o)] := hl
  have hS : va_S A s.heap s.heap [] := va_S.rf
  have hz : s.heap.size = sz := hs0
  refine lv_aload_n S.1 S.2.1 dX8_init_0 rfl (lv_at hl 0 rfl) ?_
  refine W.objInit S.1 S.2.1 S.2.2.2.1 (S.2.2.2.2 (.methodLink RX8 3 objectInit) (by decide +kernel)) (S.2.2.2.2 (.instanceMethod objectInit) (by decide +kernel)) (S.2.2.2.2 (.code objectInit ⟨#[0xb1]⟩ 1 none) (by decide +kernel)) rfl (hl.1.trans S.2.2.1.symm) rfl dX8_init_1 (Nat.le_of_ble_eq_true rfl) (Nat.le_of_ble_eq_true rfl) ?_
  refine W.eq (g2 := F0 m 4 ls []) rfl ?_
  refine lv_aload_n S.1 S.2.1 dX8_init_4 rfl (lv_at hl 0 rfl) ?_
  refine lv_sipush (v := 600) S.1 S.2.1 dX8_init_5 (by decide) ?_
  refine kn_newa (atype := .int) (t0 := 0) (cA := cy 0) (ty := .int) (N' := 600) (a0 := (600, .inl (fun _ => 0))) S.1 S.2.1 (S.2.2.2.2 (.arrayClass .int) (by decide +kernel)) rfl hK rfl rfl hP hD hS hA (a := sz) hz (fun _ => rfl) (by decide) (by decide) (by decide) (by decide) (by decide) dX8_init_8 (fun H hP hD hS hz => ?_)
  have hP : va_P D vwCl [(o, .inr (7, [.null, .int 0])), (sz, .inl (cy 0, 600, .inl (fun _ => 0)))] H := hP
  have hD : va_D A [(o, .inr (7, [.null, .int 0])), (sz, .inl (cy 0, 600, .inl (fun _ => 0)))] := hD
  have hz : H.size = sz + 1 := hz
  refine kn_putF (D := D) (ci := 7) (v := .ref (sz)) (ty := .array .int) (C := RX8) (T := TX8) (N := 2) S.1 S.2.1 S.2.2.2.2 (by decide +kernel) tyX8 tyX8_ok nmX8 S.2.2.2.1 hK hP hD hS hz (by omega) 0 rfl rfl 0 (by decide) (S.2.2.2.2 (.fieldLink RX8 9 "CakeDivision$Text" "bytes" "[I") (by decide +kernel)) (fun _ h9 => h9) rfl hin rfl (by decide +kernel) rfl rfl (Nat.le_of_ble_eq_true rfl) dX8_init_10 (fun H locs hP hD hS hz => ?_)
  have hP : va_P D vwCl [(o, .inr (7, [.ref (sz), .int 0])), (sz, .inl (cy 0, 600, .inl (fun _ => 0)))] H := hP
  have hD : va_D A [(o, .inr (7, [.ref (sz), .int 0])), (sz, .inl (cy 0, 600, .inl (fun _ => 0)))] := hD
  exact kn_ret S.1 S.2.1 hr hP hD hS hz dX8_init_13 (by decide) (by decide) hlocks
def mX1_init : cw_Me := (yX1_init, wsX1_init, cX1_init, 1, none, 1, 24)
theorem okX1_init : cw_ok mX1_init 0 := ⟨by decide +kernel, ⟨_, rfl⟩, by decide +kernel, by decide +kernel, by decide +kernel⟩
set_option maxHeartbeats 4000000 in
theorem knX1 {l : Launch} {D : va_G} {cy : Nat → ClassId} {o sz : Nat} : kn_T l D cy mX1_init [.ref o] sz [(o, .inr (0, [.int 0, .int 0, .null, .null, .null, .null]))] 4 210 [(o, .inr (0, [.int 0, .int 0, .ref (sz), .ref (sz + 1), .ref (sz + 2), .ref (sz + 3)])), (sz, .inl (cy 0, 36, .inl (fun _ => 0))), (sz + 1, .inl (cy 0, 6, .inl (fun _ => 0))), (sz + 2, .inl (cy 0, 144, .inl (fun _ => 0))), (sz + 3, .inl (cy 0, 24, .inl (fun _ => 0)))] := by
  refine kn_entry okX1_init (Nat.le_of_ble_eq_true rfl) rfl (fun p e s m below meth c ls A S hr hlocks hin hs0 hA hP hK hD hO hl => ?_)
  have hl : lv_has ls 1 [(0, .ref o)] := hl
  have hS : va_S A s.heap s.heap [] := va_S.rf
  have hz : s.heap.size = sz := hs0
  refine lv_aload_n S.1 S.2.1 dX1_init_0 rfl (lv_at hl 0 rfl) ?_
  refine W.objInit S.1 S.2.1 S.2.2.2.1 (S.2.2.2.2 (.methodLink RX1 3 objectInit) (by decide +kernel)) (S.2.2.2.2 (.instanceMethod objectInit) (by decide +kernel)) (S.2.2.2.2 (.code objectInit ⟨#[0xb1]⟩ 1 none) (by decide +kernel)) rfl (hl.1.trans S.2.2.1.symm) rfl dX1_init_1 (Nat.le_of_ble_eq_true rfl) (Nat.le_of_ble_eq_true rfl) ?_
  refine W.eq (g2 := F0 m 4 ls []) rfl ?_
  refine lv_aload_n S.1 S.2.1 dX1_init_4 rfl (lv_at hl 0 rfl) ?_
  refine lv_bipush (v := 36) S.1 S.2.1 dX1_init_5 (by decide) ?_
  refine kn_newa (atype := .int) (t0 := 0) (cA := cy 0) (ty := .int) (N' := 36) (a0 := (36, .inl (fun _ => 0))) S.1 S.2.1 (S.2.2.2.2 (.arrayClass .int) (by decide +kernel)) rfl hK rfl rfl hP hD hS hA (a := sz) hz (fun _ => rfl) (by decide) (by decide) (by decide) (by decide) (by decide) dX1_init_7 (fun H hP hD hS hz => ?_)
  have hP : va_P D vwCl [(o, .inr (0, [.int 0, .int 0, .null, .null, .null, .null])), (sz, .inl (cy 0, 36, .inl (fun _ => 0)))] H := hP
  have hD : va_D A [(o, .inr (0, [.int 0, .int 0, .null, .null, .null, .null])), (sz, .inl (cy 0, 36, .inl (fun _ => 0)))] := hD
  have hz : H.size = sz + 1 := hz
  refine kn_putF (D := D) (ci := 0) (v := .ref (sz)) (ty := .array .int) (C := RX1) (T := TX1) (N := 6) S.1 S.2.1 S.2.2.2.2 (by decide +kernel) tyX1 tyX1_ok nmX1 S.2.2.2.1 hK hP hD hS hz (by omega) 0 rfl rfl 2 (by decide) (S.2.2.2.2 (.fieldLink RX1 9 "CakeDivision$Cake" "names" "[I") (by decide +kernel)) (fun _ h9 => h9) rfl hin rfl (by decide +kernel) rfl rfl (Nat.le_of_ble_eq_true rfl) dX1_init_9 (fun H locs hP hD hS hz => ?_)
  have hP : va_P D vwCl [(o, .inr (0, [.int 0, .int 0, .ref (sz), .null, .null, .null])), (sz, .inl (cy 0, 36, .inl (fun _ => 0)))] H := hP
  have hD : va_D A [(o, .inr (0, [.int 0, .int 0, .ref (sz), .null, .null, .null])), (sz, .inl (cy 0, 36, .inl (fun _ => 0)))] := hD
  refine lv_aload_n S.1 S.2.1 dX1_init_12 rfl (lv_at hl 0 rfl) ?_
  refine lv_bipush (v := 6) S.1 S.2.1 dX1_init_13 (by decide) ?_
  refine kn_newa (atype := .int) (t0 := 0) (cA := cy 0) (ty := .int) (N' := 6) (a0 := (6, .inl (fun _ => 0))) S.1 S.2.1 (S.2.2.2.2 (.arrayClass .int) (by decide +kernel)) rfl hK rfl rfl hP hD hS hA (a := sz + 1) hz (fun _ => rfl) (by decide) (by decide) (by decide) (by decide) (by decide) dX1_init_15 (fun H hP hD hS hz => ?_)
  have hP : va_P D vwCl [(o, .inr (0, [.int 0, .int 0, .ref (sz), .null, .null, .null])), (sz, .inl (cy 0, 36, .inl (fun _ => 0))), (sz + 1, .inl (cy 0, 6, .inl (fun _ => 0)))] H := hP
  have hD : va_D A [(o, .inr (0, [.int 0, .int 0, .ref (sz), .null, .null, .null])), (sz, .inl (cy 0, 36, .inl (fun _ => 0))), (sz + 1, .inl (cy 0, 6, .inl (fun _ => 0)))] := hD
  have hz : H.size = sz + 2 := hz
  refine kn_putF (D := D) (ci := 0) (v := .ref (sz + 1)) (ty := .array .int) (C := RX1) (T := TX1) (N := 6) S.1 S.2.1 S.2.2.2.2 (by decide +kernel) tyX1 tyX1_ok nmX1 S.2.2.2.1 hK hP hD hS hz (by omega) 0 rfl rfl 3 (by decide) (S.2.2.2.2 (.fieldLink RX1 15 "CakeDivision$Cake" "nameLengths" "[I") (by decide +kernel)) (fun _ h9 => h9) rfl hin rfl (by decide +kernel) rfl rfl (Nat.le_of_ble_eq_true rfl) dX1_init_17 (fun H locs hP hD hS hz => ?_)
  have hP : va_P D vwCl [(o, .inr (0, [.int 0, .int 0, .ref (sz), .ref (sz + 1), .null, .null])), (sz, .inl (cy 0, 36, .inl (fun _ => 0))), (sz + 1, .inl (cy 0, 6, .inl (fun _ => 0)))] H := hP
  have hD : va_D A [(o, .inr (0, [.int 0, .int 0, .ref (sz), .ref (sz + 1), .null, .null])), (sz, .inl (cy 0, 36, .inl (fun _ => 0))), (sz + 1, .inl (cy 0, 6, .inl (fun _ => 0)))] := hD
  refine lv_aload_n S.1 S.2.1 dX1_init_20 rfl (lv_at hl 0 rfl) ?_
  refine lv_sipush (v := 144) S.1 S.2.1 dX1_init_21 (by decide) ?_
  refine kn_newa (atype := .int) (t0 := 0) (cA := cy 0) (ty := .int) (N' := 144) (a0 := (144, .inl (fun _ => 0))) S.1 S.2.1 (S.2.2.2.2 (.arrayClass .int) (by decide +kernel)) rfl hK rfl rfl hP hD hS hA (a := sz + 2) hz (fun _ => rfl) (by decide) (by decide) (by decide) (by decide) (by decide) dX1_init_24 (fun H hP hD hS hz => ?_)
  have hP : va_P D vwCl [(o, .inr (0, [.int 0, .int 0, .ref (sz), .ref (sz + 1), .null, .null])), (sz, .inl (cy 0, 36, .inl (fun _ => 0))), (sz + 1, .inl (cy 0, 6, .inl (fun _ => 0))), (sz + 2, .inl (cy 0, 144, .inl (fun _ => 0)))] H := hP
  have hD : va_D A [(o, .inr (0, [.int 0, .int 0, .ref (sz), .ref (sz + 1), .null, .null])), (sz, .inl (cy 0, 36, .inl (fun _ => 0))), (sz + 1, .inl (cy 0, 6, .inl (fun _ => 0))), (sz + 2, .inl (cy 0, 144, .inl (fun _ => 0)))] := hD
  have hz : H.size = sz + 3 := hz
  refine kn_putF (D := D) (ci := 0) (v := .ref (sz + 2)) (ty := .array .int) (C := RX1) (T := TX1) (N := 6) S.1 S.2.1 S.2.2.2.2 (by decide +kernel) tyX1 tyX1_ok nmX1 S.2.2.2.1 hK hP hD hS hz (by omega) 0 rfl rfl 4 (by decide) (S.2.2.2.2 (.fieldLink RX1 18 "CakeDivision$Cake" "values" "[I") (by decide +kernel)) (fun _ h9 => h9) rfl hin rfl (by decide +kernel) rfl rfl (Nat.le_of_ble_eq_true rfl) dX1_init_26 (fun H locs hP hD hS hz => ?_)
  have hP : va_P D vwCl [(o, .inr (0, [.int 0, .int 0, .ref (sz), .ref (sz + 1), .ref (sz + 2), .null])), (sz, .inl (cy 0, 36, .inl (fun _ => 0))), (sz + 1, .inl (cy 0, 6, .inl (fun _ => 0))), (sz + 2, .inl (cy 0, 144, .inl (fun _ => 0)))] H := hP
  have hD : va_D A [(o, .inr (0, [.int 0, .int 0, .ref (sz), .ref (sz + 1), .ref (sz + 2), .null])), (sz, .inl (cy 0, 36, .inl (fun _ => 0))), (sz + 1, .inl (cy 0, 6, .inl (fun _ => 0))), (sz + 2, .inl (cy 0, 144, .inl (fun _ => 0)))] := hD
  refine lv_aload_n S.1 S.2.1 dX1_init_29 rfl (lv_at hl 0 rfl) ?_
  refine lv_bipush (v := 24) S.1 S.2.1 dX1_init_30 (by decide) ?_
  refine kn_newa (atype := .int) (t0 := 0) (cA := cy 0) (ty := .int) (N' := 24) (a0 := (24, .inl (fun _ => 0))) S.1 S.2.1 (S.2.2.2.2 (.arrayClass .int) (by decide +kernel)) rfl hK rfl rfl hP hD hS hA (a := sz + 3) hz (fun _ => rfl) (by decide) (by decide) (by decide) (by decide) (by decide) dX1_init_32 (fun H hP hD hS hz => ?_)
  have hP : va_P D vwCl [(o, .inr (0, [.int 0, .int 0, .ref (sz), .ref (sz + 1), .ref (sz + 2), .null])), (sz, .inl (cy 0, 36, .inl (fun _ => 0))), (sz + 1, .inl (cy 0, 6, .inl (fun _ => 0))), (sz + 2, .inl (cy 0, 144, .inl (fun _ => 0))), (sz + 3, .inl (cy 0, 24, .inl (fun _ => 0)))] H := hP
  have hD : va_D A [(o, .inr (0, [.int 0, .int 0, .ref (sz), .ref (sz + 1), .ref (sz + 2), .null])), (sz, .inl (cy 0, 36, .inl (fun _ => 0))), (sz + 1, .inl (cy 0, 6, .inl (fun _ => 0))), (sz + 2, .inl (cy 0, 144, .inl (fun _ => 0))), (sz + 3, .inl (cy 0, 24, .inl (fun _ => 0)))] := hD
  have hz : H.size = sz + 4 := hz
  refine kn_putF (D := D) (ci := 0) (v := .ref (sz + 3)) (ty := .array .int) (C := RX1) (T := TX1) (N := 6) S.1 S.2.1 S.2.2.2.2 (by decide +kernel) tyX1 tyX1_ok nmX1 S.2.2.2.1 hK hP hD hS hz (by omega) 0 rfl rfl 5 (by decide) (S.2.2.2.2 (.fieldLink RX1 21 "CakeDivision$Cake" "owners" "[I") (by decide +kernel)) (fun _ h9 => h9) rfl hin rfl (by decide +kernel) rfl rfl (Nat.le_of_ble_eq_true rfl) dX1_init_34 (fun H locs hP hD hS hz => ?_)
  have hP : va_P D vwCl [(o, .inr (0, [.int 0, .int 0, .ref (sz), .ref (sz + 1), .ref (sz + 2), .ref (sz + 3)])), (sz, .inl (cy 0, 36, .inl (fun _ => 0))), (sz + 1, .inl (cy 0, 6, .inl (fun _ => 0))), (sz + 2, .inl (cy 0, 144, .inl (fun _ => 0))), (sz + 3, .inl (cy 0, 24, .inl (fun _ => 0)))] H := hP
  have hD : va_D A [(o, .inr (0, [.int 0, .int 0, .ref (sz), .ref (sz + 1), .ref (sz + 2), .ref (sz + 3)])), (sz, .inl (cy 0, 36, .inl (fun _ => 0))), (sz + 1, .inl (cy 0, 6, .inl (fun _ => 0))), (sz + 2, .inl (cy 0, 144, .inl (fun _ => 0))), (sz + 3, .inl (cy 0, 24, .inl (fun _ => 0)))] := hD
  exact kn_ret S.1 S.2.1 hr hP hD hS hz dX1_init_37 (by decide) (by decide) hlocks
def mX5_init : cw_Me := (yX5_init, wsX5_init, cX5_init, 2, none, 1, 24)
theorem okX5_init : cw_ok mX5_init 1 := ⟨by decide +kernel, ⟨_, rfl⟩, by decide +kernel, by decide +kernel, by decide +kernel⟩
set_option maxHeartbeats 4000000 in
theorem knX5 {l : Launch} {D : va_G} {cy : Nat → ClassId} {o sz : Nat} {r1 : Nat} : kn_T l D cy mX5_init [.ref o, .ref r1] sz [(o, .inr (4, [.int 0, .int 0, .int 0, .int 0, .int 0, .int 0, .null]))] 0 0 [(o, .inr (4, [.int 0, .int 0, .int 0, .int 0, .int 0, .int 0, .ref r1]))] := by
  refine kn_entry okX5_init (Nat.le_of_ble_eq_true rfl) rfl (fun p e s m below meth c ls A S hr hlocks hin hs0 hA hP hK hD hO hl => ?_)
  have hl : lv_has ls 2 [(0, .ref o), (1, .ref r1)] := hl
  have hS : va_S A s.heap s.heap [] := va_S.rf
  have hz : s.heap.size = sz := hs0
  refine lv_aload_n S.1 S.2.1 dX5_init_0 rfl (lv_at hl 0 rfl) ?_
  refine W.objInit S.1 S.2.1 S.2.2.2.1 (S.2.2.2.2 (.methodLink RX5 3 objectInit) (by decide +kernel)) (S.2.2.2.2 (.instanceMethod objectInit) (by decide +kernel)) (S.2.2.2.2 (.code objectInit ⟨#[0xb1]⟩ 1 none) (by decide +kernel)) rfl (hl.1.trans S.2.2.1.symm) rfl dX5_init_1 (Nat.le_of_ble_eq_true rfl) (Nat.le_of_ble_eq_true rfl) ?_
  refine W.eq (g2 := F0 m 4 ls []) rfl ?_
  refine lv_aload_n S.1 S.2.1 dX5_init_4 rfl (lv_at hl 0 rfl) ?_
  refine lv_aload_n S.1 S.2.1 dX5_init_5 rfl (lv_at hl 1 rfl) ?_
  refine kn_putF (D := D) (ci := 4) (v := .ref r1) (ty := .object "CakeDivision$Text") (C := RX5) (T := TX5) (N := 7) S.1 S.2.1 S.2.2.2.2 (by decide +kernel) tyX5 tyX5_ok nmX5 S.2.2.2.1 hK hP hD hS hz (by omega) 0 rfl rfl 6 (by decide) (S.2.2.2.2 (.fieldLink RX5 9 "CakeDivision$Parser" "text" "LCakeDivision$Text;") (by decide +kernel)) (fun _ h9 => h9) rfl hin rfl (by decide +kernel) rfl rfl (Nat.le_of_ble_eq_true rfl) dX5_init_6 (fun H locs hP hD hS hz => ?_)
  have hP : va_P D vwCl [(o, .inr (4, [.int 0, .int 0, .int 0, .int 0, .int 0, .int 0, .ref r1]))] H := hP
  have hD : va_D A [(o, .inr (4, [.int 0, .int 0, .int 0, .int 0, .int 0, .int 0, .ref r1]))] := hD
  exact kn_ret S.1 S.2.1 hr hP hD hS hz dX5_init_9 (by decide) (by decide) hlocks
def mX3_init : cw_Me := (yX3_init, wsX3_init, cX3_init, 2, none, 1, 24)
theorem okX3_init : cw_ok mX3_init 1 := ⟨by decide +kernel, ⟨_, rfl⟩, by decide +kernel, by decide +kernel, by decide +kernel⟩
set_option maxHeartbeats 4000000 in
theorem knX3 {l : Launch} {D : va_G} {cy : Nat → ClassId} {o sz : Nat} {r1 : Nat} : kn_T l D cy mX3_init [.ref o, .ref r1] sz [(o, .inr (2, [.null, .null, .null, .null]))] 3 48 [(o, .inr (2, [.ref (sz), .ref (sz + 1), .ref (sz + 2), .ref r1])), (sz, .inl (cy 0, 6, .inl (fun _ => 0))), (sz + 1, .inl (cy 0, 6, .inl (fun _ => 0))), (sz + 2, .inl (cy 0, 36, .inl (fun _ => 0)))] := by
  refine kn_entry okX3_init (Nat.le_of_ble_eq_true rfl) rfl (fun p e s m below meth c ls A S hr hlocks hin hs0 hA hP hK hD hO hl => ?_)
  have hl : lv_has ls 2 [(0, .ref o), (1, .ref r1)] := hl
  have hS : va_S A s.heap s.heap [] := va_S.rf
  have hz : s.heap.size = sz := hs0
  refine lv_aload_n S.1 S.2.1 dX3_init_0 rfl (lv_at hl 0 rfl) ?_
  refine W.objInit S.1 S.2.1 S.2.2.2.1 (S.2.2.2.2 (.methodLink RX3 3 objectInit) (by decide +kernel)) (S.2.2.2.2 (.instanceMethod objectInit) (by decide +kernel)) (S.2.2.2.2 (.code objectInit ⟨#[0xb1]⟩ 1 none) (by decide +kernel)) rfl (hl.1.trans S.2.2.1.symm) rfl dX3_init_1 (Nat.le_of_ble_eq_true rfl) (Nat.le_of_ble_eq_true rfl) ?_
  refine W.eq (g2 := F0 m 4 ls []) rfl ?_
  refine lv_aload_n S.1 S.2.1 dX3_init_4 rfl (lv_at hl 0 rfl) ?_
  refine lv_bipush (v := 6) S.1 S.2.1 dX3_init_5 (by decide) ?_
  refine kn_newa (atype := .int) (t0 := 0) (cA := cy 0) (ty := .int) (N' := 6) (a0 := (6, .inl (fun _ => 0))) S.1 S.2.1 (S.2.2.2.2 (.arrayClass .int) (by decide +kernel)) rfl hK rfl rfl hP hD hS hA (a := sz) hz (fun _ => rfl) (by decide) (by decide) (by decide) (by decide) (by decide) dX3_init_7 (fun H hP hD hS hz => ?_)
  have hP : va_P D vwCl [(o, .inr (2, [.null, .null, .null, .null])), (sz, .inl (cy 0, 6, .inl (fun _ => 0)))] H := hP
  have hD : va_D A [(o, .inr (2, [.null, .null, .null, .null])), (sz, .inl (cy 0, 6, .inl (fun _ => 0)))] := hD
  have hz : H.size = sz + 1 := hz
  refine kn_putF (D := D) (ci := 2) (v := .ref (sz)) (ty := .array .int) (C := RX3) (T := TX3) (N := 4) S.1 S.2.1 S.2.2.2.2 (by decide +kernel) tyX3 tyX3_ok nmX3 S.2.2.2.1 hK hP hD hS hz (by omega) 0 rfl rfl 0 (by decide) (S.2.2.2.2 (.fieldLink RX3 9 "CakeDivision$Fairness" "cycle" "[I") (by decide +kernel)) (fun _ h9 => h9) rfl hin rfl (by decide +kernel) rfl rfl (Nat.le_of_ble_eq_true rfl) dX3_init_9 (fun H locs hP hD hS hz => ?_)
  have hP : va_P D vwCl [(o, .inr (2, [.ref (sz), .null, .null, .null])), (sz, .inl (cy 0, 6, .inl (fun _ => 0)))] H := hP
  have hD : va_D A [(o, .inr (2, [.ref (sz), .null, .null, .null])), (sz, .inl (cy 0, 6, .inl (fun _ => 0)))] := hD
  refine lv_aload_n S.1 S.2.1 dX3_init_12 rfl (lv_at hl 0 rfl) ?_
  refine lv_bipush (v := 6) S.1 S.2.1 dX3_init_13 (by decide) ?_
  refine kn_newa (atype := .int) (t0 := 0) (cA := cy 0) (ty := .int) (N' := 6) (a0 := (6, .inl (fun _ => 0))) S.1 S.2.1 (S.2.2.2.2 (.arrayClass .int) (by decide +kernel)) rfl hK rfl rfl hP hD hS hA (a := sz + 1) hz (fun _ => rfl) (by decide) (by decide) (by decide) (by decide) (by decide) dX3_init_15 (fun H hP hD hS hz => ?_)
  have hP : va_P D vwCl [(o, .inr (2, [.ref (sz), .null, .null, .null])), (sz, .inl (cy 0, 6, .inl (fun _ => 0))), (sz + 1, .inl (cy 0, 6, .inl (fun _ => 0)))] H := hP
  have hD : va_D A [(o, .inr (2, [.ref (sz), .null, .null, .null])), (sz, .inl (cy 0, 6, .inl (fun _ => 0))), (sz + 1, .inl (cy 0, 6, .inl (fun _ => 0)))] := hD
  have hz : H.size = sz + 2 := hz
  refine kn_putF (D := D) (ci := 2) (v := .ref (sz + 1)) (ty := .array .int) (C := RX3) (T := TX3) (N := 4) S.1 S.2.1 S.2.2.2.2 (by decide +kernel) tyX3 tyX3_ok nmX3 S.2.2.2.1 hK hP hD hS hz (by omega) 0 rfl rfl 1 (by decide) (S.2.2.2.2 (.fieldLink RX3 15 "CakeDivision$Fairness" "distances" "[I") (by decide +kernel)) (fun _ h9 => h9) rfl hin rfl (by decide +kernel) rfl rfl (Nat.le_of_ble_eq_true rfl) dX3_init_17 (fun H locs hP hD hS hz => ?_)
  have hP : va_P D vwCl [(o, .inr (2, [.ref (sz), .ref (sz + 1), .null, .null])), (sz, .inl (cy 0, 6, .inl (fun _ => 0))), (sz + 1, .inl (cy 0, 6, .inl (fun _ => 0)))] H := hP
  have hD : va_D A [(o, .inr (2, [.ref (sz), .ref (sz + 1), .null, .null])), (sz, .inl (cy 0, 6, .inl (fun _ => 0))), (sz + 1, .inl (cy 0, 6, .inl (fun _ => 0)))] := hD
  refine lv_aload_n S.1 S.2.1 dX3_init_20 rfl (lv_at hl 0 rfl) ?_
  refine lv_bipush (v := 36) S.1 S.2.1 dX3_init_21 (by decide) ?_
  refine kn_newa (atype := .int) (t0 := 0) (cA := cy 0) (ty := .int) (N' := 36) (a0 := (36, .inl (fun _ => 0))) S.1 S.2.1 (S.2.2.2.2 (.arrayClass .int) (by decide +kernel)) rfl hK rfl rfl hP hD hS hA (a := sz + 2) hz (fun _ => rfl) (by decide) (by decide) (by decide) (by decide) (by decide) dX3_init_23 (fun H hP hD hS hz => ?_)
  have hP : va_P D vwCl [(o, .inr (2, [.ref (sz), .ref (sz + 1), .null, .null])), (sz, .inl (cy 0, 6, .inl (fun _ => 0))), (sz + 1, .inl (cy 0, 6, .inl (fun _ => 0))), (sz + 2, .inl (cy 0, 36, .inl (fun _ => 0)))] H := hP
  have hD : va_D A [(o, .inr (2, [.ref (sz), .ref (sz + 1), .null, .null])), (sz, .inl (cy 0, 6, .inl (fun _ => 0))), (sz + 1, .inl (cy 0, 6, .inl (fun _ => 0))), (sz + 2, .inl (cy 0, 36, .inl (fun _ => 0)))] := hD
  have hz : H.size = sz + 3 := hz
  refine kn_putF (D := D) (ci := 2) (v := .ref (sz + 2)) (ty := .array .int) (C := RX3) (T := TX3) (N := 4) S.1 S.2.1 S.2.2.2.2 (by decide +kernel) tyX3 tyX3_ok nmX3 S.2.2.2.1 hK hP hD hS hz (by omega) 0 rfl rfl 2 (by decide) (S.2.2.2.2 (.fieldLink RX3 18 "CakeDivision$Fairness" "worths" "[I") (by decide +kernel)) (fun _ h9 => h9) rfl hin rfl (by decide +kernel) rfl rfl (Nat.le_of_ble_eq_true rfl) dX3_init_25 (fun H locs hP hD hS hz => ?_)
  have hP : va_P D vwCl [(o, .inr (2, [.ref (sz), .ref (sz + 1), .ref (sz + 2), .null])), (sz, .inl (cy 0, 6, .inl (fun _ => 0))), (sz + 1, .inl (cy 0, 6, .inl (fun _ => 0))), (sz + 2, .inl (cy 0, 36, .inl (fun _ => 0)))] H := hP
  have hD : va_D A [(o, .inr (2, [.ref (sz), .ref (sz + 1), .ref (sz + 2), .null])), (sz, .inl (cy 0, 6, .inl (fun _ => 0))), (sz + 1, .inl (cy 0, 6, .inl (fun _ => 0))), (sz + 2, .inl (cy 0, 36, .inl (fun _ => 0)))] := hD
  refine lv_aload_n S.1 S.2.1 dX3_init_28 rfl (lv_at hl 0 rfl) ?_
  refine lv_aload_n S.1 S.2.1 dX3_init_29 rfl (lv_at hl 1 rfl) ?_
  refine kn_putF (D := D) (ci := 2) (v := .ref r1) (ty := .object "CakeDivision$Cake") (C := RX3) (T := TX3) (N := 4) S.1 S.2.1 S.2.2.2.2 (by decide +kernel) tyX3 tyX3_ok nmX3 S.2.2.2.1 hK hP hD hS hz (by omega) 0 rfl rfl 3 (by decide) (S.2.2.2.2 (.fieldLink RX3 21 "CakeDivision$Fairness" "cake" "LCakeDivision$Cake;") (by decide +kernel)) (fun _ h9 => h9) rfl hin rfl (by decide +kernel) rfl rfl (Nat.le_of_ble_eq_true rfl) dX3_init_30 (fun H locs hP hD hS hz => ?_)
  have hP : va_P D vwCl [(o, .inr (2, [.ref (sz), .ref (sz + 1), .ref (sz + 2), .ref r1])), (sz, .inl (cy 0, 6, .inl (fun _ => 0))), (sz + 1, .inl (cy 0, 6, .inl (fun _ => 0))), (sz + 2, .inl (cy 0, 36, .inl (fun _ => 0)))] H := hP
  have hD : va_D A [(o, .inr (2, [.ref (sz), .ref (sz + 1), .ref (sz + 2), .ref r1])), (sz, .inl (cy 0, 6, .inl (fun _ => 0))), (sz + 1, .inl (cy 0, 6, .inl (fun _ => 0))), (sz + 2, .inl (cy 0, 36, .inl (fun _ => 0)))] := hD
  exact kn_ret S.1 S.2.1 hr hP hD hS hz dX3_init_33 (by decide) (by decide) hlocks
def mX6_init : cw_Me := (yX6_init, wsX6_init, cX6_init, 2, none, 1, 24)
theorem okX6_init : cw_ok mX6_init 1 := ⟨by decide +kernel, ⟨_, rfl⟩, by decide +kernel, by decide +kernel, by decide +kernel⟩
set_option maxHeartbeats 4000000 in
theorem knX6 {l : Launch} {D : va_G} {cy : Nat → ClassId} {o sz : Nat} {r1 : Nat} : kn_T l D cy mX6_init [.ref o, .ref r1] sz [(o, .inr (5, [.null, .null]))] 1 24 [(o, .inr (5, [.ref (sz), .ref r1])), (sz, .inl (cy 0, 24, .inl (fun _ => 0)))] := by
  refine kn_entry okX6_init (Nat.le_of_ble_eq_true rfl) rfl (fun p e s m below meth c ls A S hr hlocks hin hs0 hA hP hK hD hO hl => ?_)
  have hl : lv_has ls 2 [(0, .ref o), (1, .ref r1)] := hl
  have hS : va_S A s.heap s.heap [] := va_S.rf
  have hz : s.heap.size = sz := hs0
  refine lv_aload_n S.1 S.2.1 dX6_init_0 rfl (lv_at hl 0 rfl) ?_
  refine W.objInit S.1 S.2.1 S.2.2.2.1 (S.2.2.2.2 (.methodLink RX6 3 objectInit) (by decide +kernel)) (S.2.2.2.2 (.instanceMethod objectInit) (by decide +kernel)) (S.2.2.2.2 (.code objectInit ⟨#[0xb1]⟩ 1 none) (by decide +kernel)) rfl (hl.1.trans S.2.2.1.symm) rfl dX6_init_1 (Nat.le_of_ble_eq_true rfl) (Nat.le_of_ble_eq_true rfl) ?_
  refine W.eq (g2 := F0 m 4 ls []) rfl ?_
  refine lv_aload_n S.1 S.2.1 dX6_init_4 rfl (lv_at hl 0 rfl) ?_
  refine lv_bipush (v := 24) S.1 S.2.1 dX6_init_5 (by decide) ?_
  refine kn_newa (atype := .int) (t0 := 0) (cA := cy 0) (ty := .int) (N' := 24) (a0 := (24, .inl (fun _ => 0))) S.1 S.2.1 (S.2.2.2.2 (.arrayClass .int) (by decide +kernel)) rfl hK rfl rfl hP hD hS hA (a := sz) hz (fun _ => rfl) (by decide) (by decide) (by decide) (by decide) (by decide) dX6_init_7 (fun H hP hD hS hz => ?_)
  have hP : va_P D vwCl [(o, .inr (5, [.null, .null])), (sz, .inl (cy 0, 24, .inl (fun _ => 0)))] H := hP
  have hD : va_D A [(o, .inr (5, [.null, .null])), (sz, .inl (cy 0, 24, .inl (fun _ => 0)))] := hD
  have hz : H.size = sz + 1 := hz
  refine kn_putF (D := D) (ci := 5) (v := .ref (sz)) (ty := .array .int) (C := RX6) (T := TX6) (N := 2) S.1 S.2.1 S.2.2.2.2 (by decide +kernel) tyX6 tyX6_ok nmX6 S.2.2.2.1 hK hP hD hS hz (by omega) 0 rfl rfl 0 (by decide) (S.2.2.2.2 (.fieldLink RX6 9 "CakeDivision$Procedures" "trial" "[I") (by decide +kernel)) (fun _ h9 => h9) rfl hin rfl (by decide +kernel) rfl rfl (Nat.le_of_ble_eq_true rfl) dX6_init_9 (fun H locs hP hD hS hz => ?_)
  have hP : va_P D vwCl [(o, .inr (5, [.ref (sz), .null])), (sz, .inl (cy 0, 24, .inl (fun _ => 0)))] H := hP
  have hD : va_D A [(o, .inr (5, [.ref (sz), .null])), (sz, .inl (cy 0, 24, .inl (fun _ => 0)))] := hD
  refine lv_aload_n S.1 S.2.1 dX6_init_12 rfl (lv_at hl 0 rfl) ?_
  refine lv_aload_n S.1 S.2.1 dX6_init_13 rfl (lv_at hl 1 rfl) ?_
  refine kn_putF (D := D) (ci := 5) (v := .ref r1) (ty := .object "CakeDivision$Cake") (C := RX6) (T := TX6) (N := 2) S.1 S.2.1 S.2.2.2.2 (by decide +kernel) tyX6 tyX6_ok nmX6 S.2.2.2.1 hK hP hD hS hz (by omega) 0 rfl rfl 1 (by decide) (S.2.2.2.2 (.fieldLink RX6 15 "CakeDivision$Procedures" "cake" "LCakeDivision$Cake;") (by decide +kernel)) (fun _ h9 => h9) rfl hin rfl (by decide +kernel) rfl rfl (Nat.le_of_ble_eq_true rfl) dX6_init_14 (fun H locs hP hD hS hz => ?_)
  have hP : va_P D vwCl [(o, .inr (5, [.ref (sz), .ref r1])), (sz, .inl (cy 0, 24, .inl (fun _ => 0)))] H := hP
  have hD : va_D A [(o, .inr (5, [.ref (sz), .ref r1])), (sz, .inl (cy 0, 24, .inl (fun _ => 0)))] := hD
  exact kn_ret S.1 S.2.1 hr hP hD hS hz dX6_init_17 (by decide) (by decide) hlocks
def mX2_init : cw_Me := (yX2_init, wsX2_init, cX2_init, 2, none, 1, 24)
theorem okX2_init : cw_ok mX2_init 1 := ⟨by decide +kernel, ⟨_, rfl⟩, by decide +kernel, by decide +kernel, by decide +kernel⟩
set_option maxHeartbeats 4000000 in
theorem knX2 {l : Launch} {D : va_G} {cy : Nat → ClassId} {o sz : Nat} {r1 : Nat} : kn_T l D cy mX2_init [.ref o, .ref r1] sz [(o, .inr (1, [.null, .null, .null]))] 2 1664 [(o, .inr (1, [.ref (sz), .ref (sz + 1), .ref r1])), (sz, .inl (cy 0, 1600, .inl (fun _ => 0))), (sz + 1, .inl (cy 0, 64, .inl (fun _ => 0)))] := by
  refine kn_entry okX2_init (Nat.le_of_ble_eq_true rfl) rfl (fun p e s m below meth c ls A S hr hlocks hin hs0 hA hP hK hD hO hl => ?_)
  have hl : lv_has ls 2 [(0, .ref o), (1, .ref r1)] := hl
  have hS : va_S A s.heap s.heap [] := va_S.rf
  have hz : s.heap.size = sz := hs0
  refine lv_aload_n S.1 S.2.1 dX2_init_0 rfl (lv_at hl 0 rfl) ?_
  refine W.objInit S.1 S.2.1 S.2.2.2.1 (S.2.2.2.2 (.methodLink RX2 3 objectInit) (by decide +kernel)) (S.2.2.2.2 (.instanceMethod objectInit) (by decide +kernel)) (S.2.2.2.2 (.code objectInit ⟨#[0xb1]⟩ 1 none) (by decide +kernel)) rfl (hl.1.trans S.2.2.1.symm) rfl dX2_init_1 (Nat.le_of_ble_eq_true rfl) (Nat.le_of_ble_eq_true rfl) ?_
  refine W.eq (g2 := F0 m 4 ls []) rfl ?_
  refine lv_aload_n S.1 S.2.1 dX2_init_4 rfl (lv_at hl 0 rfl) ?_
  refine lv_sipush (v := 1600) S.1 S.2.1 dX2_init_5 (by decide) ?_
  refine kn_newa (atype := .int) (t0 := 0) (cA := cy 0) (ty := .int) (N' := 1600) (a0 := (1600, .inl (fun _ => 0))) S.1 S.2.1 (S.2.2.2.2 (.arrayClass .int) (by decide +kernel)) rfl hK rfl rfl hP hD hS hA (a := sz) hz (fun _ => rfl) (by decide) (by decide) (by decide) (by decide) (by decide) dX2_init_8 (fun H hP hD hS hz => ?_)
  have hP : va_P D vwCl [(o, .inr (1, [.null, .null, .null])), (sz, .inl (cy 0, 1600, .inl (fun _ => 0)))] H := hP
  have hD : va_D A [(o, .inr (1, [.null, .null, .null])), (sz, .inl (cy 0, 1600, .inl (fun _ => 0)))] := hD
  have hz : H.size = sz + 1 := hz
  refine kn_putF (D := D) (ci := 1) (v := .ref (sz)) (ty := .array .int) (C := RX2) (T := TX2) (N := 3) S.1 S.2.1 S.2.2.2.2 (by decide +kernel) tyX2 tyX2_ok nmX2 S.2.2.2.1 hK hP hD hS hz (by omega) 0 rfl rfl 0 (by decide) (S.2.2.2.2 (.fieldLink RX2 11 "CakeDivision$ContiguousDivisions" "greatestSums" "[I") (by decide +kernel)) (fun _ h9 => h9) rfl hin rfl (by decide +kernel) rfl rfl (Nat.le_of_ble_eq_true rfl) dX2_init_10 (fun H locs hP hD hS hz => ?_)
  have hP : va_P D vwCl [(o, .inr (1, [.ref (sz), .null, .null])), (sz, .inl (cy 0, 1600, .inl (fun _ => 0)))] H := hP
  have hD : va_D A [(o, .inr (1, [.ref (sz), .null, .null])), (sz, .inl (cy 0, 1600, .inl (fun _ => 0)))] := hD
  refine lv_aload_n S.1 S.2.1 dX2_init_13 rfl (lv_at hl 0 rfl) ?_
  refine lv_bipush (v := 64) S.1 S.2.1 dX2_init_14 (by decide) ?_
  refine kn_newa (atype := .int) (t0 := 0) (cA := cy 0) (ty := .int) (N' := 64) (a0 := (64, .inl (fun _ => 0))) S.1 S.2.1 (S.2.2.2.2 (.arrayClass .int) (by decide +kernel)) rfl hK rfl rfl hP hD hS hA (a := sz + 1) hz (fun _ => rfl) (by decide) (by decide) (by decide) (by decide) (by decide) dX2_init_16 (fun H hP hD hS hz => ?_)
  have hP : va_P D vwCl [(o, .inr (1, [.ref (sz), .null, .null])), (sz, .inl (cy 0, 1600, .inl (fun _ => 0))), (sz + 1, .inl (cy 0, 64, .inl (fun _ => 0)))] H := hP
  have hD : va_D A [(o, .inr (1, [.ref (sz), .null, .null])), (sz, .inl (cy 0, 1600, .inl (fun _ => 0))), (sz + 1, .inl (cy 0, 64, .inl (fun _ => 0)))] := hD
  have hz : H.size = sz + 2 := hz
  refine kn_putF (D := D) (ci := 1) (v := .ref (sz + 1)) (ty := .array .int) (C := RX2) (T := TX2) (N := 3) S.1 S.2.1 S.2.2.2.2 (by decide +kernel) tyX2 tyX2_ok nmX2 S.2.2.2.1 hK hP hD hS hz (by omega) 0 rfl rfl 1 (by decide) (S.2.2.2.2 (.fieldLink RX2 15 "CakeDivision$ContiguousDivisions" "leastEnds" "[I") (by decide +kernel)) (fun _ h9 => h9) rfl hin rfl (by decide +kernel) rfl rfl (Nat.le_of_ble_eq_true rfl) dX2_init_18 (fun H locs hP hD hS hz => ?_)
  have hP : va_P D vwCl [(o, .inr (1, [.ref (sz), .ref (sz + 1), .null])), (sz, .inl (cy 0, 1600, .inl (fun _ => 0))), (sz + 1, .inl (cy 0, 64, .inl (fun _ => 0)))] H := hP
  have hD : va_D A [(o, .inr (1, [.ref (sz), .ref (sz + 1), .null])), (sz, .inl (cy 0, 1600, .inl (fun _ => 0))), (sz + 1, .inl (cy 0, 64, .inl (fun _ => 0)))] := hD
  refine lv_aload_n S.1 S.2.1 dX2_init_21 rfl (lv_at hl 0 rfl) ?_
  refine lv_aload_n S.1 S.2.1 dX2_init_22 rfl (lv_at hl 1 rfl) ?_
  refine kn_putF (D := D) (ci := 1) (v := .ref r1) (ty := .object "CakeDivision$Cake") (C := RX2) (T := TX2) (N := 3) S.1 S.2.1 S.2.2.2.2 (by decide +kernel) tyX2 tyX2_ok nmX2 S.2.2.2.1 hK hP hD hS hz (by omega) 0 rfl rfl 2 (by decide) (S.2.2.2.2 (.fieldLink RX2 18 "CakeDivision$ContiguousDivisions" "cake" "LCakeDivision$Cake;") (by decide +kernel)) (fun _ h9 => h9) rfl hin rfl (by decide +kernel) rfl rfl (Nat.le_of_ble_eq_true rfl) dX2_init_23 (fun H locs hP hD hS hz => ?_)
  have hP : va_P D vwCl [(o, .inr (1, [.ref (sz), .ref (sz + 1), .ref r1])), (sz, .inl (cy 0, 1600, .inl (fun _ => 0))), (sz + 1, .inl (cy 0, 64, .inl (fun _ => 0)))] H := hP
  have hD : va_D A [(o, .inr (1, [.ref (sz), .ref (sz + 1), .ref r1])), (sz, .inl (cy 0, 1600, .inl (fun _ => 0))), (sz + 1, .inl (cy 0, 64, .inl (fun _ => 0)))] := hD
  exact kn_ret S.1 S.2.1 hr hP hD hS hz dX2_init_26 (by decide) (by decide) hlocks
def mX7_init : cw_Me := (yX7_init, wsX7_init, cX7_init, 4, none, 1, 24)
theorem okX7_init : cw_ok mX7_init 3 := ⟨by decide +kernel, ⟨_, rfl⟩, by decide +kernel, by decide +kernel, by decide +kernel⟩
set_option maxHeartbeats 4000000 in
theorem knX7 {l : Launch} {D : va_G} {cy : Nat → ClassId} {o sz : Nat} {r1 : Nat} {r2 : Nat} {r3 : Nat} : kn_T l D cy mX7_init [.ref o, .ref r1, .ref r2, .ref r3] sz [(o, .inr (6, [.int 0, .null, .null, .null, .null, .null]))] 2 120 [(o, .inr (6, [.int 0, .ref (sz), .ref (sz + 1), .ref r1, .ref r2, .ref r3])), (sz, .inl (cy 2, 30, .inr (.inr (.inr (.inr (fun _ => none)))))), (sz + 1, .inl (cy 0, 90, .inl (fun _ => 0)))] := by
  refine kn_entry okX7_init (Nat.le_of_ble_eq_true rfl) rfl (fun p e s m below meth c ls A S hr hlocks hin hs0 hA hP hK hD hO hl => ?_)
  have hl : lv_has ls 4 [(0, .ref o), (1, .ref r1), (2, .ref r2), (3, .ref r3)] := hl
  have hS : va_S A s.heap s.heap [] := va_S.rf
  have hz : s.heap.size = sz := hs0
  refine lv_aload_n S.1 S.2.1 dX7_init_0 rfl (lv_at hl 0 rfl) ?_
  refine W.objInit S.1 S.2.1 S.2.2.2.1 (S.2.2.2.2 (.methodLink RX7 3 objectInit) (by decide +kernel)) (S.2.2.2.2 (.instanceMethod objectInit) (by decide +kernel)) (S.2.2.2.2 (.code objectInit ⟨#[0xb1]⟩ 1 none) (by decide +kernel)) rfl (hl.1.trans S.2.2.1.symm) rfl dX7_init_1 (Nat.le_of_ble_eq_true rfl) (Nat.le_of_ble_eq_true rfl) ?_
  refine W.eq (g2 := F0 m 4 ls []) rfl ?_
  refine lv_aload_n S.1 S.2.1 dX7_init_4 rfl (lv_at hl 0 rfl) ?_
  refine lv_bipush (v := 30) S.1 S.2.1 dX7_init_5 (by decide) ?_
  refine kn_newq (t0 := 2) (cA := cy 2) (N' := 30) S.1 S.2.1 S.2.2.2.1 (S.2.2.2.2 (.classLink RX7 9 RX9) (by decide +kernel)) hO hK rfl hP hD hS hA (a := sz) hz (by decide) (by decide) (by decide) (by decide) (by decide) dX7_init_7 (fun H hP hD hS hz => ?_)
  have hP : va_P D vwCl [(o, .inr (6, [.int 0, .null, .null, .null, .null, .null])), (sz, .inl (cy 2, 30, .inr (.inr (.inr (.inr (fun _ => none))))))] H := hP
  have hD : va_D A [(o, .inr (6, [.int 0, .null, .null, .null, .null, .null])), (sz, .inl (cy 2, 30, .inr (.inr (.inr (.inr (fun _ => none))))))] := hD
  have hz : H.size = sz + 1 := hz
  refine kn_putF (D := D) (ci := 6) (v := .ref (sz)) (ty := .array (.object "CakeDivision$Verb")) (C := RX7) (T := TX7) (N := 6) S.1 S.2.1 S.2.2.2.2 (by decide +kernel) tyX7 tyX7_ok nmX7 S.2.2.2.1 hK hP hD hS hz (by omega) 0 rfl rfl 1 (by decide) (S.2.2.2.2 (.fieldLink RX7 11 "CakeDivision$Script" "verbs" "[LCakeDivision$Verb;") (by decide +kernel)) (fun _ h9 => h9) rfl hin rfl (by decide +kernel) rfl rfl (Nat.le_of_ble_eq_true rfl) dX7_init_10 (fun H locs hP hD hS hz => ?_)
  have hP : va_P D vwCl [(o, .inr (6, [.int 0, .ref (sz), .null, .null, .null, .null])), (sz, .inl (cy 2, 30, .inr (.inr (.inr (.inr (fun _ => none))))))] H := hP
  have hD : va_D A [(o, .inr (6, [.int 0, .ref (sz), .null, .null, .null, .null])), (sz, .inl (cy 2, 30, .inr (.inr (.inr (.inr (fun _ => none))))))] := hD
  refine lv_aload_n S.1 S.2.1 dX7_init_13 rfl (lv_at hl 0 rfl) ?_
  refine lv_bipush (v := 90) S.1 S.2.1 dX7_init_14 (by decide) ?_
  refine kn_newa (atype := .int) (t0 := 0) (cA := cy 0) (ty := .int) (N' := 90) (a0 := (90, .inl (fun _ => 0))) S.1 S.2.1 (S.2.2.2.2 (.arrayClass .int) (by decide +kernel)) rfl hK rfl rfl hP hD hS hA (a := sz + 1) hz (fun _ => rfl) (by decide) (by decide) (by decide) (by decide) (by decide) dX7_init_16 (fun H hP hD hS hz => ?_)
  have hP : va_P D vwCl [(o, .inr (6, [.int 0, .ref (sz), .null, .null, .null, .null])), (sz, .inl (cy 2, 30, .inr (.inr (.inr (.inr (fun _ => none)))))), (sz + 1, .inl (cy 0, 90, .inl (fun _ => 0)))] H := hP
  have hD : va_D A [(o, .inr (6, [.int 0, .ref (sz), .null, .null, .null, .null])), (sz, .inl (cy 2, 30, .inr (.inr (.inr (.inr (fun _ => none)))))), (sz + 1, .inl (cy 0, 90, .inl (fun _ => 0)))] := hD
  have hz : H.size = sz + 2 := hz
  refine kn_putF (D := D) (ci := 6) (v := .ref (sz + 1)) (ty := .array .int) (C := RX7) (T := TX7) (N := 6) S.1 S.2.1 S.2.2.2.2 (by decide +kernel) tyX7 tyX7_ok nmX7 S.2.2.2.1 hK hP hD hS hz (by omega) 0 rfl rfl 2 (by decide) (S.2.2.2.2 (.fieldLink RX7 17 "CakeDivision$Script" "arguments" "[I") (by decide +kernel)) (fun _ h9 => h9) rfl hin rfl (by decide +kernel) rfl rfl (Nat.le_of_ble_eq_true rfl) dX7_init_18 (fun H locs hP hD hS hz => ?_)
  have hP : va_P D vwCl [(o, .inr (6, [.int 0, .ref (sz), .ref (sz + 1), .null, .null, .null])), (sz, .inl (cy 2, 30, .inr (.inr (.inr (.inr (fun _ => none)))))), (sz + 1, .inl (cy 0, 90, .inl (fun _ => 0)))] H := hP
  have hD : va_D A [(o, .inr (6, [.int 0, .ref (sz), .ref (sz + 1), .null, .null, .null])), (sz, .inl (cy 2, 30, .inr (.inr (.inr (.inr (fun _ => none)))))), (sz + 1, .inl (cy 0, 90, .inl (fun _ => 0)))] := hD
  refine lv_aload_n S.1 S.2.1 dX7_init_21 rfl (lv_at hl 0 rfl) ?_
  refine lv_aload_n S.1 S.2.1 dX7_init_22 rfl (lv_at hl 1 rfl) ?_
  refine kn_putF (D := D) (ci := 6) (v := .ref r1) (ty := .object "CakeDivision$Cake") (C := RX7) (T := TX7) (N := 6) S.1 S.2.1 S.2.2.2.2 (by decide +kernel) tyX7 tyX7_ok nmX7 S.2.2.2.1 hK hP hD hS hz (by omega) 0 rfl rfl 3 (by decide) (S.2.2.2.2 (.fieldLink RX7 21 "CakeDivision$Script" "cake" "LCakeDivision$Cake;") (by decide +kernel)) (fun _ h9 => h9) rfl hin rfl (by decide +kernel) rfl rfl (Nat.le_of_ble_eq_true rfl) dX7_init_23 (fun H locs hP hD hS hz => ?_)
  have hP : va_P D vwCl [(o, .inr (6, [.int 0, .ref (sz), .ref (sz + 1), .ref r1, .null, .null])), (sz, .inl (cy 2, 30, .inr (.inr (.inr (.inr (fun _ => none)))))), (sz + 1, .inl (cy 0, 90, .inl (fun _ => 0)))] H := hP
  have hD : va_D A [(o, .inr (6, [.int 0, .ref (sz), .ref (sz + 1), .ref r1, .null, .null])), (sz, .inl (cy 2, 30, .inr (.inr (.inr (.inr (fun _ => none)))))), (sz + 1, .inl (cy 0, 90, .inl (fun _ => 0)))] := hD
  refine lv_aload_n S.1 S.2.1 dX7_init_26 rfl (lv_at hl 0 rfl) ?_
  refine lv_aload_n S.1 S.2.1 dX7_init_27 rfl (lv_at hl 2 rfl) ?_
  refine kn_putF (D := D) (ci := 6) (v := .ref r2) (ty := .object "CakeDivision$Fairness") (C := RX7) (T := TX7) (N := 6) S.1 S.2.1 S.2.2.2.2 (by decide +kernel) tyX7 tyX7_ok nmX7 S.2.2.2.1 hK hP hD hS hz (by omega) 0 rfl rfl 4 (by decide) (S.2.2.2.2 (.fieldLink RX7 25 "CakeDivision$Script" "fairness" "LCakeDivision$Fairness;") (by decide +kernel)) (fun _ h9 => h9) rfl hin rfl (by decide +kernel) rfl rfl (Nat.le_of_ble_eq_true rfl) dX7_init_28 (fun H locs hP hD hS hz => ?_)
  have hP : va_P D vwCl [(o, .inr (6, [.int 0, .ref (sz), .ref (sz + 1), .ref r1, .ref r2, .null])), (sz, .inl (cy 2, 30, .inr (.inr (.inr (.inr (fun _ => none)))))), (sz + 1, .inl (cy 0, 90, .inl (fun _ => 0)))] H := hP
  have hD : va_D A [(o, .inr (6, [.int 0, .ref (sz), .ref (sz + 1), .ref r1, .ref r2, .null])), (sz, .inl (cy 2, 30, .inr (.inr (.inr (.inr (fun _ => none)))))), (sz + 1, .inl (cy 0, 90, .inl (fun _ => 0)))] := hD
  refine lv_aload_n S.1 S.2.1 dX7_init_31 rfl (lv_at hl 0 rfl) ?_
  refine lv_aload_n S.1 S.2.1 dX7_init_32 rfl (lv_at hl 3 rfl) ?_
  refine kn_putF (D := D) (ci := 6) (v := .ref r3) (ty := .object "CakeDivision$Procedures") (C := RX7) (T := TX7) (N := 6) S.1 S.2.1 S.2.2.2.2 (by decide +kernel) tyX7 tyX7_ok nmX7 S.2.2.2.1 hK hP hD hS hz (by omega) 0 rfl rfl 5 (by decide) (S.2.2.2.2 (.fieldLink RX7 29 "CakeDivision$Script" "procedures" "LCakeDivision$Procedures;") (by decide +kernel)) (fun _ h9 => h9) rfl hin rfl (by decide +kernel) rfl rfl (Nat.le_of_ble_eq_true rfl) dX7_init_33 (fun H locs hP hD hS hz => ?_)
  have hP : va_P D vwCl [(o, .inr (6, [.int 0, .ref (sz), .ref (sz + 1), .ref r1, .ref r2, .ref r3])), (sz, .inl (cy 2, 30, .inr (.inr (.inr (.inr (fun _ => none)))))), (sz + 1, .inl (cy 0, 90, .inl (fun _ => 0)))] H := hP
  have hD : va_D A [(o, .inr (6, [.int 0, .ref (sz), .ref (sz + 1), .ref r1, .ref r2, .ref r3])), (sz, .inl (cy 2, 30, .inr (.inr (.inr (.inr (fun _ => none)))))), (sz + 1, .inl (cy 0, 90, .inl (fun _ => 0)))] := hD
  exact kn_ret S.1 S.2.1 hr hP hD hS hz dX7_init_36 (by decide) (by decide) hlocks
def mX4_init : cw_Me := (yX4_init, wsX4_init, cX4_init, 1, none, 1, 24)
theorem okX4_init : cw_ok mX4_init 0 := ⟨by decide +kernel, ⟨_, rfl⟩, by decide +kernel, by decide +kernel, by decide +kernel⟩
set_option maxHeartbeats 4000000 in
theorem knX4 {l : Launch} {D : va_G} {cy : Nat → ClassId} {o sz : Nat} : kn_T l D cy mX4_init [.ref o] sz [(o, .inr (3, [.int 0, .null, .int 0, .null, .null]))] 3 1346 [(o, .inr (3, [.int 0, .ref (sz), .int 0, .ref (sz + 1), .ref (sz + 2)])), (sz, .inl (cy 1, 2, .inl (fun _ => 0))), (sz + 1, .inl (cy 0, 192, .inl (fun _ => 0))), (sz + 2, .inl (cy 0, 1152, .inl (fun _ => 0)))] := by
  refine kn_entry okX4_init (Nat.le_of_ble_eq_true rfl) rfl (fun p e s m below meth c ls A S hr hlocks hin hs0 hA hP hK hD hO hl => ?_)
  have hl : lv_has ls 1 [(0, .ref o)] := hl
  have hS : va_S A s.heap s.heap [] := va_S.rf
  have hz : s.heap.size = sz := hs0
  refine lv_aload_n S.1 S.2.1 dX4_init_0 rfl (lv_at hl 0 rfl) ?_
  refine W.objInit S.1 S.2.1 S.2.2.2.1 (S.2.2.2.2 (.methodLink RX4 3 objectInit) (by decide +kernel)) (S.2.2.2.2 (.instanceMethod objectInit) (by decide +kernel)) (S.2.2.2.2 (.code objectInit ⟨#[0xb1]⟩ 1 none) (by decide +kernel)) rfl (hl.1.trans S.2.2.1.symm) rfl dX4_init_1 (Nat.le_of_ble_eq_true rfl) (Nat.le_of_ble_eq_true rfl) ?_
  refine W.eq (g2 := F0 m 4 ls []) rfl ?_
  refine lv_aload_n S.1 S.2.1 dX4_init_4 rfl (lv_at hl 0 rfl) ?_
  refine lv_iconst (v := 2) S.1 S.2.1 dX4_init_5 (by decide) ?_
  refine kn_newa (atype := .boolean) (t0 := 1) (cA := cy 1) (ty := .boolean) (N' := 2) (a0 := (2, .inl (fun _ => 0))) S.1 S.2.1 (S.2.2.2.2 (.arrayClass .boolean) (by decide +kernel)) rfl hK rfl rfl hP hD hS hA (a := sz) hz (fun _ => rfl) (by decide) (by decide) (by decide) (by decide) (by decide) dX4_init_6 (fun H hP hD hS hz => ?_)
  have hP : va_P D vwCl [(o, .inr (3, [.int 0, .null, .int 0, .null, .null])), (sz, .inl (cy 1, 2, .inl (fun _ => 0)))] H := hP
  have hD : va_D A [(o, .inr (3, [.int 0, .null, .int 0, .null, .null])), (sz, .inl (cy 1, 2, .inl (fun _ => 0)))] := hD
  have hz : H.size = sz + 1 := hz
  refine kn_putF (D := D) (ci := 3) (v := .ref (sz)) (ty := .array .boolean) (C := RX4) (T := TX4) (N := 5) S.1 S.2.1 S.2.2.2.2 (by decide +kernel) tyX4 tyX4_ok nmX4 S.2.2.2.1 hK hP hD hS hz (by omega) 0 rfl rfl 1 (by decide) (S.2.2.2.2 (.fieldLink RX4 9 "CakeDivision$Memory" "saved" "[Z") (by decide +kernel)) (fun _ h9 => h9) rfl hin rfl (by decide +kernel) rfl rfl (Nat.le_of_ble_eq_true rfl) dX4_init_8 (fun H locs hP hD hS hz => ?_)
  have hP : va_P D vwCl [(o, .inr (3, [.int 0, .ref (sz), .int 0, .null, .null])), (sz, .inl (cy 1, 2, .inl (fun _ => 0)))] H := hP
  have hD : va_D A [(o, .inr (3, [.int 0, .ref (sz), .int 0, .null, .null])), (sz, .inl (cy 1, 2, .inl (fun _ => 0)))] := hD
  refine lv_aload_n S.1 S.2.1 dX4_init_11 rfl (lv_at hl 0 rfl) ?_
  refine lv_sipush (v := 192) S.1 S.2.1 dX4_init_12 (by decide) ?_
  refine kn_newa (atype := .int) (t0 := 0) (cA := cy 0) (ty := .int) (N' := 192) (a0 := (192, .inl (fun _ => 0))) S.1 S.2.1 (S.2.2.2.2 (.arrayClass .int) (by decide +kernel)) rfl hK rfl rfl hP hD hS hA (a := sz + 1) hz (fun _ => rfl) (by decide) (by decide) (by decide) (by decide) (by decide) dX4_init_15 (fun H hP hD hS hz => ?_)
  have hP : va_P D vwCl [(o, .inr (3, [.int 0, .ref (sz), .int 0, .null, .null])), (sz, .inl (cy 1, 2, .inl (fun _ => 0))), (sz + 1, .inl (cy 0, 192, .inl (fun _ => 0)))] H := hP
  have hD : va_D A [(o, .inr (3, [.int 0, .ref (sz), .int 0, .null, .null])), (sz, .inl (cy 1, 2, .inl (fun _ => 0))), (sz + 1, .inl (cy 0, 192, .inl (fun _ => 0)))] := hD
  have hz : H.size = sz + 2 := hz
  refine kn_putF (D := D) (ci := 3) (v := .ref (sz + 1)) (ty := .array .int) (C := RX4) (T := TX4) (N := 5) S.1 S.2.1 S.2.2.2.2 (by decide +kernel) tyX4 tyX4_ok nmX4 S.2.2.2.1 hK hP hD hS hz (by omega) 0 rfl rfl 3 (by decide) (S.2.2.2.2 (.fieldLink RX4 15 "CakeDivision$Memory" "owners" "[I") (by decide +kernel)) (fun _ h9 => h9) rfl hin rfl (by decide +kernel) rfl rfl (Nat.le_of_ble_eq_true rfl) dX4_init_17 (fun H locs hP hD hS hz => ?_)
  have hP : va_P D vwCl [(o, .inr (3, [.int 0, .ref (sz), .int 0, .ref (sz + 1), .null])), (sz, .inl (cy 1, 2, .inl (fun _ => 0))), (sz + 1, .inl (cy 0, 192, .inl (fun _ => 0)))] H := hP
  have hD : va_D A [(o, .inr (3, [.int 0, .ref (sz), .int 0, .ref (sz + 1), .null])), (sz, .inl (cy 1, 2, .inl (fun _ => 0))), (sz + 1, .inl (cy 0, 192, .inl (fun _ => 0)))] := hD
  refine lv_aload_n S.1 S.2.1 dX4_init_20 rfl (lv_at hl 0 rfl) ?_
  refine lv_sipush (v := 1152) S.1 S.2.1 dX4_init_21 (by decide) ?_
  refine kn_newa (atype := .int) (t0 := 0) (cA := cy 0) (ty := .int) (N' := 1152) (a0 := (1152, .inl (fun _ => 0))) S.1 S.2.1 (S.2.2.2.2 (.arrayClass .int) (by decide +kernel)) rfl hK rfl rfl hP hD hS hA (a := sz + 2) hz (fun _ => rfl) (by decide) (by decide) (by decide) (by decide) (by decide) dX4_init_24 (fun H hP hD hS hz => ?_)
  have hP : va_P D vwCl [(o, .inr (3, [.int 0, .ref (sz), .int 0, .ref (sz + 1), .null])), (sz, .inl (cy 1, 2, .inl (fun _ => 0))), (sz + 1, .inl (cy 0, 192, .inl (fun _ => 0))), (sz + 2, .inl (cy 0, 1152, .inl (fun _ => 0)))] H := hP
  have hD : va_D A [(o, .inr (3, [.int 0, .ref (sz), .int 0, .ref (sz + 1), .null])), (sz, .inl (cy 1, 2, .inl (fun _ => 0))), (sz + 1, .inl (cy 0, 192, .inl (fun _ => 0))), (sz + 2, .inl (cy 0, 1152, .inl (fun _ => 0)))] := hD
  have hz : H.size = sz + 3 := hz
  refine kn_putF (D := D) (ci := 3) (v := .ref (sz + 2)) (ty := .array .int) (C := RX4) (T := TX4) (N := 5) S.1 S.2.1 S.2.2.2.2 (by decide +kernel) tyX4 tyX4_ok nmX4 S.2.2.2.1 hK hP hD hS hz (by omega) 0 rfl rfl 4 (by decide) (S.2.2.2.2 (.fieldLink RX4 19 "CakeDivision$Memory" "values" "[I") (by decide +kernel)) (fun _ h9 => h9) rfl hin rfl (by decide +kernel) rfl rfl (Nat.le_of_ble_eq_true rfl) dX4_init_26 (fun H locs hP hD hS hz => ?_)
  have hP : va_P D vwCl [(o, .inr (3, [.int 0, .ref (sz), .int 0, .ref (sz + 1), .ref (sz + 2)])), (sz, .inl (cy 1, 2, .inl (fun _ => 0))), (sz + 1, .inl (cy 0, 192, .inl (fun _ => 0))), (sz + 2, .inl (cy 0, 1152, .inl (fun _ => 0)))] H := hP
  have hD : va_D A [(o, .inr (3, [.int 0, .ref (sz), .int 0, .ref (sz + 1), .ref (sz + 2)])), (sz, .inl (cy 1, 2, .inl (fun _ => 0))), (sz + 1, .inl (cy 0, 192, .inl (fun _ => 0))), (sz + 2, .inl (cy 0, 1152, .inl (fun _ => 0)))] := hD
  exact kn_ret S.1 S.2.1 hr hP hD hS hz dX4_init_29 (by decide) (by decide) hlocks
