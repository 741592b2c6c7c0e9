/-! MY LAYER. A method's own world stands whole at fixed addresses; all that may change in it is one function of ints (object or array, place). cw_B: 'from this place in the method, with these locals, this stack, these ints, the method comes to the end that Z names'. cw_C: a method's contract. One row an instruction. -/
abbrev cw_M : Type := Nat → Nat → Int32
def cw_up (I : cw_M) (k : Nat) (f : Nat → Int32) : cw_M := fun j => if j = k then f else I j
abbrev cw_st (I : cw_M) (k i : Nat) (v : Int32) : cw_M := cw_up I k (upd (I k) i v)
def cw_wd (ad : Nat → Nat) (en : Nat → (Nat → Int32) → va_E) (n : Nat) (I : cw_M) : va_W := (List.range n).map (fun k => (ad k, en k (I k)))
def cw_A (ad : Nat → Nat) (n sz : Nat) : Nat → Prop := fun q => (∃ k : Nat, k < n ∧ q = ad k) ∨ sz ≤ q
def cw_inj (ad : Nat → Nat) (n : Nat) : Prop := ∀ i j : Nat, i < n → j < n → ad i = ad j → i = j
abbrev cw_F : Type := (Nat → Prop) → State → Heap → Prop
/-- what is known of cells that nobody writes -/
def cw_Fok (F : cw_F) : Prop := (∀ (A : Nat → Prop) (u U : State) (H : Heap), u.WarmedH U.vm → F A u H → F A U H) ∧ (∀ (A : Nat → Prop) (U : State) (H H1 : Heap), F A U H → H.size ≤ H1.size → (∀ a : Nat, a < H.size → ¬ A a → H1[a]? = H[a]?) → F A U H1) ∧ (∀ (A B : Nat → Prop) (U : State) (H : Heap), F A U H → (∀ q, B q → A q) → F B U H)
theorem cw_wd_get {ad : Nat → Nat} {en : Nat → (Nat → Int32) → va_E} {n k : Nat} {I : cw_M} (h : k < n) : (cw_wd ad en n I)[k]? = some (ad k, en k (I k)) := by
  simp [cw_wd, h]
theorem cw_wd_set {ad : Nat → Nat} {en : Nat → (Nat → Int32) → va_E} {n k : Nat} {I : cw_M} {f : Nat → Int32} (h : k < n) : (cw_wd ad en n I).set k (ad k, en k f) = cw_wd ad en n (cw_up I k f) := by
  apply List.ext_getElem?
  intro i
  by_cases hi : i = k
  · subst hi
    rw [List.getElem?_set_self (by simp [cw_wd, h])]
    simp [cw_wd, h, cw_up]
  · rw [List.getElem?_set_ne (fun q => hi q.symm)]
    simp only [cw_wd, List.getElem?_map]
    cases hr : (List.range n)[i]? with
    | none => rfl
    | some j =>
      obtain ⟨h1, h2⟩ := List.getElem?_eq_some_iff.mp hr
      have hj : j = i := by simpa using h2.symm
      subst hj
      simp [cw_up, hi]
theorem cw_D {ad : Nat → Nat} {en : Nat → (Nat → Int32) → va_E} {n sz : Nat} {I : cw_M} (h : cw_inj ad n) : va_D (cw_A ad n sz) (cw_wd ad en n I) := by
  have key : ∀ (k : Nat) (q : Nat × va_E), (cw_wd ad en n I)[k]? = some q → k < n ∧ q.1 = ad k := by
    intro k q hq
    have hk : k < n := by
      have := (List.getElem?_eq_some_iff.mp hq).1
      simpa [cw_wd] using this
    rw [cw_wd_get hk] at hq
    cases hq
    exact ⟨hk, rfl⟩
  refine ⟨fun i j x y hi hj hxy => ?_, fun k q hk => ?_⟩
  · obtain ⟨a1, a2⟩ := key i x hi
    obtain ⟨b1, b2⟩ := key j y hj
    exact h i j a1 b1 (by rw [← a2, ← b2]; exact hxy)
  · obtain ⟨a1, a2⟩ := key k q hk
    exact Or.inl ⟨k, a1, a2⟩
/-- a world: launch, classes, array classes, addresses, cells, how many, facts -/
abbrev cw_G : Type := Launch × va_G × List (ClassId × FieldType) × (Nat → Nat) × (Nat → (Nat → Int32) → va_E) × Nat × cw_F
abbrev cw_l (w : cw_G) : Launch := w.1
abbrev cw_d (w : cw_G) : va_G := w.2.1
abbrev cw_t (w : cw_G) : List (ClassId × FieldType) := w.2.2.1
abbrev cw_a (w : cw_G) : Nat → Nat := w.2.2.2.1
abbrev cw_e (w : cw_G) : Nat → (Nat → Int32) → va_E := w.2.2.2.2.1
abbrev cw_n (w : cw_G) : Nat := w.2.2.2.2.2.1
abbrev cw_f (w : cw_G) : cw_F := w.2.2.2.2.2.2
abbrev cw_W (w : cw_G) (I : cw_M) : va_W := cw_wd (cw_a w) (cw_e w) (cw_n w) I
abbrev cw_own (w : cw_G) (sz : Nat) : Nat → Prop := cw_A (cw_a w) (cw_n w) sz
/-- a method: name, words, code, locals, answer, frames below it, room of its locals -/
abbrev cw_Me : Type := MethodName × List Cond × ByteArray × Nat × Option FieldType × Nat × Nat
abbrev cw_y (M : cw_Me) : MethodName := M.1
abbrev cw_w (M : cw_Me) : List Cond := M.2.1
abbrev cw_c (M : cw_Me) : ByteArray := M.2.2.1
abbrev cw_k (M : cw_Me) : Nat := M.2.2.2.1
abbrev cw_r (M : cw_Me) : Option FieldType := M.2.2.2.2.1
abbrev cw_fr (M : cw_Me) : Nat := M.2.2.2.2.2.1
abbrev cw_lo (M : cw_Me) : Nat := M.2.2.2.2.2.2
abbrev cw_R (M : cw_Me) (mc ms : Nat) : Room := { frames := cw_fr M, cells := mc, slots := ms, locals := cw_lo M }
/-- a method's fixed facts: its words begin with its code, its name, how many arguments -/
def cw_ok (M : cw_Me) (n : Nat) : Prop := plainName (cw_y M).cls = true ∧ (∃ ws', cw_w M = Cond.code (cw_y M) (cw_c M) (cw_k M) (cw_r M) :: ws') ∧ (cw_y M).cls ≠ "java/lang/invoke/MethodHandle" ∧ (cw_y M).cls ≠ "java/lang/invoke/VarHandle" ∧ (parseMethodDescriptor (cw_y M).desc).map (fun d => d.parameters.length) = some n
/-- the cells of w0 are the first cells of w -/
def cw_le (w0 w : cw_G) : Prop := cw_l w0 = cw_l w ∧ cw_d w0 = cw_d w ∧ cw_t w0 = cw_t w ∧ cw_n w0 ≤ cw_n w ∧ (∀ k, k < cw_n w0 → cw_a w0 k = cw_a w k) ∧ (∀ k, k < cw_n w0 → cw_e w0 k = cw_e w k) ∧ (∀ (A : Nat → Prop) (U : State) (H : Heap), cw_f w A U H → cw_f w0 A U H)
theorem cw_le.rfl {w : cw_G} : cw_le w w := ⟨Eq.refl _, Eq.refl _, Eq.refl _, Nat.le_refl _, fun _ _ => Eq.refl _, fun _ _ => Eq.refl _, fun _ _ _ h => h⟩
theorem cw_le.P {w0 w : cw_G} {I : cw_M} {H : Heap} (h : cw_le w0 w) (hP : va_P (cw_d w) vwCl (cw_W w I) H) : va_P (cw_d w0) vwCl (cw_W w0 I) H := by
  obtain ⟨-, h2, -, h4, h5, h6, -⟩ := h
  intro k q hq
  have hk : k < cw_n w0 := by
    have := (List.getElem?_eq_some_iff.mp hq).1
    simpa [cw_wd] using this
  rw [cw_wd_get hk] at hq
  cases hq
  have h9 := hP k (cw_a w k, cw_e w k (I k)) (cw_wd_get (Nat.lt_of_lt_of_le hk h4))
  rw [h2, h5 k hk, h6 k hk]
  exact h9
def cw_X (w w0 : cw_G) (M : cw_Me) (mc ms uc us : Nat) (p : Program) (s : State) (m : MethodId) (args : Array Value) (meth : Method) (c : Code) : Prop :=
  CallFix p m c (cw_c M) (cw_k M) s args (cw_w M) (cw_y M).cls ∧ meth.sig.returnType = cw_r M ∧ meth.locks = false ∧ va_K (cw_d w) vwCl (cw_t w) s ∧ cw_inj (cw_a w) (cw_n w) ∧ cw_f w (cw_own w0 s.heap.size) s s.heap ∧ cw_Fok (cw_f w) ∧ ((cw_y M).name = "<init>" → meth.name = (cw_y M).name) ∧ (∀ k, k < cw_n w → cw_own w0 s.heap.size (cw_a w k)) ∧ uc ≤ mc ∧ us ≤ ms
theorem cw_DA {ad : Nat → Nat} {en : Nat → (Nat → Int32) → va_E} {n : Nat} {I : cw_M} {A : Nat → Prop} (h : cw_inj ad n) (hA : ∀ k, k < n → A (ad k)) : va_D A (cw_wd ad en n I) := by
  have key : ∀ (k : Nat) (q : Nat × va_E), (cw_wd ad en n I)[k]? = some q → k < n ∧ q.1 = ad k := by
    intro k q hq
    have hk : k < n := by
      have := (List.getElem?_eq_some_iff.mp hq).1
      simpa [cw_wd] using this
    rw [cw_wd_get hk] at hq
    cases hq
    exact ⟨hk, rfl⟩
  refine ⟨fun i j x y hi hj hxy => ?_, fun k q hk => ?_⟩
  · obtain ⟨a1, a2⟩ := key i x hi
    obtain ⟨b1, b2⟩ := key j y hj
    exact h i j a1 b1 (by rw [← a2, ← b2]; exact hxy)
  · obtain ⟨a1, a2⟩ := key k q hk
    rw [a2]
    exact hA k a1
theorem cw_XD {w w0 : cw_G} {M : cw_Me} {mc ms uc us : Nat} {p : Program} {s : State} {m : MethodId} {args : Array Value} {meth : Method} {c : Code} {I : cw_M} (X : cw_X w w0 M mc ms uc us p s m args meth c) : va_D (cw_own w0 s.heap.size) (cw_W w I) := cw_DA X.2.2.2.2.1 X.2.2.2.2.2.2.2.2.1
theorem cw_Xc {w w0 : cw_G} {M : cw_Me} {mc ms uc us : Nat} {p : Program} {s : State} {m : MethodId} {args : Array Value} {meth : Method} {c : Code} (X : cw_X w w0 M mc ms uc us p s m args meth c) : uc ≤ mc ∧ us ≤ ms := X.2.2.2.2.2.2.2.2.2
abbrev cw_Zt : Type := List Frame → Array Value → State → State → Prop
/-- w: the world now; w0: the world at the method's entry (what it may change: its cells and all that is made behind); mc, ms: what may be made; uc, us: what has been made -/
def cw_B (w w0 : cw_G) (M : cw_Me) (Z : cw_Zt) (mc ms uc us : Nat) (I : cw_M) (pc : Nat) (L : List (Nat × Value)) (st : List Value) : Prop :=
  ∀ (p : Program) (e : Env) (s : State) (m : MethodId) (args : Array Value) (below : List Frame) (meth : Method) (c : Code) (H : Heap) (locs : List Loc) (ls : Array Slot),
    cw_X w w0 M mc ms uc us p s m args meth c → va_P (cw_d w) vwCl (cw_W w I) H → va_S (cw_own w0 s.heap.size) s.heap H locs → lv_has ls (cw_k M) L →
    W p (cw_l w) e (cw_R M mc ms) s m args below meth c H locs uc us (Z below args s) (F0 m pc ls st)
def cw_Q (w : cw_G) (r : Option Value) (I2 : cw_M) : Array Value → State → Outcome → State → Prop := fun _ st oc t => oc = .returned r ∧ va_P (cw_d w) vwCl (cw_W w I2) t.heap ∧ va_F (cw_own w st.heap.size) st t
def cw_ZN (uc us : Nat) (w : cw_G) (r : Option Value) (I2 : cw_M) : cw_Zt := fun below args s => MQ below (cw_Q w r I2) args s uc us (cw_own w s.heap.size)
abbrev cw_Z (w : cw_G) (r : Option Value) (I2 : cw_M) : cw_Zt := cw_ZN 0 0 w r I2
def cw_Pc (w : cw_G) (as : List Value) (I : cw_M) (sz : Nat) : Array Value → State → Prop := va_Pc as (fun U => U.heap.size = sz ∧ va_P (cw_d w) vwCl (cw_W w I) U.heap ∧ va_K (cw_d w) vwCl (cw_t w) U ∧ cw_inj (cw_a w) (cw_n w) ∧ cw_f w (cw_own w sz) U U.heap ∧ cw_Fok (cw_f w))
/-- THE CONTRACT: called with 'as' where the ints are I it answers r, and the ints are I2; uc cells of us slots are new -/
def cw_CN (uc us : Nat) (w : cw_G) (M : cw_Me) (as : List Value) (I : cw_M) (r : Option Value) (I2 : cw_M) : Prop :=
  ∀ sz : Nat, Met (cw_l w) (cw_y M) (cw_w M) (cw_R M uc us) (cw_Pc w as I sz) (cw_Q w r I2) uc us (cw_own w sz)
abbrev cw_C (w : cw_G) (M : cw_Me) (as : List Value) (I : cw_M) (r : Option Value) (I2 : cw_M) : Prop := cw_CN 0 0 w M as I r I2
theorem cw_entryN {uc us : Nat} {w : cw_G} {M : cw_Me} {n : Nat} {as : List Value} {I I2 : cw_M} {r : Option Value} (ho : cw_ok M n) (hl : (lg_sl as).length ≤ cw_k M) (k : cw_B w w M (cw_ZN uc us w r I2) uc us 0 0 I 0 (lv_args 0 as) []) : cw_CN uc us w M as I r I2 := by
  intro sz
  obtain ⟨hy, ⟨ws', hw⟩, -⟩ := ho
  refine Met.ofW (cc := cw_c M) (maxL := cw_k M) (ret := cw_r M) hy hw ?_
  intro p e s m args below meth c s₁ B hml hv
  obtain ⟨rfl, hsz, hP, hK, hi, hf, hk⟩ := hv
  subst hsz
  have hx := B.exec
  have hb := B.bytes
  have hr := B.returns
  have hts := atoms_spec (ws := cw_w M) B.pre
  have hown : s.vm.findClass (cw_y M).cls = some m.cls := findClass_of_methodNamed B.named
  have hlocks := B.notSynchronized
  have htab : ∀ x ∈ c.exceptionTable.toList, False := by
    obtain ⟨meth9, c9, h1, h2, -, -, -, -, h7, -⟩ := Cond.code_spec B.named (hts _ (by rw [hw]; exact List.mem_cons_self))
    cases Option.some.inj (h1.symm.trans B.method)
    cases Option.some.inj (h2.symm.trans (Stand.of_body B).code)
    intro x hx
    rw [Array.isEmpty_iff.mp h7] at hx
    cases hx
  have hl := lv_entry as (n := cw_k M) hl
  rw [lg_entry_eq]
  generalize (lg_sl as ++ List.replicate (cw_k M - (lg_sl as).length) Slot.unset).toArray = ls at hl ⊢
  exact k p e s m _ below meth c s.heap [] ls ⟨⟨hx, hb, hml, hown, hts⟩, hr, hlocks, hK, hi, hf, hk, (fun _ => (name_of_methodNamed B.named B.method).1), fun k hk => Or.inl ⟨k, hk, rfl⟩, Nat.zero_le _, Nat.zero_le _⟩ hP va_S.rf hl
theorem cw_entry {w : cw_G} {M : cw_Me} {n : Nat} {as : List Value} {I I2 : cw_M} {r : Option Value} (ho : cw_ok M n) (hl : (lg_sl as).length ≤ cw_k M) (k : cw_B w w M (cw_Z w r I2) 0 0 0 0 I 0 (lv_args 0 as) []) : cw_C w M as I r I2 := cw_entryN ho hl k
section CWI
variable {w w0 : cw_G} {M : cw_Me} {Z : cw_Zt} {mc ms uc us : Nat} {I : cw_M} {pc : Nat} {L L' : List (Nat × Value)} {st stk : List Value}
theorem cw_sub (ks : List Nat) (hl : lv_pick L ks = L') (kk : cw_B w w0 M Z mc ms uc us I pc L' st) : cw_B w w0 M Z mc ms uc us I pc L st :=
  fun p e s m args below meth c H locs ls X hP hS h => kk p e s m args below meth c H locs ls X hP hS (lv_sub h ks hl)
theorem cw_iconst {n : Int} {v : Int32} (hd : decode (cw_c M) pc = .ok (.iconst n, 1)) (hv : Int32.ofInt n = v) (kk : cw_B w w0 M Z mc ms uc us I (pc + 1) L (.int v :: st)) : cw_B w w0 M Z mc ms uc us I pc L st :=
  fun p e s m args below meth c H locs ls X hP hS h => lv_iconst X.1.1 X.1.2.1 hd hv (kk p e s m args below meth c H locs ls X hP hS h)
theorem cw_bipush {n : Int} {v : Int32} (hd : decode (cw_c M) pc = .ok (.bipush n, 2)) (hv : (Int8.ofInt n).toInt32 = v) (kk : cw_B w w0 M Z mc ms uc us I (pc + 2) L (.int v :: st)) : cw_B w w0 M Z mc ms uc us I pc L st :=
  fun p e s m args below meth c H locs ls X hP hS h => lv_bipush X.1.1 X.1.2.1 hd hv (kk p e s m args below meth c H locs ls X hP hS h)
theorem cw_sipush {n : Int} {v : Int32} (hd : decode (cw_c M) pc = .ok (.sipush n, 3)) (hv : (Int16.ofInt n).toInt32 = v) (kk : cw_B w w0 M Z mc ms uc us I (pc + 3) L (.int v :: st)) : cw_B w w0 M Z mc ms uc us I pc L st :=
  fun p e s m args below meth c H locs ls X hP hS h => lv_sipush X.1.1 X.1.2.1 hd hv (kk p e s m args below meth c H locs ls X hP hS h)
theorem cw_iload_n {k : Fin 4} {i : Nat} {x : Int32} (hd : decode (cw_c M) pc = .ok (.iload_n k, 1)) (j : Nat) (hi : (k : Nat) = i) (hl : L[j]? = some (i, .int x)) (kk : cw_B w w0 M Z mc ms uc us I (pc + 1) L (.int x :: st)) : cw_B w w0 M Z mc ms uc us I pc L st :=
  fun p e s m args below meth c H locs ls X hP hS h => lv_iload_n X.1.1 X.1.2.1 hd hi (lv_at h j hl) (kk p e s m args below meth c H locs ls X hP hS h)
theorem cw_iload {i : Nat} {x : Int32} (hd : decode (cw_c M) pc = .ok (.iload i, 2)) (j : Nat) (hl : L[j]? = some (i, .int x)) (kk : cw_B w w0 M Z mc ms uc us I (pc + 2) L (.int x :: st)) : cw_B w w0 M Z mc ms uc us I pc L st :=
  fun p e s m args below meth c H locs ls X hP hS h => lv_iload X.1.1 X.1.2.1 hd (lv_at h j hl) (kk p e s m args below meth c H locs ls X hP hS h)
theorem cw_aload_n {k : Fin 4} {i : Nat} {a : Nat} (hd : decode (cw_c M) pc = .ok (.aload_n k, 1)) (j : Nat) (hi : (k : Nat) = i) (hl : L[j]? = some (i, .ref a)) (kk : cw_B w w0 M Z mc ms uc us I (pc + 1) L (.ref a :: st)) : cw_B w w0 M Z mc ms uc us I pc L st :=
  fun p e s m args below meth c H locs ls X hP hS h => lv_aload_n X.1.1 X.1.2.1 hd hi (lv_at h j hl) (kk p e s m args below meth c H locs ls X hP hS h)
theorem cw_aload {i : Nat} {a : Nat} (hd : decode (cw_c M) pc = .ok (.aload i, 2)) (j : Nat) (hl : L[j]? = some (i, .ref a)) (kk : cw_B w w0 M Z mc ms uc us I (pc + 2) L (.ref a :: st)) : cw_B w w0 M Z mc ms uc us I pc L st :=
  fun p e s m args below meth c H locs ls X hP hS h => lv_aload X.1.1 X.1.2.1 hd (lv_at h j hl) (kk p e s m args below meth c H locs ls X hP hS h)
theorem cw_istore_n {k : Fin 4} {i : Nat} {x : Int32} (hd : decode (cw_c M) pc = .ok (.istore_n k, 1)) (hi : (k : Nat) = i) (hn : i < cw_k M) (hl : (i, Value.int x) :: L.filter (fun q => !(q.1 == i) && !(q.1 + 1 == i && q.2.category == 2)) = L') (kk : cw_B w w0 M Z mc ms uc us I (pc + 1) L' st) : cw_B w w0 M Z mc ms uc us I pc L (.int x :: st) :=
  fun p e s m args below meth c H locs ls X hP hS h => lv_istore_n X.1.1 X.1.2.1 hd hi h hn hl (fun ls' h' => kk p e s m args below meth c H locs ls' X hP hS h')
theorem cw_istore {i : Nat} {x : Int32} (hd : decode (cw_c M) pc = .ok (.istore i, 2)) (hn : i < cw_k M) (hl : (i, Value.int x) :: L.filter (fun q => !(q.1 == i) && !(q.1 + 1 == i && q.2.category == 2)) = L') (kk : cw_B w w0 M Z mc ms uc us I (pc + 2) L' st) : cw_B w w0 M Z mc ms uc us I pc L (.int x :: st) :=
  fun p e s m args below meth c H locs ls X hP hS h => lv_istore X.1.1 X.1.2.1 hd h hn hl (fun ls' h' => kk p e s m args below meth c H locs ls' X hP hS h')
theorem cw_iinc {i j : Nat} {n : Int} {x v : Int32} (hd : decode (cw_c M) pc = .ok (.iinc i n, 3)) (hk : L[j]? = some (i, .int x)) (hv : x + Int32.ofInt n = v) (hn : i < cw_k M) (hl : (i, Value.int v) :: L.filter (fun q => !(q.1 == i) && !(q.1 + 1 == i && q.2.category == 2)) = L') (kk : cw_B w w0 M Z mc ms uc us I (pc + 3) L' st) : cw_B w w0 M Z mc ms uc us I pc L st :=
  fun p e s m args below meth c H locs ls X hP hS h => lv_iinc X.1.1 X.1.2.1 hd h hk hv hn hl (fun ls' h' => kk p e s m args below meth c H locs ls' X hP hS h')
theorem cw_iadd {x y : Int32} (hd : decode (cw_c M) pc = .ok (.iadd, 1)) (kk : cw_B w w0 M Z mc ms uc us I (pc + 1) L (.int (x + y) :: st)) : cw_B w w0 M Z mc ms uc us I pc L (.int y :: .int x :: st) :=
  fun p e s m args below meth c H locs ls X hP hS h => lv_iadd X.1.1 X.1.2.1 hd (kk p e s m args below meth c H locs ls X hP hS h)
theorem cw_isub {x y : Int32} (hd : decode (cw_c M) pc = .ok (.isub, 1)) (kk : cw_B w w0 M Z mc ms uc us I (pc + 1) L (.int (x - y) :: st)) : cw_B w w0 M Z mc ms uc us I pc L (.int y :: .int x :: st) :=
  fun p e s m args below meth c H locs ls X hP hS h => lv_isub X.1.1 X.1.2.1 hd (kk p e s m args below meth c H locs ls X hP hS h)
theorem cw_imul {x y : Int32} (hd : decode (cw_c M) pc = .ok (.imul, 1)) (kk : cw_B w w0 M Z mc ms uc us I (pc + 1) L (.int (x * y) :: st)) : cw_B w w0 M Z mc ms uc us I pc L (.int y :: .int x :: st) :=
  fun p e s m args below meth c H locs ls X hP hS h => lv_imul X.1.1 X.1.2.1 hd (kk p e s m args below meth c H locs ls X hP hS h)
theorem cw_goto {off : Int} {tgt : Nat} (hd : decode (cw_c M) pc = .ok (.goto off, 3)) (ht : (pc : Int) + off = (tgt : Int)) (kk : cw_B w w0 M Z mc ms uc us I tgt L st) : cw_B w w0 M Z mc ms uc us I pc L st :=
  fun p e s m args below meth c H locs ls X hP hS h => lv_goto X.1.1 X.1.2.1 hd ht (kk p e s m args below meth c H locs ls X hP hS h)
theorem cw_icmp_lt {x y : Int32} {off : Int} {tgt : Nat} (hd : decode (cw_c M) pc = .ok (.if_icmp .lt off, 3)) (ht : (pc : Int) + off = (tgt : Int)) (kt : x < y → cw_B w w0 M Z mc ms uc us I tgt L st) (kf : ¬ x < y → cw_B w w0 M Z mc ms uc us I (pc + 3) L st) : cw_B w w0 M Z mc ms uc us I pc L (.int y :: .int x :: st) :=
  fun p e s m args below meth c H locs ls X hP hS h => lv_icmp_lt X.1.1 X.1.2.1 hd ht (fun q => kt q p e s m args below meth c H locs ls X hP hS h) (fun q => kf q p e s m args below meth c H locs ls X hP hS h)
theorem cw_icmp_ge {x y : Int32} {off : Int} {tgt : Nat} (hd : decode (cw_c M) pc = .ok (.if_icmp .ge off, 3)) (ht : (pc : Int) + off = (tgt : Int)) (kt : y ≤ x → cw_B w w0 M Z mc ms uc us I tgt L st) (kf : ¬ y ≤ x → cw_B w w0 M Z mc ms uc us I (pc + 3) L st) : cw_B w w0 M Z mc ms uc us I pc L (.int y :: .int x :: st) :=
  fun p e s m args below meth c H locs ls X hP hS h => lv_icmp_ge X.1.1 X.1.2.1 hd ht (fun q => kt q p e s m args below meth c H locs ls X hP hS h) (fun q => kf q p e s m args below meth c H locs ls X hP hS h)
theorem cw_getf {C : String} {T : u_T} {N ci index : Nat} {fs : List Value} {v : Value} (hin : ∀ x ∈ u_ws C T N, x ∈ cw_w M) (o : Nat) (ho : o < cw_n w) (he : cw_e w o (I o) = .inr (ci, fs)) (hc : vwCl[ci]? = some (C, T, N)) (k : Nat) (hk : k < N) (hlink : Cond.fieldLink (cw_y M).cls index (T k).1 (T k).2.1 (T k).2.2.1 ∈ cw_w M) (hv : fs[k]? = some v) (hd : decode (cw_c M) pc = .ok (.getfield index, 3))
    (kk : cw_B w w0 M Z mc ms uc us I (pc + 3) L (v :: st)) : cw_B w w0 M Z mc ms uc us I pc L (.ref (cw_a w o) :: st) :=
  fun p e s m args below meth c H locs ls X hP hS h => va_get X.1.1 X.1.2.1 X.1.2.2.2.2 hin X.1.2.2.2.1 X.2.2.2.1 hP o (by rw [cw_wd_get ho, he]) hc k hk (X.1.2.2.2.2 _ hlink) (fun _ h9 => h9) hv hd (kk p e s m args below meth c H locs ls X hP hS h)
theorem cw_putf {C : String} {T : u_T} {N ci index : Nat} {fs : List Value} {x : Int32} (hin : ∀ x ∈ u_ws C T N, x ∈ cw_w M) (ty0 : Nat → FieldType) (hty : ∀ k, k < N → parseFieldDescriptor (T k).2.2.1 = some (ty0 k)) (hnm : ∀ a, a < N → ∀ b, b < N → a ≠ b → (T a).2.1 ≠ (T b).2.1) (o : Nat) (ho : o < cw_n w) (he : cw_e w o (I o) = .inr (ci, fs)) (hc : vwCl[ci]? = some (C, T, N)) (k : Nat) (hk : k < N) (hlink : Cond.fieldLink (cw_y M).cls index (T k).1 (T k).2.1 (T k).2.2.1 ∈ cw_w M) (hfin : (T k).2.2.2 = false) (ht : ty0 k = .int) (hl : k < fs.length) (he2 : cw_e w o (upd (I o) k x) = .inr (ci, fs.set k (.int x))) (hd : decode (cw_c M) pc = .ok (.putfield index, 3))
    (kk : cw_B w w0 M Z mc ms uc us (cw_st I o k x) (pc + 3) L st) : cw_B w w0 M Z mc ms uc us I pc L (.int x :: .ref (cw_a w o) :: st) := by
  intro p e s m args below meth c H locs ls X hP hS h
  refine va_put X.1.1 X.1.2.1 X.1.2.2.2.2 hin ty0 hty hnm X.1.2.2.2.1 X.2.2.2.1 hP (cw_XD X) hS o (by rw [cw_wd_get ho, he]) hc k hk (X.1.2.2.2.2 _ hlink) (fun _ h9 => h9) hfin (ty := .int) (by rw [hty k hk, ht]) rfl rfl hl hd (fun H1 locs1 hP1 hD1 hS1 => ?_)
  rw [← he2, cw_wd_set ho] at hP1
  exact kk p e s m args below meth c H1 locs1 ls X hP1 hS1 h
theorem cw_iald {i : Int32} {cA : ClassId} {n : Nat} (o : Nat) (ho : o < cw_n w) (he : cw_e w o (I o) = .inl (cA, n, .inl (I o))) (t0 : Nat) (ht : (cw_t w)[t0]? = some (cA, .int)) (hd : decode (cw_c M) pc = .ok (.iaload, 1)) (hin : vp_in i n) (kk : cw_B w w0 M Z mc ms uc us I (pc + 1) L (.int (I o i.toNatClampNeg) :: st)) : cw_B w w0 M Z mc ms uc us I pc L (.int i :: .ref (cw_a w o) :: st) :=
  fun p e s m args below meth c H locs ls X hP hS h => va_iald X.1.1 X.1.2.1 X.2.2.2.1 hP o t0 (by rw [cw_wd_get ho, he]) ht hin hd (kk p e s m args below meth c H locs ls X hP hS h)
theorem cw_iast {i x : Int32} {cA : ClassId} {n : Nat} (o : Nat) (ho : o < cw_n w) (he : ∀ f, cw_e w o f = .inl (cA, n, .inl f)) (t0 : Nat) (ht : (cw_t w)[t0]? = some (cA, .int)) (hd : decode (cw_c M) pc = .ok (.iastore, 1)) (hin : vp_in i n) (kk : cw_B w w0 M Z mc ms uc us (cw_st I o i.toNatClampNeg x) (pc + 1) L st) : cw_B w w0 M Z mc ms uc us I pc L (.int x :: .int i :: .ref (cw_a w o) :: st) := by
  intro p e s m args below meth c H locs ls X hP hS h
  refine va_iast X.1.1 X.1.2.1 X.2.2.2.1 hP (cw_XD X) hS o t0 (by rw [cw_wd_get ho, he]) ht hin hd (fun H1 locs1 hP1 hD1 hS1 => ?_)
  rw [← he, cw_wd_set ho] at hP1
  exact kk p e s m args below meth c H1 locs1 ls X hP1 hS1 h
theorem cw_iretX (hle : cw_le w0 w) {v : Int32} {r : Option Value} {I2 : cw_M} (hr : cw_r M = some .int) (hd : decode (cw_c M) pc = .ok (.ireturn, 1)) (h : r = some (.int v) ∧ I2 = I) : cw_B w w0 M (cw_ZN uc us w0 r I2) mc ms uc us I pc L [.int v] := by
  obtain ⟨rfl, rfl⟩ := h
  intro p e s m args below meth c H locs ls X hP hS hl
  exact W.iret X.1.1 X.1.2.1 (X.2.1.trans hr) (fun t ht hW => ⟨rfl, by rw [ht]; exact cw_le.P hle hP, hS.F ht⟩) hS.2.2 hd X.2.2.1
theorem cw_iret {v : Int32} {r : Option Value} {I2 : cw_M} (hr : cw_r M = some .int) (hd : decode (cw_c M) pc = .ok (.ireturn, 1)) (h : r = some (.int v) ∧ I2 = I) : cw_B w w M (cw_Z w r I2) mc ms 0 0 I pc L [.int v] := cw_iretX (cw_le.rfl) hr hd h
theorem cw_bretX (hle : cw_le w0 w) {v : Int32} {r : Option Value} {I2 : cw_M} (hr : cw_r M = some .boolean) (hd : decode (cw_c M) pc = .ok (.ireturn, 1)) (hv : v = 0 ∨ v = 1) (h : r = some (.int v) ∧ I2 = I) : cw_B w w0 M (cw_ZN uc us w0 r I2) mc ms uc us I pc L [.int v] := by
  obtain ⟨rfl, rfl⟩ := h
  intro p e s m args below meth c H locs ls X hP hS hl
  exact W.zret X.1.1 X.1.2.1 (X.2.1.trans hr) (by rcases hv with rfl | rfl <;> rfl) (fun t ht hW => ⟨rfl, by rw [ht]; exact cw_le.P hle hP, hS.F ht⟩) hS.2.2 hd X.2.2.1
theorem cw_bret {v : Int32} {r : Option Value} {I2 : cw_M} (hr : cw_r M = some .boolean) (hd : decode (cw_c M) pc = .ok (.ireturn, 1)) (hv : v = 0 ∨ v = 1) (h : r = some (.int v) ∧ I2 = I) : cw_B w w M (cw_Z w r I2) mc ms 0 0 I pc L [.int v] := cw_bretX (cw_le.rfl) hr hd hv h
theorem cw_vretX (hle : cw_le w0 w) {r : Option Value} {I2 : cw_M} (hr : cw_r M = none) (hd : decode (cw_c M) pc = .ok (.return_, 1)) (h : r = none ∧ I2 = I) : cw_B w w0 M (cw_ZN uc us w0 r I2) mc ms uc us I pc L [] := by
  obtain ⟨rfl, rfl⟩ := h
  intro p e s m args below meth c H locs ls X hP hS hl
  exact W.vret X.1.1 X.1.2.1 (X.2.1.trans hr) (fun t ht hW => ⟨rfl, by rw [ht]; exact cw_le.P hle hP, hS.F ht⟩) hS.2.2 hd X.2.2.1
theorem cw_vret {r : Option Value} {I2 : cw_M} (hr : cw_r M = none) (hd : decode (cw_c M) pc = .ok (.return_, 1)) (h : r = none ∧ I2 = I) : cw_B w w M (cw_Z w r I2) mc ms 0 0 I pc L [] := cw_vretX (cw_le.rfl) hr hd h
theorem cw_iand {x y : Int32} (hd : decode (cw_c M) pc = .ok (.iand, 1)) (kk : cw_B w w0 M Z mc ms uc us I (pc + 1) L (.int (x &&& y) :: st)) : cw_B w w0 M Z mc ms uc us I pc L (.int y :: .int x :: st) :=
  fun p e s m args below meth c H locs ls X hP hS h => lv_iand X.1.1 X.1.2.1 hd (kk p e s m args below meth c H locs ls X hP hS h)
theorem cw_ior {x y : Int32} (hd : decode (cw_c M) pc = .ok (.ior, 1)) (kk : cw_B w w0 M Z mc ms uc us I (pc + 1) L (.int (x ||| y) :: st)) : cw_B w w0 M Z mc ms uc us I pc L (.int y :: .int x :: st) :=
  fun p e s m args below meth c H locs ls X hP hS h => lv_ior X.1.1 X.1.2.1 hd (kk p e s m args below meth c H locs ls X hP hS h)
theorem cw_ixor {x y : Int32} (hd : decode (cw_c M) pc = .ok (.ixor, 1)) (kk : cw_B w w0 M Z mc ms uc us I (pc + 1) L (.int (x ^^^ y) :: st)) : cw_B w w0 M Z mc ms uc us I pc L (.int y :: .int x :: st) :=
  fun p e s m args below meth c H locs ls X hP hS h => lv_ixor X.1.1 X.1.2.1 hd (kk p e s m args below meth c H locs ls X hP hS h)
theorem cw_ishl {x y : Int32} (hd : decode (cw_c M) pc = .ok (.ishl, 1)) (kk : cw_B w w0 M Z mc ms uc us I (pc + 1) L (.int (x <<< (y &&& 31)) :: st)) : cw_B w w0 M Z mc ms uc us I pc L (.int y :: .int x :: st) :=
  fun p e s m args below meth c H locs ls X hP hS h => lv_ishl X.1.1 X.1.2.1 hd (kk p e s m args below meth c H locs ls X hP hS h)
theorem cw_ishr {x y : Int32} (hd : decode (cw_c M) pc = .ok (.ishr, 1)) (kk : cw_B w w0 M Z mc ms uc us I (pc + 1) L (.int (x >>> (y &&& 31)) :: st)) : cw_B w w0 M Z mc ms uc us I pc L (.int y :: .int x :: st) :=
  fun p e s m args below meth c H locs ls X hP hS h => lv_ishr X.1.1 X.1.2.1 hd (kk p e s m args below meth c H locs ls X hP hS h)
theorem cw_idiv {x y : Int32} (hd : decode (cw_c M) pc = .ok (.idiv, 1)) (hne : ¬ y = 0) (kk : cw_B w w0 M Z mc ms uc us I (pc + 1) L (.int (x / y) :: st)) : cw_B w w0 M Z mc ms uc us I pc L (.int y :: .int x :: st) :=
  fun p e s m args below meth c H locs ls X hP hS h => lv_idiv X.1.1 X.1.2.1 hd hne (kk p e s m args below meth c H locs ls X hP hS h)
theorem cw_irem {x y : Int32} (hd : decode (cw_c M) pc = .ok (.irem, 1)) (hne : ¬ y = 0) (kk : cw_B w w0 M Z mc ms uc us I (pc + 1) L (.int (x - x / y * y) :: st)) : cw_B w w0 M Z mc ms uc us I pc L (.int y :: .int x :: st) :=
  fun p e s m args below meth c H locs ls X hP hS h => lv_irem X.1.1 X.1.2.1 hd hne (kk p e s m args below meth c H locs ls X hP hS h)
theorem cw_ineg {x : Int32} (hd : decode (cw_c M) pc = .ok (.ineg, 1)) (kk : cw_B w w0 M Z mc ms uc us I (pc + 1) L (.int (-x) :: st)) : cw_B w w0 M Z mc ms uc us I pc L (.int x :: st) :=
  fun p e s m args below meth c H locs ls X hP hS h => lv_ineg X.1.1 X.1.2.1 hd (kk p e s m args below meth c H locs ls X hP hS h)
theorem cw_dup {v : Value} (hd : decode (cw_c M) pc = .ok (.dup, 1)) (hv : v.category = 1) (kk : cw_B w w0 M Z mc ms uc us I (pc + 1) L (v :: v :: st)) : cw_B w w0 M Z mc ms uc us I pc L (v :: st) :=
  fun p e s m args below meth c H locs ls X hP hS h => lv_dup X.1.1 X.1.2.1 hd hv (kk p e s m args below meth c H locs ls X hP hS h)
theorem cw_dup2 {v u : Value} (hd : decode (cw_c M) pc = .ok (.dup2, 1)) (hv : v.category = 1) (hu : u.category = 1) (kk : cw_B w w0 M Z mc ms uc us I (pc + 1) L (v :: u :: v :: u :: st)) : cw_B w w0 M Z mc ms uc us I pc L (v :: u :: st) :=
  fun p e s m args below meth c H locs ls X hP hS h => lv_dup2_11 X.1.1 X.1.2.1 hd hv hu (kk p e s m args below meth c H locs ls X hP hS h)
theorem cw_pop {v : Value} (hd : decode (cw_c M) pc = .ok (.pop, 1)) (hv : v.category = 1) (kk : cw_B w w0 M Z mc ms uc us I (pc + 1) L st) : cw_B w w0 M Z mc ms uc us I pc L (v :: st) :=
  fun p e s m args below meth c H locs ls X hP hS h => lv_pop X.1.1 X.1.2.1 hd hv (kk p e s m args below meth c H locs ls X hP hS h)
theorem cw_if_eq {x : Int32} {off : Int} {tgt : Nat} (hd : decode (cw_c M) pc = .ok (.ifCond .eq off, 3)) (ht : (pc : Int) + off = (tgt : Int)) (kt : x = 0 → cw_B w w0 M Z mc ms uc us I tgt L st) (kf : ¬ x = 0 → cw_B w w0 M Z mc ms uc us I (pc + 3) L st) : cw_B w w0 M Z mc ms uc us I pc L (.int x :: st) :=
  fun p e s m args below meth c H locs ls X hP hS h => lv_if_eq X.1.1 X.1.2.1 hd ht (fun q => kt q p e s m args below meth c H locs ls X hP hS h) (fun q => kf q p e s m args below meth c H locs ls X hP hS h)
theorem cw_icmp_eq {x y : Int32} {off : Int} {tgt : Nat} (hd : decode (cw_c M) pc = .ok (.if_icmp .eq off, 3)) (ht : (pc : Int) + off = (tgt : Int)) (kt : x = y → cw_B w w0 M Z mc ms uc us I tgt L st) (kf : ¬ x = y → cw_B w w0 M Z mc ms uc us I (pc + 3) L st) : cw_B w w0 M Z mc ms uc us I pc L (.int y :: .int x :: st) :=
  fun p e s m args below meth c H locs ls X hP hS h => lv_icmp_eq X.1.1 X.1.2.1 hd ht (fun q => kt q p e s m args below meth c H locs ls X hP hS h) (fun q => kf q p e s m args below meth c H locs ls X hP hS h)
theorem cw_if_ne {x : Int32} {off : Int} {tgt : Nat} (hd : decode (cw_c M) pc = .ok (.ifCond .ne off, 3)) (ht : (pc : Int) + off = (tgt : Int)) (kt : ¬ x = 0 → cw_B w w0 M Z mc ms uc us I tgt L st) (kf : x = 0 → cw_B w w0 M Z mc ms uc us I (pc + 3) L st) : cw_B w w0 M Z mc ms uc us I pc L (.int x :: st) :=
  fun p e s m args below meth c H locs ls X hP hS h => lv_if_ne X.1.1 X.1.2.1 hd ht (fun q => kt q p e s m args below meth c H locs ls X hP hS h) (fun q => kf q p e s m args below meth c H locs ls X hP hS h)
theorem cw_icmp_ne {x y : Int32} {off : Int} {tgt : Nat} (hd : decode (cw_c M) pc = .ok (.if_icmp .ne off, 3)) (ht : (pc : Int) + off = (tgt : Int)) (kt : ¬ x = y → cw_B w w0 M Z mc ms uc us I tgt L st) (kf : x = y → cw_B w w0 M Z mc ms uc us I (pc + 3) L st) : cw_B w w0 M Z mc ms uc us I pc L (.int y :: .int x :: st) :=
  fun p e s m args below meth c H locs ls X hP hS h => lv_icmp_ne X.1.1 X.1.2.1 hd ht (fun q => kt q p e s m args below meth c H locs ls X hP hS h) (fun q => kf q p e s m args below meth c H locs ls X hP hS h)
theorem cw_if_lt {x : Int32} {off : Int} {tgt : Nat} (hd : decode (cw_c M) pc = .ok (.ifCond .lt off, 3)) (ht : (pc : Int) + off = (tgt : Int)) (kt : x < 0 → cw_B w w0 M Z mc ms uc us I tgt L st) (kf : ¬ x < 0 → cw_B w w0 M Z mc ms uc us I (pc + 3) L st) : cw_B w w0 M Z mc ms uc us I pc L (.int x :: st) :=
  fun p e s m args below meth c H locs ls X hP hS h => lv_if_lt X.1.1 X.1.2.1 hd ht (fun q => kt q p e s m args below meth c H locs ls X hP hS h) (fun q => kf q p e s m args below meth c H locs ls X hP hS h)
theorem cw_if_ge {x : Int32} {off : Int} {tgt : Nat} (hd : decode (cw_c M) pc = .ok (.ifCond .ge off, 3)) (ht : (pc : Int) + off = (tgt : Int)) (kt : 0 ≤ x → cw_B w w0 M Z mc ms uc us I tgt L st) (kf : ¬ 0 ≤ x → cw_B w w0 M Z mc ms uc us I (pc + 3) L st) : cw_B w w0 M Z mc ms uc us I pc L (.int x :: st) :=
  fun p e s m args below meth c H locs ls X hP hS h => lv_if_ge X.1.1 X.1.2.1 hd ht (fun q => kt q p e s m args below meth c H locs ls X hP hS h) (fun q => kf q p e s m args below meth c H locs ls X hP hS h)
theorem cw_if_gt {x : Int32} {off : Int} {tgt : Nat} (hd : decode (cw_c M) pc = .ok (.ifCond .gt off, 3)) (ht : (pc : Int) + off = (tgt : Int)) (kt : 0 < x → cw_B w w0 M Z mc ms uc us I tgt L st) (kf : ¬ 0 < x → cw_B w w0 M Z mc ms uc us I (pc + 3) L st) : cw_B w w0 M Z mc ms uc us I pc L (.int x :: st) :=
  fun p e s m args below meth c H locs ls X hP hS h => lv_if_gt X.1.1 X.1.2.1 hd ht (fun q => kt q p e s m args below meth c H locs ls X hP hS h) (fun q => kf q p e s m args below meth c H locs ls X hP hS h)
theorem cw_icmp_gt {x y : Int32} {off : Int} {tgt : Nat} (hd : decode (cw_c M) pc = .ok (.if_icmp .gt off, 3)) (ht : (pc : Int) + off = (tgt : Int)) (kt : y < x → cw_B w w0 M Z mc ms uc us I tgt L st) (kf : ¬ y < x → cw_B w w0 M Z mc ms uc us I (pc + 3) L st) : cw_B w w0 M Z mc ms uc us I pc L (.int y :: .int x :: st) :=
  fun p e s m args below meth c H locs ls X hP hS h => lv_icmp_gt X.1.1 X.1.2.1 hd ht (fun q => kt q p e s m args below meth c H locs ls X hP hS h) (fun q => kf q p e s m args below meth c H locs ls X hP hS h)
theorem cw_if_le {x : Int32} {off : Int} {tgt : Nat} (hd : decode (cw_c M) pc = .ok (.ifCond .le off, 3)) (ht : (pc : Int) + off = (tgt : Int)) (kt : x ≤ 0 → cw_B w w0 M Z mc ms uc us I tgt L st) (kf : ¬ x ≤ 0 → cw_B w w0 M Z mc ms uc us I (pc + 3) L st) : cw_B w w0 M Z mc ms uc us I pc L (.int x :: st) :=
  fun p e s m args below meth c H locs ls X hP hS h => lv_if_le X.1.1 X.1.2.1 hd ht (fun q => kt q p e s m args below meth c H locs ls X hP hS h) (fun q => kf q p e s m args below meth c H locs ls X hP hS h)
theorem cw_icmp_le {x y : Int32} {off : Int} {tgt : Nat} (hd : decode (cw_c M) pc = .ok (.if_icmp .le off, 3)) (ht : (pc : Int) + off = (tgt : Int)) (kt : x ≤ y → cw_B w w0 M Z mc ms uc us I tgt L st) (kf : ¬ x ≤ y → cw_B w w0 M Z mc ms uc us I (pc + 3) L st) : cw_B w w0 M Z mc ms uc us I pc L (.int y :: .int x :: st) :=
  fun p e s m args below meth c H locs ls X hP hS h => lv_icmp_le X.1.1 X.1.2.1 hd ht (fun q => kt q p e s m args below meth c H locs ls X hP hS h) (fun q => kf q p e s m args below meth c H locs ls X hP hS h)
theorem cw_zald {i : Int32} {cA : ClassId} {n : Nat} (o : Nat) (ho : o < cw_n w) (he : cw_e w o (I o) = .inl (cA, n, .inl (I o))) (t0 : Nat) (ht : (cw_t w)[t0]? = some (cA, .boolean)) (hd : decode (cw_c M) pc = .ok (.baload, 1)) (hin : vp_in i n) (kk : cw_B w w0 M Z mc ms uc us I (pc + 1) L (.int (I o i.toNatClampNeg) :: st)) : cw_B w w0 M Z mc ms uc us I pc L (.int i :: .ref (cw_a w o) :: st) :=
  fun p e s m args below meth c H locs ls X hP hS h => va_zald X.1.1 X.1.2.1 X.2.2.2.1 hP o t0 (by rw [cw_wd_get ho, he]) ht hin hd (kk p e s m args below meth c H locs ls X hP hS h)
theorem cw_zast {i x : Int32} {cA : ClassId} {n : Nat} (o : Nat) (ho : o < cw_n w) (he : ∀ f, cw_e w o f = .inl (cA, n, .inl f)) (t0 : Nat) (ht : (cw_t w)[t0]? = some (cA, .boolean)) (hd : decode (cw_c M) pc = .ok (.bastore, 1)) (hin : vp_in i n) (kk : cw_B w w0 M Z mc ms uc us (cw_st I o i.toNatClampNeg (vp_nar .boolean x)) (pc + 1) L st) : cw_B w w0 M Z mc ms uc us I pc L (.int x :: .int i :: .ref (cw_a w o) :: st) := by
  intro p e s m args below meth c H locs ls X hP hS h
  refine va_zast X.1.1 X.1.2.1 X.2.2.2.1 hP (cw_XD X) hS o t0 (by rw [cw_wd_get ho, he]) ht hin hd (fun H1 locs1 hP1 hD1 hS1 => ?_)
  rw [← he, cw_wd_set ho] at hP1
  exact kk p e s m args below meth c H1 locs1 ls X hP1 hS1 h
theorem cw_alen {cA : ClassId} {x : vp_A} {ty : FieldType} {v : Int32} (o : Nat) (ho : o < cw_n w) (he : cw_e w o (I o) = .inl (cA, x)) (t0 : Nat) (ht : (cw_t w)[t0]? = some (cA, ty)) (hv : Int32.ofNat x.1 = v) (hd : decode (cw_c M) pc = .ok (.arraylength, 1)) (kk : cw_B w w0 M Z mc ms uc us I (pc + 1) L (.int v :: st)) : cw_B w w0 M Z mc ms uc us I pc L (.ref (cw_a w o) :: st) :=
  fun p e s m args below meth c H locs ls X hP hS h => va_alen X.1.1 X.1.2.1 X.2.2.2.1 hP o t0 (by rw [cw_wd_get ho, he]) ht hv hd (kk p e s m args below meth c H locs ls X hP hS h)
theorem cw_copyi {index : Nat} {sp dp n : Int32} {c0 : ClassId} {n0 n1 : Nat} (hl : Cond.methodLink (cw_y M).cls index arraycopyName ∈ cw_w M) (h2 : Cond.native arraycopyName ∈ cw_w M) (h3 : Cond.static arraycopyName ∈ cw_w M) (h4 : Cond.initialized "java/lang/System" ∈ cw_w M) (o o1 : Nat) (ho : o < cw_n w) (ho1 : o1 < cw_n w) (he : cw_e w o (I o) = .inl (c0, n0, .inl (I o))) (he1 : ∀ f, cw_e w o1 f = .inl (c0, n1, .inl f)) (t0 : Nat) (ht : (cw_t w)[t0]? = some (c0, .int)) (hb : ¬ sp < 0 ∧ ¬ dp < 0 ∧ ¬ n < 0 ∧ sp.toNatClampNeg + n.toNatClampNeg ≤ n0 ∧ dp.toNatClampNeg + n.toNatClampNeg ≤ n1) (hr : 1 ≤ cw_fr M ∧ (st.map fun v => v.category).sum + 18 ≤ cw_lo M) (hd : decode (cw_c M) pc = .ok (.invokestatic index, 3)) (kk : cw_B w w0 M Z mc ms uc us (cw_up I o1 (va_cpy (I o) (I o1) sp.toNatClampNeg dp.toNatClampNeg n.toNatClampNeg)) (pc + 3) L st) : cw_B w w0 M Z mc ms uc us I pc L (.int n :: .int dp :: .ref (cw_a w o1) :: .int sp :: .ref (cw_a w o) :: st) := by
  intro p e s m args below meth c H locs ls X hP hS h
  have hlo : (st.map fun v => v.category).sum + (nativeFrameWords "java/lang/System" "arraycopy" 5 + 11) ≤ (cw_R M mc ms).locals := by
    have h18 : nativeFrameWords "java/lang/System" "arraycopy" 5 + 11 = 18 := by decide +kernel
    rw [h18]
    exact hr.2
  refine va_copyi X.1.1 X.1.2.1 (X.1.2.2.1.trans h.1.symm) X.1.2.2.2.1 (X.1.2.2.2.2 _ hl) (X.1.2.2.2.2 _ h2) (X.1.2.2.2.2 _ h3) (X.1.2.2.2.2 _ h4) X.2.2.2.1 hP (cw_XD X) hS o o1 t0 t0 (by rw [cw_wd_get ho, he]) (by rw [cw_wd_get ho1, he1]) ht ht rfl hb.1 hb.2.1 hb.2.2.1 hb.2.2.2.1 hb.2.2.2.2 (fun _ _ => rfl) hr.1 hlo hd (fun H1 locs1 hP1 hD1 hS1 => ?_)
  rw [← he1, cw_wd_set ho1] at hP1
  exact kk p e s m args below meth c H1 locs1 ls X hP1 hS1 h

theorem cw_mmax {index : Nat} {x y : Int32} (hl : Cond.methodLink (cw_y M).cls index Lib.Math.max.name ∈ cw_w M) (h2 : Cond.static Lib.Math.max.name ∈ cw_w M) (h3 : Cond.initialized "java/lang/Math" ∈ cw_w M) (h4 : Cond.code Lib.Math.max.name Lib.Math.max.code 2 (some .int) ∈ cw_w M) (hr : 1 ≤ cw_fr M ∧ (st.map fun v => v.category).sum + 13 ≤ cw_lo M) (hd : decode (cw_c M) pc = .ok (.invokestatic index, 3)) (kk : cw_B w w0 M Z mc ms uc us I (pc + 3) L (.int (if x < y then y else x) :: st)) : cw_B w w0 M Z mc ms uc us I pc L (.int y :: .int x :: st) :=
  fun p e s m args below meth c H locs ls X hP hS h => va_mmax X.1.1 X.1.2.1 (X.1.2.2.1.trans h.1.symm) X.1.2.2.2.1 (X.1.2.2.2.2 _ hl) (X.1.2.2.2.2 _ h2) (X.1.2.2.2.2 _ h3) (X.1.2.2.2.2 _ h4) hr.1 hr.2 (cw_Xc X).1 (cw_Xc X).2 hd (kk p e s m args below meth c H locs ls X hP hS h)
theorem cw_mmin {index : Nat} {x y : Int32} (hl : Cond.methodLink (cw_y M).cls index Lib.Math.min.name ∈ cw_w M) (h2 : Cond.static Lib.Math.min.name ∈ cw_w M) (h3 : Cond.initialized "java/lang/Math" ∈ cw_w M) (h4 : Cond.code Lib.Math.min.name Lib.Math.min.code 2 (some .int) ∈ cw_w M) (hr : 1 ≤ cw_fr M ∧ (st.map fun v => v.category).sum + 13 ≤ cw_lo M) (hd : decode (cw_c M) pc = .ok (.invokestatic index, 3)) (kk : cw_B w w0 M Z mc ms uc us I (pc + 3) L (.int (if y < x then y else x) :: st)) : cw_B w w0 M Z mc ms uc us I pc L (.int y :: .int x :: st) :=
  fun p e s m args below meth c H locs ls X hP hS h => va_mmin X.1.1 X.1.2.1 (X.1.2.2.1.trans h.1.symm) X.1.2.2.2.1 (X.1.2.2.2.2 _ hl) (X.1.2.2.2.2 _ h2) (X.1.2.2.2.2 _ h3) (X.1.2.2.2.2 _ h4) hr.1 hr.2 (cw_Xc X).1 (cw_Xc X).2 hd (kk p e s m args below meth c H locs ls X hP hS h)
theorem cw_lconst {n : Fin 2} {v : Int64} (hd : decode (cw_c M) pc = .ok (.lconst n, 1)) (hv : Int64.ofNat (n : Nat) = v) (kk : cw_B w w0 M Z mc ms uc us I (pc + 1) L (.long v :: st)) : cw_B w w0 M Z mc ms uc us I pc L st :=
  fun p e s m args below meth c H locs ls X hP hS h => lv_lconst X.1.1 X.1.2.1 hd hv (kk p e s m args below meth c H locs ls X hP hS h)
theorem cw_lload_n {k : Fin 4} {i : Nat} {x : Int64} (hd : decode (cw_c M) pc = .ok (.lload_n k, 1)) (j : Nat) (hi : (k : Nat) = i) (hl : L[j]? = some (i, .long x)) (kk : cw_B w w0 M Z mc ms uc us I (pc + 1) L (.long x :: st)) : cw_B w w0 M Z mc ms uc us I pc L st :=
  fun p e s m args below meth c H locs ls X hP hS h => lv_lload_n X.1.1 X.1.2.1 hd hi (lv_at h j hl) (kk p e s m args below meth c H locs ls X hP hS h)
theorem cw_lstore_n {k : Fin 4} {i : Nat} {x : Int64} (hd : decode (cw_c M) pc = .ok (.lstore_n k, 1)) (hi : (k : Nat) = i) (hn : i + 1 < cw_k M) (hl : (i, Value.long x) :: L.filter (fun q => !(q.1 == i) && (!(q.1 == i + 1) && !(q.1 + 1 == i && q.2.category == 2))) = L') (kk : cw_B w w0 M Z mc ms uc us I (pc + 1) L' st) : cw_B w w0 M Z mc ms uc us I pc L (.long x :: st) :=
  fun p e s m args below meth c H locs ls X hP hS h => lv_lstore_n X.1.1 X.1.2.1 hd hi h hn hl (fun ls' h' => kk p e s m args below meth c H locs ls' X hP hS h')
theorem cw_i2l {x : Int32} {v : Int64} (hd : decode (cw_c M) pc = .ok (.i2l, 1)) (hv : x.toInt64 = v) (kk : cw_B w w0 M Z mc ms uc us I (pc + 1) L (.long v :: st)) : cw_B w w0 M Z mc ms uc us I pc L (.int x :: st) :=
  fun p e s m args below meth c H locs ls X hP hS h => lv_i2l X.1.1 X.1.2.1 hd hv (kk p e s m args below meth c H locs ls X hP hS h)
theorem cw_lmul {x y : Int64} (hd : decode (cw_c M) pc = .ok (.lmul, 1)) (kk : cw_B w w0 M Z mc ms uc us I (pc + 1) L (.long (x * y) :: st)) : cw_B w w0 M Z mc ms uc us I pc L (.long y :: .long x :: st) :=
  fun p e s m args below meth c H locs ls X hP hS h => lv_lmul X.1.1 X.1.2.1 hd (kk p e s m args below meth c H locs ls X hP hS h)
theorem cw_lretX (hle : cw_le w0 w) {v : Int64} {r : Option Value} {I2 : cw_M} (hr : cw_r M = some .long) (hd : decode (cw_c M) pc = .ok (.lreturn, 1)) (h : r = some (.long v) ∧ I2 = I) : cw_B w w0 M (cw_ZN uc us w0 r I2) mc ms uc us I pc L [.long v] := by
  obtain ⟨rfl, rfl⟩ := h
  intro p e s m args below meth c H locs ls X hP hS hl
  exact W.lret X.1.1 X.1.2.1 (X.2.1.trans hr) (fun t ht hW => ⟨rfl, by rw [ht]; exact cw_le.P hle hP, hS.F ht⟩) hS.2.2 hd X.2.2.1
theorem cw_lret {v : Int64} {r : Option Value} {I2 : cw_M} (hr : cw_r M = some .long) (hd : decode (cw_c M) pc = .ok (.lreturn, 1)) (h : r = some (.long v) ∧ I2 = I) : cw_B w w M (cw_Z w r I2) mc ms 0 0 I pc L [.long v] := cw_lretX (cw_le.rfl) hr hd h
theorem cw_astore_n {k : Fin 4} {i : Nat} {x : Nat} (hd : decode (cw_c M) pc = .ok (.astore_n k, 1)) (hi : (k : Nat) = i) (hn : i < cw_k M) (hl : (i, Value.ref x) :: L.filter (fun q => !(q.1 == i) && !(q.1 + 1 == i && q.2.category == 2)) = L') (kk : cw_B w w0 M Z mc ms uc us I (pc + 1) L' st) : cw_B w w0 M Z mc ms uc us I pc L (.ref x :: st) :=
  fun p e s m args below meth c H locs ls X hP hS h => lv_astore_n X.1.1 X.1.2.1 hd hi h hn hl (fun ls' h' => kk p e s m args below meth c H locs ls' X hP hS h')
theorem cw_mabs {index : Nat} {x : Int32} (hl : Cond.methodLink (cw_y M).cls index Lib.Math.abs.name ∈ cw_w M) (h2 : Cond.static Lib.Math.abs.name ∈ cw_w M) (h3 : Cond.initialized "java/lang/Math" ∈ cw_w M) (h4 : Cond.code Lib.Math.abs.name Lib.Math.abs.code 1 (some .int) ∈ cw_w M) (hr : 1 ≤ cw_fr M ∧ (st.map fun v => v.category).sum + 13 ≤ cw_lo M) (hd : decode (cw_c M) pc = .ok (.invokestatic index, 3)) (kk : cw_B w w0 M Z mc ms uc us I (pc + 3) L (.int (if 0 ≤ x then x else 0 - x) :: st)) : cw_B w w0 M Z mc ms uc us I pc L (.int x :: st) :=
  fun p e s m args below meth c H locs ls X hP hS h => va_mabs X.1.1 X.1.2.1 (X.1.2.2.1.trans h.1.symm) X.1.2.2.2.1 (X.1.2.2.2.2 _ hl) (X.1.2.2.2.2 _ h2) (X.1.2.2.2.2 _ h3) (X.1.2.2.2.2 _ h4) hr.1 hr.2 (cw_Xc X).1 (cw_Xc X).2 hd (kk p e s m args below meth c H locs ls X hP hS h)
theorem cw_tableIn {dflt lo hi : Int} {offs : Array Int} {len : Nat} {x : Int32} {off : Int} {tgt : Nat} (hd : decode (cw_c M) pc = .ok (.tableswitch dflt lo hi offs, len)) (h1 : ¬ x.toInt < lo) (h2 : ¬ hi < x.toInt) (ho : offs[(x.toInt - lo).toNat]? = some off) (ht : (pc : Int) + off = (tgt : Int)) (kk : cw_B w w0 M Z mc ms uc us I tgt L st) : cw_B w w0 M Z mc ms uc us I pc L (.int x :: st) :=
  fun p e s m args below meth c H locs ls X hP hS h => lv_tableIn X.1.1 X.1.2.1 hd h1 h2 ho ht (kk p e s m args below meth c H locs ls X hP hS h)
theorem cw_tableOut {dflt lo hi : Int} {offs : Array Int} {len : Nat} {x : Int32} {tgt : Nat} (hd : decode (cw_c M) pc = .ok (.tableswitch dflt lo hi offs, len)) (h1 : x.toInt < lo ∨ hi < x.toInt) (ht : (pc : Int) + dflt = (tgt : Int)) (kk : cw_B w w0 M Z mc ms uc us I tgt L st) : cw_B w w0 M Z mc ms uc us I pc L (.int x :: st) :=
  fun p e s m args below meth c H locs ls X hP hS h => lv_tableOut X.1.1 X.1.2.1 hd h1 ht (kk p e s m args below meth c H locs ls X hP hS h)
end CWI
