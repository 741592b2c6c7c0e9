/-! A NoSuchElementException: its constructor's code names its super's at pool index 13 (the printed words say 7). The words put right (and the word that Enum is initialised, which no table gives and nothing needs, put away: see 02e), and the row of 'throw new NoSuchElementException(text)'. -/
abbrev nse_X : String := "java/util/NoSuchElementException"
abbrev nse_R : String := "java/lang/RuntimeException"
abbrev nse_ns : List String := [nse_R, "java/lang/Exception"]
def nse_fix (w : Cond) : Cond := if w = .code (Bundle.initS nse_X) Bundle.six 2 none then .code (Bundle.initS nse_X) prog_31_method_4_code 2 none else if w = .methodLink nse_X 7 (Bundle.initS nse_R) then .methodLink nse_X 13 (Bundle.initS nse_R) else if w = .initialized "java/lang/Enum" then .initialized RX10 else w
def nse_at : List Cond := (vx_atS RX10 143 nse_X nse_ns).map nse_fix
def nse_all : List Cond := (Bundle.ownAtoms RX10 143 nse_X nse_ns).map nse_fix
theorem nse_id {w : Cond} (h1 : goodWord w = false) : nse_fix w = w := by
  unfold nse_fix
  split
  · next q => rw [q] at h1; exact absurd h1 (by decide +kernel)
  · split
    · next q => rw [q] at h1; exact absurd h1 (by decide +kernel)
    · split
      · next q => rw [q] at h1; exact absurd h1 (by decide +kernel)
      · rfl
theorem nse_good {w : Cond} : goodWord (nse_fix w) = goodWord w := by
  unfold nse_fix
  split
  · next q => rw [q]; decide +kernel
  · split
    · next q => rw [q]; decide +kernel
    · split
      · next q => rw [q]; decide +kernel
      · rfl
theorem nse_no (w : Cond) : vx_no (nse_fix w) = vx_no w := by
  unfold nse_fix
  split
  · next q => rw [q]; decide +kernel
  · split
    · next q => rw [q]; decide +kernel
    · split
      · next q => rw [q]; decide +kernel
      · rfl
theorem nse_filter : nse_all.filter vx_no = nse_at := by
  unfold nse_all nse_at vx_atS
  rw [List.filter_map]
  congr 1
  all_goals exact List.filter_congr fun w _ => nse_no w
/-- good words stay good where both lists are put right -/
theorem nse_gm {big ws : List Cond} (h : GoodIn big ws) : GoodIn (big.map nse_fix) (ws.map nse_fix) := by
  intro w hw
  obtain ⟨w0, hw0, rfl⟩ := List.mem_map.mp hw
  refine ⟨List.mem_map_of_mem (h w0 hw0).1, ?_⟩
  have h2 := (h w0 hw0).2
  unfold nse_fix
  split
  · exact Or.inl (by decide +kernel)
  · split
    · exact Or.inl (by decide +kernel)
    · split
      · exact Or.inl (by decide +kernel)
      · exact h2
/-- a list with neither of the two words -/
theorem nse_gi {big ws : List Cond} (h : GoodIn big ws) (hn : ws.all (fun w => decide (nse_fix w = w)) = true) : GoodIn (big.map nse_fix) ws := by
  have e : ws.map nse_fix = ws := (List.map_congr_left fun w hw => of_decide_eq_true (List.all_eq_true.mp hn w hw)).trans (List.map_id _)
  have h2 := nse_gm h
  rw [e] at h2
  exact h2
theorem nse_mem {big : List Cond} {w : Cond} (h : w ∈ big) (hn : nse_fix w = w) : w ∈ big.map nse_fix := List.mem_map.mpr ⟨w, h, hn⟩
theorem nse_head {w : Cond} {ws : List Cond} (h : nse_fix w = w) : ∃ ws', (w :: ws).map nse_fix = w :: ws' := ⟨ws.map nse_fix, by rw [List.map_cons, h]⟩
theorem nse_in0 : (Bundle.throwableAtoms ++ Bundle.throwableSAtoms).all (fun w => decide (w ∈ nse_all)) = true := by decide +kernel
theorem nse_in1 : (Bundle.passSAtoms nse_X nse_R 13 prog_31_method_4_code).all (fun w => decide (w ∈ nse_all)) = true := by decide +kernel
theorem nse_in2 : (Bundle.chainSAtoms nse_R ["java/lang/Exception"]).all (fun w => decide (w ∈ nse_all)) = true := by decide +kernel
theorem nse_chain {args : Array Value} {s : State} {pl : Platform} (hpl : pl.magicAccessors = ({} : Platform).magicAccessors) {top : MethodId} (htop : s.methodNamed? (Bundle.initS Bundle.tN) = some top) (h : ∀ w ∈ nse_all, w.before args s = true) :
    ∃ (P1 : PassC) (Ps : List PassC), Ps.length = 2 ∧ P1.LinksS pl s ∧ (∀ P, P ∈ Ps → P.LinksS pl s) ∧ s.methodNamed? (Bundle.initS nse_X) = some P1.m ∧ P1.sup = firstOf top (Ps.map (·.toPassT)) ∧ PassesOn top (Ps.map (·.toPassT)) := by
  obtain ⟨P, L, hm, hs⟩ := PassC.ofS_atoms (args := args) (s := s) hpl (X := nse_X) (Y := nse_R) (index := 13) (bytes := prog_31_method_4_code) (by decide +kernel) (by decide) (by decide +kernel) (by decide +kernel) (by decide +kernel) (by decide +kernel) (fun c hc => h c (of_decide_eq_true (List.all_eq_true.mp nse_in1 c hc)))
  obtain ⟨P', Ps, hlen, L', hL, hm', hsup, hpass⟩ := Bundle.chainS (args := args) hpl htop ["java/lang/Exception"] nse_R (by decide +kernel) (by decide +kernel) (fun c hc => h c (of_decide_eq_true (List.all_eq_true.mp nse_in2 c hc)))
  refine ⟨P, P' :: Ps, by rw [List.length_cons, hlen]; rfl, L, fun Q hQ => ?_, hm, Option.some.inj (hs.symm.trans hm'), hsup, hpass⟩
  rcases List.mem_cons.mp hQ with rfl | hQ
  · exact L'
  · exact hL Q hQ
section NSE
variable {p : Program} {l : Launch} {e : Env} {R : Room} {s : State} {m : MethodId} {args : Array Value} {below : List Frame} {meth : Method} {c : Code} {H : Heap} {locs : List Loc} {cells slots : Nat} {Qc : Array Value → State → Outcome → State → Prop} {XC : String → State → State → Prop} {free : Addr → Prop} {ls : Array Slot} {rest : List Value}
theorem nse_has {w : Cond} (s0 : State) (h : ∀ w ∈ nse_all, w.before args s0 = true) (hm : nse_all.contains w = true) : w.holds args s0 none s0 [] = true := h w (List.contains_iff_mem.mp hm)
theorem nse_ot : nse_at.all (fun w => decide (vx_ot w = true)) = true := by decide +kernel
set_option maxHeartbeats 1000000 in
/-- the constructor run on a new object: the object is the exception, nothing else is written -/
theorem nse_made {W : State} (X : Stand p l e R s m args below meth c W locs cells slots) (hexec : p.tables.exec = Jvm.exec) (htr : e.platform.stackTraces = false) (hown : s.vm.findClass RX10 = some m.cls) (h : ∀ w ∈ nse_all, w.before args s = true)
    (hlocs : ∀ x ∈ locs, ∀ cell, s.heap[x.base]? = some cell → cell.vm.isStatics = false) {a : Addr} {cX : ClassId} {kX : Class} (hf : s.vm.findClass nse_X = some cX) (hk : s.vm.classes[cX]? = some kX) (hcell : W.heap[a]? = some (freshCell cX kX)) (hnew : s.heap.size ≤ a)
    {msg : Value} (hmsg : msg.isRef = true) {g : JFrame} (hg : g.method = m) (hsize : g.locals.size = c.maxLocals) {rest : List Value} (hstack : g.stack = msg :: .ref a :: .ref a :: rest) (hd6 : decode c.code g.pc = .ok (.invokespecial 143, 3))
    (hRf : 5 < R.frames) (hRl : 2 * g.monitorRoom + ((Value.ref a :: rest).map fun v => v.category).sum + 81 ≤ R.locals) :
    ∃ (V : State) (ce : Cell) (L : List Loc), Stand p l e R s m args below meth c (V.setCell a ce) (locs ++ L) cells slots ∧ (∀ y ∈ L, y.base = a) ∧ a < V.heap.size ∧ ce.cls = cX ∧ ce.vm = .none ∧
      ∀ target, Steps p.tables e below ((V.setCell a ce).setTop { g with stack := .ref a :: rest, pc := g.pc + 3 }) target → Steps p.tables e below (W.setTop g) target := by
  have pf := X.admits.platform
  have hpl : e.platform.magicAccessors = ({} : Platform).magicAccessors := by rw [pf]
  obtain ⟨T, Z0, L, -, Y⟩ := ThrowableC.of_atoms (args := args) (s := s) (by rw [pf]) (by rw [pf]) hpl (fun x hx => h x (of_decide_eq_true (List.all_eq_true.mp nse_in0 x (List.mem_append_left _ hx))))
  obtain ⟨Z, M, LZ, LM, hnZ⟩ := Init0T.ofS_atoms (args := args) hpl L Y (fun x hx => h x (of_decide_eq_true (List.all_eq_true.mp nse_in0 x (List.mem_append_right _ hx))))
  obtain ⟨P1, Ps, hlen, L1, hL, hm1, hlink1, hlink⟩ := nse_chain (args := args) hpl hnZ h
  have hcls := findClass_of_methodNamed hm1
  obtain rfl : P1.m.cls = cX := Option.some.inj (hcls.symm.trans hf)
  obtain ⟨c1, k1, hc1, hk1, hord, -, -, hn6⟩ := Cond.instantiable_spec (nse_has s h (by decide +kernel : nse_all.contains (.instantiable nse_X 6) = true))
  obtain rfl : c1 = P1.m.cls := Option.some.inj (hc1.symm.trans hcls)
  obtain rfl : k1 = kX := Option.some.inj (hk1.symm.trans hk)
  have sel0 : selectMethod e.platform s.vm P1.m.cls T.fill0 = .method T.fill0 := by
    obtain ⟨c2, r2, m2, q1, q2, q3, q4, -⟩ := Cond.selects_spec (nse_has s h (by decide +kernel : nse_all.contains (.selects nse_X Bundle.tFill0 Bundle.tFill0) = true))
    obtain rfl := Option.some.inj (q1.symm.trans hcls)
    obtain rfl := Option.some.inj (q2.symm.trans (State.methodFound?_of_named Y.fill0 (by decide)))
    obtain rfl := Option.some.inj (q3.symm.trans Y.fill0)
    rw [Launch.admits_selectMethod X.admits]
    exact q4
  have selF : selectMethod e.platform s.vm P1.m.cls T.fill = .method T.fill := by
    obtain ⟨c2, r2, m2, q1, q2, q3, q4, -⟩ := Cond.selects_spec (nse_has s h (by decide +kernel : nse_all.contains (.selects nse_X Bundle.tFill Bundle.tFill) = true))
    obtain rfl := Option.some.inj (q1.symm.trans hcls)
    obtain rfl := Option.some.inj (q2.symm.trans (State.methodFound?_of_named Y.fill (by decide)))
    obtain rfl := Option.some.inj (q3.symm.trans Y.fill)
    rw [Launch.admits_selectMethod X.admits]
    exact q4
  obtain ⟨cs0, hc0, hiss⟩ := Y.statics
  obtain ⟨u0, hu0⟩ := Cond.staticRefV Y.unassigned L.unassignedStatic L.statics hc0 hiss (nse_has s h (by decide +kernel : nse_all.contains (.isRef (.static Bundle.tN "UNASSIGNED_STACK" Bundle.steD)) = true))
  obtain ⟨sen, hsen⟩ := Cond.staticRefV Y.sentinel L.sentinelStatic L.statics hc0 hiss (nse_has s h (by decide +kernel : nse_all.contains (.isRef (.static Bundle.tN "SUPPRESSED_SENTINEL" Bundle.listD)) = true))
  obtain ⟨cb, ib, fB, b1, b2, b3, b4, -, hnB, htB, hffB⟩ := Cond.ownField (t := .object "java/lang/Object") Y.found L.cls (by decide +kernel) (nse_has s h (by decide +kernel : nse_all.contains (.fieldLink Bundle.tN 198 Bundle.tN "backtrace" "Ljava/lang/Object;") = true)) (nse_has s h (by decide +kernel : nse_all.contains (.lays Bundle.tN Bundle.tN "backtrace" "Ljava/lang/Object;") = true)) e.platform hpl
  obtain ⟨cs, hcs, hes, -, hkeep⟩ := X.same.2.2.2.2.2 T.aS cs0 hc0
  have hcS : W.heap[T.aS]? = some cs := hcs
  have hap : ∀ i, (⟨T.aS, i⟩ : Loc) ∉ locs := fun i hi => by
    have q := hlocs _ hi cs0 hc0
    rw [hiss] at q
    cases q
  have hkn : cs.vm ≠ .unknown := fun hu => by
    have q0 : cs.vm = cs0.vm := by rw [hes]
    rw [← q0, hu] at hiss
    cases hiss
  have hne : T.aS ≠ a := Nat.ne_of_lt (Nat.lt_of_lt_of_le (Array.getElem?_eq_some_iff.mp hc0).1 hnew)
  obtain ⟨iM, hffM⟩ := Y.msg
  obtain ⟨tC, eC, nC, xC⟩ := Cond.laysAt hcls hk Y.cause (nse_has s h (by decide +kernel : nse_all.contains (.lays nse_X Bundle.tN "cause" "Ljava/lang/Throwable;") = true))
  obtain ⟨tS, eS, nS, xS⟩ := Cond.laysAt hcls hk Y.stack (nse_has s h (by decide +kernel : nse_all.contains (.lays nse_X Bundle.tN "stackTrace" Bundle.steD) = true))
  obtain ⟨tP, eP, nP, xP⟩ := Cond.laysAt hcls hk Y.supp (nse_has s h (by decide +kernel : nse_all.contains (.lays nse_X Bundle.tN "suppressedExceptions" Bundle.listD) = true))
  obtain ⟨tM, eM, nM, xM⟩ := Cond.laysAt hcls hk hffM (nse_has s h (by decide +kernel : nse_all.contains (.lays nse_X Bundle.tN "detailMessage" "Ljava/lang/String;") = true))
  obtain ⟨tB, eB, nB, xB⟩ := Cond.laysAt hcls hk hffB (nse_has s h (by decide +kernel : nse_all.contains (.lays nse_X Bundle.tN "backtrace" "Ljava/lang/Object;") = true))
  have a1 := Cond.laysApart nB nC xB xC (by rw [hnB, Y.causeName]; decide)
  have a2 := Cond.laysApart nB nS xB xS (by rw [hnB, Y.stackName]; decide)
  have a3 := Cond.laysApart nB nP xB xP (by rw [hnB, Y.suppName]; decide)
  have hskip : SkipFacts T e.platform s (fun u => u) u0 ((preparedCellV T.toThrowableT (freshCell P1.m.cls k1) a u0 sen).withEntry W.cur) := by
    refine ⟨{ ci198 := cb, i198 := ib, fBack := fB }, ⟨b1, b2, b3, b4⟩, ?_, fun _ _ => rfl⟩
    have q := fresh_default (c := P1.m.cls) tB
    rw [htB] at q
    simpa [preparedCellV, Cell.setSlot, Cell.withEntry, Array.getElem?_setIfInBounds, a1, a2, a3, a1.symm, a2.symm, a3.symm, defaultValue] using q
  obtain ⟨tm, mC, cC, kC, vm1, hnC, -, -, -, -, -, -, -, hW1, st1⟩ := Steps.initColdS (tb := p.tables) (e := e) (below := below) (s := s) (U := W) X.here hexec X.warmed hpl hown (t := Bundle.initS nse_X) rfl rfl (by decide) (nse_has s h (by decide +kernel : nse_all.contains (.methodLink RX10 143 (Bundle.initS nse_X)) = true)) (nse_has s h (by decide +kernel : nse_all.contains (.instanceMethod (Bundle.initS nse_X)) = true)) (bytes := prog_31_method_4_code) (maxL := 2) (nse_has s h (by decide +kernel : nse_all.contains (.code (Bundle.initS nse_X) prog_31_method_4_code 2 none) = true)) (f := g) hg (a := a) (msg := msg) (rest := .ref a :: rest) hstack hd6
  obtain rfl : tm = P1.m := Option.some.inj (hnC.symm.trans hm1)
  obtain ⟨vm2, X2, st2⟩ := (X.noted hW1).ctorMessageOffV hexec (g := { g with stack := .ref a :: rest }) hg hsize T L Z LZ M LM (P1 :: Ps) (List.forall_mem_cons.mpr ⟨L1, hL⟩) ⟨hlink1, hlink⟩ (u0 := u0) (sen := sen) (self := a) hmsg (cell := freshCell P1.m.cls k1) (cellS := cs)
    hcell (fun _ => by simp) (by simp) rfl rfl sel0 selF hcS hne hkn (by rw [hkeep _ (hap _)]; exact hu0) (by rw [hkeep _ (hap _)]; exact hsen)
    (Takes.of_laid hk hord tC (by rw [Y.causeType]; rfl)) (Takes.of_laid hk hord tS (by rw [Y.stackType]; exact fits_refV_array _ u0)) (Takes.of_laid hk hord tP (by rw [Y.suppType]; exact fits_refV_object _ sen))
    (Takes.of_laid hk hord tM (by rw [Y.msgType]; exact fits_refV_object _ ⟨msg, hmsg⟩)) Y.objLocals hskip htr [] hd6 (by rw [List.length_cons, hlen]; omega) (by rw [List.length_cons, hlen]; exact hRl)
  refine ⟨(W.setVm vm1).setVm vm2, _, _, X2, fun y hy => ?_, (Array.getElem?_eq_some_iff.mp hcell).1, rfl, rfl, fun target hwalk => st1 _ (fun acts => ?_)⟩
  · simp only [List.mem_cons, List.not_mem_nil, or_false] at hy
    rcases hy with rfl | rfl | rfl | rfl | rfl <;> rfl
  · rw [doInvoke_state]
    exact st2 _ hwalk
set_option maxHeartbeats 1000000 in
/-- 'throw new NoSuchElementException("text")' -/
theorem nse_throw {cc : ByteArray} {pc : Nat} (hexec : p.tables.exec = Jvm.exec) (hb : c.code = cc) (hl : l.stackTraces = false) {text : String} {is mc ms sa : Nat} {A : Nat → Prop}
    (hown : s.vm.findClass RX10 = some m.cls) (hk : (Cond.classLink RX10 139 nse_X).before args s = true) (hini : (Cond.initialized nse_X).before args s = true) (hstr : vk_R RX10 is text sa s) (hat : ∀ w ∈ nse_at, w.before args s = true)
    (hU : vx_Zq Bundle.tN "UNASSIGNED_STACK" Bundle.steD A s s.heap) (hN : vx_Zq Bundle.tN "SUPPRESSED_SENTINEL" Bundle.listD A s s.heap) (hS : va_S A s.heap H locs) (hsize : ls.size = c.maxLocals)
    (d0 : decode cc pc = .ok (.new 139, 3)) (d3 : decode cc (pc + 3) = .ok (.dup, 1)) (d4 : decode cc (pc + 4) = .ok (.ldc is, 2)) (d6 : decode cc (pc + 6) = .ok (.invokespecial 143, 3)) (d9 : decode cc (pc + 9) = .ok (.athrow, 1))
    (hout : ∀ x ∈ c.exceptionTable.toList, covers x (pc + 9) = false)
    (hRf : 5 < R.frames) (hRl : (rest.map fun v => v.category).sum + 82 ≤ R.locals) (hRc : cells + 1 ≤ R.cells) (hRs : slots + 6 ≤ R.slots) (hlocks : meth.locks = false)
    (hx : ∀ t : State, s.vm.Alike t.vm → H.size ≤ t.heap.size → (∀ q : Nat, q < H.size → t.heap[q]? = H[q]?) → XC nse_X s t)
    (hf : ∀ z ∈ locs, free z.base) (hc : cells + 1 ≤ mc) (hs : slots + 6 ≤ ms) :
    W p l e R s m args below meth c H locs cells slots (vx_MQ below Qc XC args s mc ms free) (F0 m pc ls rest) := by
  intro T hT X
  have htr : e.platform.stackTraces = false := (show e.platform.stackTraces = l.stackTraces by rw [X.admits.platform]).trans hl
  have Y := vx_rebase X (R' := { frames := R.frames, locals := R.locals, cells := 1, slots := 6 }) (Nat.le_refl _) (Nat.le_refl _) hRc hRs
  generalize hA : (T.setVm s.vm).setFrames (.invoking m args :: below) = s2 at Y
  have hvm : s2.vm = s.vm := by rw [← hA]; rfl
  have hhp : s2.heap = H := by rw [← hA]; exact hT
  have hW0 : s.WarmedH s2.vm := by rw [hvm]; exact State.WarmedH.refl s
  have up : ∀ w : Cond, vx_ot w = true → w.before args s = true → w.before args s2 = true := fun w hg q => vx_ot_at hW0 hvm.symm hg q
  have hU2 : vx_Zq Bundle.tN "UNASSIGNED_STACK" Bundle.steD A s2 s2.heap := by rw [hhp]; exact vx_Zq.moved hW0.alike (hU.kept hS.2.1)
  have hN2 : vx_Zq Bundle.tN "SUPPRESSED_SENTINEL" Bundle.listD A s2 s2.heap := by rw [hhp]; exact vx_Zq.moved hW0.alike (hN.kept hS.2.1)
  have h : ∀ w ∈ nse_all, w.before args s2 = true := vx_own (L := nse_all) (fun w hw => by
    rw [nse_filter] at hw
    exact up w (of_decide_eq_true (List.all_eq_true.mp nse_ot w hw)) (hat w hw)) (vx_isRefq hU2.1) (vx_isRefq hN2.1) hU2.2.word hN2.2.word
  have hown2 : s2.vm.findClass RX10 = some m.cls := by rw [hvm]; exact hown
  obtain ⟨vm1, cX, kX, hfX, hkX, -, -, X1, st1⟩ := Y.newCold hexec (own := RX10) (C := nse_X) (index := 139) (n := 6) hown2 (up _ (by decide +kernel) hk) (nse_has s2 h (by decide +kernel : nse_all.contains (.instantiable nse_X 6) = true)) (up _ (by decide +kernel) hini)
    (g := F0 m pc ls rest) rfl (by rw [hb]; exact d0) (Nat.le_refl _) (Nat.le_refl _)
  generalize hT1 : (T.setVm vm1).pushCell { cls := cX, slots := kX.instanceTypes.map defaultValue, vm := .none } = T1 at X1 st1
  have hcell : T1.heap[T.heap.size]? = some (freshCell cX kX) := by rw [← hT1]; exact State.heap_pushCell_size _ _
  have d3' : decode c.code (pc + 3) = .ok (.dup, 1) := by rw [hb]; exact d3
  have d4' : decode c.code (pc + 4) = .ok (.ldc is, 2) := by rw [hb]; exact d4
  have hstr2 : vk_R RX10 is text sa s2 := vk_R.warm hW0 hstr
  obtain ⟨V, ce, L, X2, hL, hlt, hce, hno, st2⟩ := nse_made X1 hexec htr hown2 h (fun x hx => nomatch hx) hfX hkX hcell (by rw [hhp, hT]; exact Nat.le_refl _) (msg := .ref sa) rfl
    (g := { method := m, pc := pc + 6, locals := ls, stack := .ref sa :: .ref T.heap.size :: .ref T.heap.size :: rest, locked := none }) rfl hsize rfl (by rw [hb]; exact d6) hRf (by show 2 * 0 + (1 + (rest.map fun v => v.category).sum) + 81 ≤ R.locals; omega)
  obtain ⟨hwalk, hrun, hend, hWU, hsame⟩ := X2.athrowLeaves hexec (g := { method := m, pc := pc + 9, locals := ls, stack := .ref T.heap.size :: rest, locked := none }) rfl rfl rfl hout (a := T.heap.size) (rest := rest) rfl (by rw [hb]; exact d9) hlocks
  have hsame2 := hsame.weaken (l' := []) (fun y hy hlt2 => by
    rw [hL y (by simpa using hy), hhp, hT] at hlt2
    exact absurd hlt2 (Nat.lt_irrefl _)) (Nat.le_refl _) (Nat.le_refl _)
  obtain ⟨f1, f2⟩ := vx_frame hsame2
  rw [hhp] at f1 f2
  have hWs : s.WarmedH ((V.setCell T.heap.size ce).setFrames (.throwing T.heap.size :: below)).vm := State.WarmedH.trans hW0 hWU
  have hall : s.sameButNew ({ (V.setCell T.heap.size ce).setFrames (.throwing T.heap.size :: below) with vm := s.vm } : State) locs mc ms := by
    subst hA
    obtain ⟨e1, e2⟩ := hsame2
    rw [State.setFrames_setFrames] at e1
    have h3 := X.same.trans (show (T.setVm s.vm).sameButNew _ [] (0 + 1) (0 + 6) from ⟨e1, e2⟩)
    rw [List.append_nil] at h3
    exact h3.mono hc hs
  refine ⟨_, st1 _ ?_, .threw T.heap.size, hrun, hend, Or.inr ⟨T.heap.size, rfl, nse_X, ce, locs, hx _ hWs.alike f1 (fun q hq => f2 q hq (fun z hz => nomatch hz)), heapAt_setCell_self (s := V) ce hlt, hno, ?_, hWs, hall, hf⟩⟩
  · show Steps p.tables e below (T1.setTop { method := m, pc := pc + 3, locals := ls, stack := .ref T.heap.size :: rest, locked := none }) _
    jvm_step X1.here [X1.here.top, hexec, d3', Value.category]
    exact X1.ldcString hexec (own := RX10) (text := text) (index := is) (a := sa) hown2 hstr2.1 hstr2.2
      (g := { method := m, pc := pc + 4, locals := ls, stack := .ref T.heap.size :: .ref T.heap.size :: rest, locked := none }) rfl d4' _ (st2 _ hwalk)
  · rw [hce, ← hvm]
    exact hfX
end NSE
theorem nse_gv {big ws : List Cond} {own C : String} {i : Nat} {y : MethodName} (h : GoodIn big (wsV own i C y ws)) (hn : (wsV own i C y []).all (fun w => decide (nse_fix w = w)) = true) : GoodIn (big.map nse_fix) (wsV own i C y (ws.map nse_fix)) := by
  intro w hw
  have e : ∀ L : List Cond, wsV own i C y L = wsV own i C y [] ++ L := fun L => rfl
  rw [e] at hw
  rcases List.mem_append.mp hw with q | q
  · have h2 := nse_gm h w (List.mem_map.mpr ⟨w, by rw [e]; exact List.mem_append_left _ q, of_decide_eq_true (List.all_eq_true.mp hn w q)⟩)
    exact h2
  · obtain ⟨w0, q0, rfl⟩ := List.mem_map.mp q
    exact nse_gm h _ (List.mem_map_of_mem (by rw [e]; exact List.mem_append_right _ q0))
section CWN
variable {w : cw_G} {M : cw_Me} {I : cw_M} {pc : Nat} {L : List (Nat × Value)} {st : List Value}
theorem cw_throwN {text : String} {is : Nat} {E : String} {I2 : cw_M} (hl : (cw_l w).stackTraces = false) (hF : cw_Ft (cw_f w) RX10 143 nse_X nse_ns is text) (hM : (cw_y M).cls = RX10)
    (hk : Cond.classLink RX10 139 nse_X ∈ cw_w M) (hini : Cond.initialized nse_X ∈ cw_w M) (hat : ∀ x ∈ nse_at.filter goodWord, x ∈ cw_w M)
    (d0 : decode (cw_c M) pc = .ok (.new 139, 3)) (d3 : decode (cw_c M) (pc + 3) = .ok (.dup, 1)) (d4 : decode (cw_c M) (pc + 4) = .ok (.ldc is, 2)) (d6 : decode (cw_c M) (pc + 6) = .ok (.invokespecial 143, 3)) (d9 : decode (cw_c M) (pc + 9) = .ok (.athrow, 1))
    (hr : 5 < cw_fr M ∧ (st.map fun v => v.category).sum + 82 ≤ cw_lo M) (h : E = nse_X ∧ I2 = I) : cw_B w M (cw_Zx w E I2) 1 6 I pc L st := by
  obtain ⟨rfl, rfl⟩ := h
  intro p e s m args below meth c H locs ls X hP hS hl9
  obtain ⟨hU, hN, ⟨sa, hsa⟩, hB⟩ := hF _ _ _ X.2.2.2.2.2.1
  have hat2 : ∀ x ∈ nse_at, x.before args s = true := by
    intro x hx
    cases hq : goodWord x with
    | true => exact X.1.2.2.2.2 _ (hat x (List.mem_filter.mpr ⟨hx, hq⟩))
    | false =>
      have ho := of_decide_eq_true (List.all_eq_true.mp nse_ot x hx)
      obtain ⟨x0, hx0, rfl⟩ := List.mem_map.mp hx
      have hq0 : goodWord x0 = false := by rw [← nse_good]; exact hq
      rw [nse_id hq0] at ho hq ⊢
      refine va_Nw.use ?_ (hB x0 (List.mem_filter.mpr ⟨hx0, by rw [hq0]; rfl⟩))
      simp only [vx_ot, Bool.or_eq_true] at ho
      rcases ho with q | q
      · exact q
      · rw [q] at hq
        cases hq
  exact nse_throw X.1.1 X.1.2.1 hl (by rw [← hM]; exact X.1.2.2.2.1) (X.1.2.2.2.2 _ hk) (X.1.2.2.2.2 _ hini) hsa hat2 hU hN hS (hl9.1.trans X.1.2.2.1.symm) d0 d3 d4 d6 d9 (fun x hx => (X.2.2.2.2.2.2.2 x hx).elim) hr.1 hr.2 (Nat.le_refl 1) (Nat.le_refl 6) X.2.2.1 (fun t hvm hz hk9 => ⟨rfl, hP.kept fun k q hq => hk9 _ (hP k q hq).lt, ⟨Nat.le_trans hS.1 hz, fun q h1 h2 => by rw [hk9 q (Nat.lt_of_lt_of_le h1 hS.1)]; exact hS.2.1 q h1 h2⟩⟩) hS.2.2 (Nat.le_refl 1) (Nat.le_refl 6)
end CWN
