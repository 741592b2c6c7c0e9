/-! Verb.ordinal(), walked: Enum isn't among the classes that the tables say are initialised, and its getter needs no such word. -/
abbrev ord_x : MethodName := ⟨"CakeDivision$Verb", "ordinal", "()I"⟩
def ord_ws (own : String) (i : Nat) : List Cond := [.methodLink own i ord_x, .sameMethod "CakeDivision$Verb" "java/lang/Enum" "ordinal" "()I", .selects RX9 ord_x yJx29ce0_ordinal_8abf5, .instanceMethod yJx29ce0_ordinal_8abf5, .code yJx29ce0_ordinal_8abf5 cJx29ce0_ordinal_8abf5 1 (some .int), .fieldLink RJx29ce0 7 "java/lang/Enum" "ordinal" "I"]
section ORD
variable {p : Program} {l : Launch} {e : Env} {R : Room} {s : State} {m : MethodId} {args : Array Value} {below : List Frame} {meth : Method} {c : Code} {T : State} {locs : List Loc} {cells slots : Nat}
theorem ord_step (X : Stand p l e R s m args below meth c T locs cells slots) (hexec : p.tables.exec = Jvm.exec) {own : String} {index : Nat} (hown : s.vm.findClass own = some m.cls) (hw : ∀ w ∈ ord_ws own index, w.before args s = true)
    {b : Addr} {cellB : Cell} {o : Int32} {f : Field} (hcell : T.heap[b]? = some cellB) (hobj : cellB.vm.isStatics = false) (hcls : s.vm.findClass RX9 = some cellB.cls) (hff : ∃ cf k i, s.fieldFound? "java/lang/Enum" "ordinal" "I" = some (cf, k, i, f)) (hst : f.isStatic = false) (hkn : cellB.vm ≠ .unknown) (hsl : cellB.slots[f.slot]? = some (.int o))
    {g : JFrame} (hg : g.method = m) (hsize : g.locals.size = c.maxLocals) {rest : List Value} (hstack : g.stack = .ref b :: rest) (hW : 2 * g.monitorRoom + (rest.map fun v => v.category).sum + 12 ≤ R.locals) (hfr : 1 ≤ R.frames) (hd : decode c.code g.pc = .ok (.invokevirtual index, 3)) :
    ∃ vm2, Stand p l e R s m args below meth c (T.setVm vm2) locs cells slots ∧ ∀ target, Steps p.tables e below ((T.setVm vm2).setTop { g with pc := g.pc + 3, stack := .int o :: rest }) target → Steps p.tables e below (T.setTop g) target := by
  have hpl : e.platform.magicAccessors = ({} : Platform).magicAccessors := by rw [X.admits.platform]
  have hcode := hw (.code yJx29ce0_ordinal_8abf5 cJx29ce0_ordinal_8abf5 1 (some .int)) (by simp [ord_ws])
  obtain ⟨mk, me, hnamed, hme, hstM, habM⟩ := Cond.instanceMethod_spec (hw (.instanceMethod yJx29ce0_ordinal_8abf5) (by simp [ord_ws]))
  obtain ⟨me2, cM, hme2, hcM, hbM, hlM, hret, hlk, -, hsig⟩ := Cond.code_spec hnamed hcode
  obtain rfl := Option.some.inj (hme.symm.trans hme2)
  have hsame := hw (.sameMethod "CakeDivision$Verb" "java/lang/Enum" "ordinal" "()I") (by simp [ord_ws])
  obtain ⟨cn, ck, r1, hcn, hck, hni, hf, hn1⟩ := Cond.sameMethod_found hsame
  obtain rfl := Option.some.inj (hnamed.symm.trans hn1)
  obtain ⟨c2, r2, m2, q1, q2, q3, q4, kP, hkP, hkPi⟩ := Cond.selects_spec (hw (.selects RX9 ord_x yJx29ce0_ordinal_8abf5) (by simp [ord_ws]))
  obtain rfl := Option.some.inj (hcls.symm.trans q1)
  obtain rfl := Option.some.inj (hf.symm.trans q2)
  obtain rfl := Option.some.inj (hnamed.symm.trans q3)
  have hsel : selectMethod e.platform s.vm cellB.cls mk = .method mk := by
    rw [Launch.admits_selectMethod X.admits]
    exact q4
  have hpar : me.sig.parameters.length = 0 := by
    have q := hsig
    rw [show parseMethodDescriptor (yJx29ce0_ordinal_8abf5).desc = some ⟨[], some .int⟩ from by decide +kernel] at q
    rw [← Option.some.inj q]
    rfl
  obtain ⟨vm1, X1, st1⟩ := X.invokevirtualUp hexec (x := ord_x) (owner := "java/lang/Enum") hown (hw (.methodLink own index ord_x) (by simp [ord_ws])) hsame (by decide) hnamed hme hstM (a := b) (cell := cellB) hcell (fun z h => by rw [h] at hobj; cases hobj) hsel hme habM hkP hkPi (g := g) hg (argsL := []) (rest := rest) hpar.symm hstack hd
  obtain ⟨ci, cf, k, i, f2, hi, hlinks, hright⟩ := Cond.fieldLink_spec (findClass_of_methodNamed hnamed) (hw (.fieldLink RJx29ce0 7 "java/lang/Enum" "ordinal" "I") (by simp [ord_ws])) e.platform hpl
  obtain ⟨cf0, k0, i0, hi0⟩ := hff
  have hee := Option.some.inj (hi.symm.trans hi0)
  obtain rfl : f2 = f := congrArg (fun z => z.2.2.2) hee
  obtain ⟨hk, hfk⟩ := State.fieldFound?_spec hi
  obtain ⟨vm3, hg3, hwarm3, hready3, hfi3⟩ := State.fieldEntry (e := e) X1.warmed hlinks hright hk hfk
  have hal1 := X1.warmed.alike
  have hal : (T.setVm vm1).vm.Alike vm3 := hal1.symm.trans hwarm3.alike
  have hm1 : (T.setVm vm1).vm.method? mk = some me := by rw [hal1.method?]; exact hme
  obtain ⟨kc, hkc, hnc⟩ := className_of_methodNamed hnamed
  obtain ⟨kc1, hkc1, hec1⟩ := hal1.2.2 _ _ hkc
  have hplain : (T.setVm vm1).plainMethod mk := State.plainMethod.of_name (fun k' hk' => by
    cases (show (T.setVm vm1).vm.classes[mk.cls]? = some k' from hk').symm.trans hkc1
    rw [hec1]
    show plainName kc.name = true
    rw [hnc]
    decide +kernel)
  subst hg
  refine ⟨vm3, X1.noted hwarm3, fun target hr => st1 _ (fun acts => ?_)⟩
  exact Steps.intGetterInline (s := T.setVm vm1) (g := { g with stack := rest }) (c := c) (ig := .invokevirtual index) (len := 3) (index := 7) X1.here hexec acts hm1 hcM hlk hplain hret hlM (by rw [hbM]; decide +kernel) (by rw [hbM]; decide +kernel) (by rw [hbM]; decide +kernel)
    (X1.notFull (g := { g with stack := rest }) hsize hfr (by rw [hlM]; exact hW)) hd hal hg3 hready3 hfi3 hst hcell hkn hsl hr
end ORD
