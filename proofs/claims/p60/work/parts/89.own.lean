/-! ## the law's own cake is made -/
theorem va_AOA.moved {ty : FieldType} {u U : State} (hvm : u.vm.Alike U.vm) (h : va_AOA ty u) : va_AOA ty U := by
  unfold va_AOA Cond.before Cond.holds at h ⊢
  simp only [Cond.value] at h ⊢
  have f : ∀ x, U.vm.findClass x = u.vm.findClass x := fun x => by rw [hvm.findClass]
  rw [f]
  cases e1 : u.vm.findClass (FieldType.array ty).toString with
  | none =>
    rw [e1] at h
    simp at h
  | some comp =>
    rw [e1, Option.bind_some] at h
    rw [Option.bind_some]
    have hb : U.vm.bare = u.vm.bare := by first | exact hvm.bare_eq | exact hvm.bare_eq.symm
    have hi : (U.vm.classes.findIdx? fun (x : Class) => match x.kind with | .array component _ => component == comp | _ => false) = (u.vm.classes.findIdx? fun (x : Class) => match x.kind with | .array component _ => component == comp | _ => false) := by
      have h1 := va_idx_bare U.vm comp
      have h2 := va_idx_bare u.vm comp
      rw [hb] at h1
      exact h1.symm.trans h2
    generalize e2 : Array.findIdx? _ u.vm.classes = o at h
    cases o with
    | none => simp at h
    | some c =>
      have hiU : (U.vm.classes.findIdx? fun (x : Class) => match x.kind with | .array component _ => component == comp | _ => false) = some c := hi.trans e2
      refine (congrArg (fun o : Option Nat => (o.bind (fun c => (U.vm.classes[c]?).map fun (k : Class) => match k.kind with | .array _ t => decide (t = FieldType.array ty) && decide (U.vm.findClass ("[" ++ (FieldType.array ty).toString) = some c) | _ => false) == some true)) hiU).trans ?_
      rw [Option.bind_some] at h ⊢
      cases e3 : u.vm.classes[c]? with
      | none =>
        rw [e3] at h
        simp at h
      | some k =>
        obtain ⟨k', hk', he⟩ := hvm.2.2 _ _ e3
        rw [e3] at h
        rw [hk', f]
        have ek : k'.kind = k.kind := by rw [he]
        simp only [Option.map_some] at h ⊢
        rw [ek]
        exact h
/-- what is known for arrays of arrays -/
def ow_FA (F : cw_F) : Prop := ∀ (A : Nat → Prop) (U : State) (H : Heap), F A U H → va_AOA .int U
section OWR
variable {w w0 : cw_G} {M : cw_Me} {Z : cw_Zt} {mc ms uc us : Nat} {I : cw_M} {pc : Nat} {L L' : List (Nat × Value)} {st stk : List Value}
/-- six rows of 24 -/
theorem cw_mna {index : Nat} {c0 c3 : ClassId} {w2 : Nat → (Nat → Nat) → cw_G} {I2 : cw_M} (hl : Cond.classLink (cw_y M).cls index ("[" ++ (FieldType.array .int).toString) ∈ cw_w M) (hF : ow_FA (cw_f w)) (ha : Cond.arrayClass .int ∈ cw_w M) (t0 t3 : Nat) (ht0 : (cw_t w)[t0]? = some (c0, .int)) (ht3 : (cw_t w)[t3]? = some (c3, .array .int)) (he : ∀ q r, cw_eqv w (w2 q r)) (hW : ∀ q r, cw_W (w2 q r) I2 = (cw_W w I ++ [(q, .inl (c3, 6, .inr (.inr (.inr (.inr (fun i => if i < 6 then some (r i) else none))))))]) ++ (List.range 6).map (fun i => (r i, .inl (c0, 24, .inl (fun _ => 0))))) (hu : uc + 7 ≤ mc ∧ us + 150 ≤ ms) (hd : decode (cw_c M) pc = .ok (.multianewarray index 2, 4)) (kk : ∀ (q : Nat) (r : Nat → Nat), cw_B (w2 q r) w0 M Z mc ms (uc + 7) (us + 150) I2 (pc + 4) L (.ref q :: st)) : cw_B w w0 M Z mc ms uc us I pc L (.int 24 :: .int 6 :: st) := by
  intro p e s m args below meth c H locs ls X hP hS h
  have hP0 : va_P (cw_d w) vwCl (cw_W w I ++ va_pl [] (fun _ => .inr (0, []))) H := by
    show va_P (cw_d w) vwCl (cw_W w I ++ []) H
    rw [List.append_nil]
    exact hP
  have hD0 : va_D (cw_own w0 s.heap.size) (cw_W w I ++ va_pl [] (fun _ => .inr (0, []))) := by
    show va_D (cw_own w0 s.heap.size) (cw_W w I ++ [])
    rw [List.append_nil]
    exact cw_XD X
  refine va_mna (ty := .int) (cy := c0) (N' := 6) (K' := 24) (z := (24, .inl (fun _ => 0))) X.1.1 X.1.2.1 X.1.2.2.2.1 (X.1.2.2.2.2 _ hl) (hF _ _ _ X.2.2.2.2.2.1) (X.1.2.2.2.2 _ ha) (X.2.2.2.1.2 t0 _ ht0).2 X.2.2.2.1 hP0 hD0 hS (fun q hq => Or.inr hq) (by decide) (by decide) rfl rfl (by decide) (by decide) (by decide) rfl rfl (by show uc + (1 + 6) ≤ mc; omega) (by show us + (6 + 6 * 24) ≤ ms; omega) (fun c => by rw [vp_cell_i]; exact arrV_new _ _ _) hd (fun q r cA H1 hr _ hK1 hP1 hD1 hS1 => ?_)
  have hcA : cA = c3 := by
    have h1 := (hK1.2 (cw_t w).length (cA, .array .int) (by simp)).2
    have h2 := (X.2.2.2.1.2 t3 _ ht3).2
    exact Option.some.inj (h1.symm.trans h2)
  subst hcA
  have eL : va_pl ([] ++ (List.range 6).map r) (vr_up (fun _ => .inr (0, [])) ((List.range 6).map r) (.inl (c0, 24, .inl (fun _ => 0)))) = (List.range 6).map (fun i => (r i, .inl (c0, 24, .inl (fun _ => 0)))) := by
    rw [List.nil_append]
    show ((List.range 6).map r).map _ = _
    rw [List.map_map]
    refine List.map_congr_left (fun i hi => ?_)
    show (r i, vr_up _ _ _ (r i)) = _
    rw [vr_up_in (List.mem_map.mpr ⟨i, hi, rfl⟩)]
  rw [eL, ← hW q r] at hP1 hD1
  have h9 := kk q r p e s m args below meth c H1 locs ls (cw_XofD (he q r) hu X hD1) (by rw [(he q r).2.1]; exact hP1) hS1 h
  rw [(he q r).1] at h9
  exact h9
end OWR
