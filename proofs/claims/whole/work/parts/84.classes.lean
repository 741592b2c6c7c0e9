/-! ## the classes and the arrays' classes, out of the tables' words -/
set_option maxRecDepth 200000
theorem zu_X1 : u_ws RX1 TX1 6 = lt_get [(1,82), (1,84), (1,86), (1,88), (1,90), (1,92)] := rfl
theorem zu_X2 : u_ws RX2 TX2 3 = lt_get [(1,167), (1,169), (1,171)] := rfl
theorem zu_X3 : u_ws RX3 TX3 4 = lt_get [(1,136), (1,138), (1,140), (1,142)] := rfl
theorem zu_X4 : u_ws RX4 TX4 5 = lt_get [(1,214), (1,216), (1,218), (1,220), (1,222)] := rfl
theorem zu_X5 : u_ws RX5 TX5 7 = lt_get [(1,110), (1,112), (1,114), (1,116), (1,118), (1,120), (1,122)] := rfl
theorem zu_X6 : u_ws RX6 TX6 2 = lt_get [(1,153), (1,155)] := rfl
theorem zu_X7 : u_ws RX7 TX7 6 = lt_get [(1,188), (1,190), (1,192), (1,194), (1,196), (1,198)] := rfl
theorem zu_X8 : u_ws RX8 TX8 2 = lt_get [(1,46), (1,48)] := rfl
theorem zu_X10 : u_ws RX10 TX10 10 = lt_get [(2,139), (2,141), (2,143), (2,145), (2,147), (2,149), (2,151), (2,153), (2,155), (2,157)] := rfl
theorem zu_X11 : u_ws RX11 TX11 20 = lt_get [(6,119), (6,121), (6,123), (6,125), (6,127), (6,129), (6,131), (6,133), (6,135), (6,137), (6,139), (6,141), (6,143), (6,145), (6,147), (6,149), (6,151), (6,153), (6,155), (6,157)] := rfl
section ZU
variable {s : State} {args : Array Value}
theorem zu_one {C : String} {T : u_T} {N n : Nat} {ps : List (Nat × Nat)} (hts : ∀ w ∈ lw_tbl, w.before args s = true) (h : u_ws C T N = lt_get ps) (hi : (Cond.instantiable C n).before args s = true) : ∃ x : ClassId × (Nat → Nat), ∀ q : vw_C, some (C, T, N) = some q → u_Kn s q.1 q.2.1 q.2.2 x.1 x.2 := by
  obtain ⟨c, i, h1⟩ := u_known (C := C) (T := T) (N := N) hts (fun w hw => lt_in (by rw [← h]; exact hw)) hi
  exact ⟨(c, i), fun q e => by cases e; exact h1⟩
theorem zu_D (hts : ∀ w ∈ lw_tbl, w.before args s = true) : ∃ D : va_G, ∀ (k : Nat) (q : vw_C), vwCl[k]? = some q → u_Kn s q.1 q.2.1 q.2.2 (D.1 k) (D.2 k) := by
  have h : ∀ k : Nat, ∃ x : ClassId × (Nat → Nat), ∀ q : vw_C, vwCl[k]? = some q → u_Kn s q.1 q.2.1 q.2.2 x.1 x.2 := by
    intro k
    rcases k with _ | _ | _ | _ | _ | _ | _ | _ | _ | _ | k
    · exact zu_one hts zu_X1 (hts (.instantiable RX1 6) (lt_mem (k := 1) (i := 53) rfl))
    · exact zu_one hts zu_X2 (hts (.instantiable RX2 3) (lt_mem (k := 1) (i := 159) rfl))
    · exact zu_one hts zu_X3 (hts (.instantiable RX3 4) (lt_mem (k := 1) (i := 126) rfl))
    · exact zu_one hts zu_X4 (hts (.instantiable RX4 5) (lt_mem (k := 1) (i := 202) rfl))
    · exact zu_one hts zu_X5 (hts (.instantiable RX5 7) (lt_mem (k := 1) (i := 96) rfl))
    · exact zu_one hts zu_X6 (hts (.instantiable RX6 2) (lt_mem (k := 1) (i := 146) rfl))
    · exact zu_one hts zu_X7 (hts (.instantiable RX7 6) (lt_mem (k := 1) (i := 175) rfl))
    · exact zu_one hts zu_X8 (hts (.instantiable RX8 2) (lt_mem (k := 1) (i := 34) rfl))
    · exact zu_one hts zu_X10 (hts (.instantiable RX10 10) (lt_mem (k := 1) (i := 26) rfl))
    · exact zu_one hts zu_X11 (hts (.instantiable RX11 20) (lt_mem (k := 6) (i := 36) rfl))
    · obtain ⟨x, -⟩ := zu_one hts zu_X1 (hts (.instantiable RX1 6) (lt_mem (k := 1) (i := 53) rfl))
      exact ⟨x, fun q e => by simp [vwCl] at e⟩
  obtain ⟨f, hf⟩ := Classical.axiomOfChoice h
  exact ⟨(fun k => (f k).1, fun k => (f k).2), fun k q e => hf k q e⟩
theorem zu_arr {ty : FieldType} (h : (Cond.arrayClass ty).before args s = true) : ∃ cA : ClassId, ArrOfT s cA ty ∧ s.vm.findClass ("[" ++ ty.toString) = some cA := by
  obtain ⟨cA, kA, comp, h1, h2, h3⟩ := Cond.arrayClass_spec h
  exact ⟨cA, fun n z => ⟨fun k e => (by cases e), kA, h2, comp, h3⟩, h1⟩
theorem zu_obj {C : String} (h : (Cond.arrayOver (.object C)).before args s = true) : ∃ cA : ClassId, ArrOfT s cA (.object C) ∧ va_RA s cA (.object C) := by
  obtain ⟨comp, cA, kA, h1, h2, h3, h4, h5⟩ := Cond.arrayOver_spec h
  exact ⟨cA, fun n z => ⟨fun k e => (by cases e), kA, h3, comp, h4⟩, kA, comp, h3, h4, h1, h5⟩
/-- the classes of the objects, of the arrays -/
theorem zu_all (hts : ∀ w ∈ lw_tbl, w.before args s = true) : ∃ (D : va_G) (cy : Nat → ClassId) (cl cd : ClassId), va_K D vwCl (cw_ty cy) s ∧ va_K D vwCl [(cl, .long)] s ∧ va_K D vwCl [(cd, .double)] s := by
  obtain ⟨D, hD⟩ := zu_D hts
  obtain ⟨c0, a0, n0⟩ := zu_arr (hts (.arrayClass .int) (lt_mem (k := 1) (i := 51) rfl))
  obtain ⟨c1, a1, n1⟩ := zu_arr (hts (.arrayClass .boolean) (lt_mem (k := 1) (i := 225) rfl))
  obtain ⟨cl, al, nl⟩ := zu_arr (hts (.arrayClass .long) (lt_mem (k := 8) (i := 119) rfl))
  obtain ⟨cd, ad, nd⟩ := zu_arr (hts (.arrayClass .double) (lt_mem (k := 8) (i := 120) rfl))
  obtain ⟨c2, a2, n2⟩ := zu_obj (hts (.arrayOver (.object RX9)) (lt_mem (k := 1) (i := 181) rfl))
  refine ⟨D, fun k => if k = 0 then c0 else if k = 1 then c1 else c2, cl, cd, ⟨hD, fun k q e => ?_⟩, ⟨hD, fun k q e => ?_⟩, ⟨hD, fun k q e => ?_⟩⟩
  · rcases k with _ | _ | _ | k
    · cases e; exact ⟨a0, n0⟩
    · cases e; exact ⟨a1, n1⟩
    · cases e; exact ⟨a2, n2⟩
    · simp [cw_ty] at e
  · rcases k with _ | k
    · cases e; exact ⟨al, nl⟩
    · simp at e
  · rcases k with _ | k
    · cases e; exact ⟨ad, nd⟩
    · simp at e
theorem zu_N (hts : ∀ w ∈ lw_tbl, w.before args s = true) : kn_N s := ⟨va_Nw.of rfl (hts _ (lt_mem (k := 1) (i := 35) rfl)), va_Nw.of rfl (hts _ (lt_mem (k := 1) (i := 54) rfl)), va_Nw.of rfl (hts _ (lt_mem (k := 1) (i := 203) rfl))⟩
theorem zu_O (hts : ∀ w ∈ lw_tbl, w.before args s = true) : va_AO RX9 s := va_AO.of (hts (.arrayOver (.object RX9)) (lt_mem (k := 1) (i := 181) rfl))
end ZU
