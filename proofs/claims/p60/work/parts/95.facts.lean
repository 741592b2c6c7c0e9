/-! ## the facts at the start -/
set_option maxRecDepth 200000
theorem zu_J0 : u_ws RJ0 TJ0 4 = lt_get [(5,112),(5,114),(5,116),(5,118)] := rfl
theorem zu_J4 : u_ws RJ4 TJ4 4 = lt_get [(5,15),(5,17),(5,19),(5,21)] := rfl
theorem zu_X1 : u_ws RX1 TX1 6 = lt_get [(1,81),(1,83),(1,85),(1,87),(1,89),(1,91)] := rfl
theorem zu_X2 : u_ws RX2 TX2 3 = lt_get [(1,164),(1,166),(1,168)] := rfl
theorem zu_X3 : u_ws RX3 TX3 4 = lt_get [(1,133),(1,135),(1,137),(1,139)] := rfl
theorem zu_X4 : u_ws RX4 TX4 5 = lt_get [(1,208),(1,210),(1,212),(1,214),(1,216)] := rfl
theorem zu_X5 : u_ws RX5 TX5 7 = lt_get [(1,107),(1,109),(1,111),(1,113),(1,115),(1,117),(1,119)] := rfl
theorem zu_X6 : u_ws RX6 TX6 2 = lt_get [(1,150),(1,152)] := rfl
theorem zu_X7 : u_ws RX7 TX7 6 = lt_get [(1,184),(1,186),(1,188),(1,190),(1,192),(1,194)] := rfl
theorem zu_X8 : u_ws RX8 TX8 2 = lt_get [(1,50),(1,52)] := rfl
theorem zu_X10 : u_ws RX10 TX10 10 = lt_get [(2,133),(2,135),(2,137),(2,139),(2,141),(2,143),(2,145),(2,147),(2,149),(2,151)] := rfl
theorem zu_X11 : u_ws RX11 TX11 5 = lt_get [(4,0),(4,2),(4,4),(4,6),(4,8)] := rfl
section ZU
variable {s : State} {args : Array Value}
theorem zu_one {C : String} {T : u_T} {N n : Nat} {ps : List (Nat × Nat)} (hts : ∀ w ∈ lw_tbl, w.before args s = true) (h : u_ws C T N = lt_get ps) (hi : (Cond.instantiable C n).before args s = true) : ∃ x : ClassId × (Nat → Nat), ∀ q : vw_C, some (C, T, N) = some q → u_Kn s q.1 q.2.1 q.2.2 x.1 x.2 := by
  obtain ⟨c, i, h1⟩ := u_known (C := C) (T := T) (N := N) hts (fun w hw => lt_in (by rw [← h]; exact hw)) hi
  exact ⟨(c, i), fun q e => by cases e; exact h1⟩
theorem zu_D (hts : ∀ w ∈ lw_tbl, w.before args s = true) : ∃ D : va_G, ∀ (k : Nat) (q : vw_C), vwCl[k]? = some q → u_Kn s q.1 q.2.1 q.2.2 (D.1 k) (D.2 k) := by
  have h : ∀ k : Nat, ∃ x : ClassId × (Nat → Nat), ∀ q : vw_C, vwCl[k]? = some q → u_Kn s q.1 q.2.1 q.2.2 x.1 x.2 := by
    intro k
    rcases k with _ | _ | _ | _ | _ | _ | _ | _ | _ | _ | _ | _ | k
    · exact zu_one hts zu_J0 (hts (.instantiable RJ0 4) (lt_mem (k := 5) (i := 69) rfl))
    · exact zu_one hts zu_J4 (hts (.instantiable RJ4 4) (lt_mem (k := 4) (i := 130) rfl))
    · exact zu_one hts zu_X1 (hts (.instantiable RX1 6) (lt_mem (k := 1) (i := 57) rfl))
    · exact zu_one hts zu_X2 (hts (.instantiable RX2 3) (lt_mem (k := 1) (i := 156) rfl))
    · exact zu_one hts zu_X3 (hts (.instantiable RX3 4) (lt_mem (k := 1) (i := 123) rfl))
    · exact zu_one hts zu_X4 (hts (.instantiable RX4 5) (lt_mem (k := 1) (i := 198) rfl))
    · exact zu_one hts zu_X5 (hts (.instantiable RX5 7) (lt_mem (k := 1) (i := 95) rfl))
    · exact zu_one hts zu_X6 (hts (.instantiable RX6 2) (lt_mem (k := 1) (i := 143) rfl))
    · exact zu_one hts zu_X7 (hts (.instantiable RX7 6) (lt_mem (k := 1) (i := 172) rfl))
    · exact zu_one hts zu_X8 (hts (.instantiable RX8 2) (lt_mem (k := 1) (i := 39) rfl))
    · exact zu_one hts zu_X10 (hts (.instantiable RX10 10) (lt_mem (k := 1) (i := 31) rfl))
    · exact zu_one hts zu_X11 (hts (.instantiable RX11 5) (lt_mem (k := 3) (i := 219) rfl))
    · obtain ⟨x, -⟩ := zu_one hts zu_X1 (hts (.instantiable RX1 6) (lt_mem (k := 1) (i := 57) rfl))
      exact ⟨x, fun q e => by simp [vwCl] at e⟩
  obtain ⟨f, hf⟩ := Classical.axiomOfChoice h
  exact ⟨(fun k => (f k).1, fun k => (f k).2), fun k q e => hf k q e⟩
theorem zu_arr {ty : FieldType} (h : (Cond.arrayClass ty).before args s = true) : ∃ cA : ClassId, ArrOfT s cA ty ∧ s.vm.findClass ("[" ++ ty.toString) = some cA := by
  obtain ⟨cA, kA, comp, h1, h2, h3⟩ := Cond.arrayClass_spec h
  exact ⟨cA, fun n z => ⟨fun k e => (by cases e), kA, h2, comp, h3⟩, h1⟩
theorem zu_obj {C : String} (h : (Cond.arrayOver (.object C)).before args s = true) : ∃ cA : ClassId, ArrOfT s cA (.object C) ∧ va_RA s cA (.object C) := by
  obtain ⟨comp, cA, kA, h1, h2, h3, h4, h5⟩ := Cond.arrayOver_spec h
  exact ⟨cA, fun n z => ⟨fun k e => (by cases e), kA, h3, comp, h4⟩, kA, comp, h3, h4, h1, h5⟩
theorem zu_aoa {t : FieldType} (h : (Cond.arrayOver (.array t)).before args s = true) : ∃ cA : ClassId, ArrOfT s cA (.array t) ∧ s.vm.findClass ("[" ++ (FieldType.array t).toString) = some cA := by
  obtain ⟨comp, cA, kA, h1, h2, h3, h4⟩ := Cond.arrayOver_specA h
  exact ⟨cA, fun n z => ⟨fun k e => (by cases e), kA, h2, comp, h3⟩, h4⟩
/-- the classes of the objects, of the arrays -/
theorem zu_all (hts : ∀ w ∈ lw_tbl, w.before args s = true) : ∃ (D : va_G) (cy : Nat → ClassId), va_K D vwCl (cw_ty cy) s := by
  obtain ⟨D, hD⟩ := zu_D hts
  obtain ⟨c0, a0, n0⟩ := zu_arr (hts (.arrayClass .int) (lt_mem (k := 1) (i := 55) rfl))
  obtain ⟨c1, a1, n1⟩ := zu_arr (hts (.arrayClass .boolean) (lt_mem (k := 1) (i := 219) rfl))
  obtain ⟨c2, a2, n2⟩ := zu_obj (hts (.arrayOver (.object RX9)) (lt_mem (k := 1) (i := 178) rfl))
  obtain ⟨c3, a3, n3⟩ := zu_aoa (t := .int) (hts (.arrayOver (.array .int)) (lt_mem (k := 3) (i := 225) rfl))
  obtain ⟨c4, a4, n4⟩ := zu_arr (hts (.arrayClass .byte) (lt_mem (k := 2) (i := 154) rfl))
  refine ⟨D, fun k => if k = 0 then c0 else if k = 1 then c1 else if k = 2 then c2 else if k = 3 then c3 else c4, ⟨hD, fun k q e => ?_⟩⟩
  rcases k with _ | _ | _ | _ | _ | k
  · cases e; exact ⟨a0, n0⟩
  · cases e; exact ⟨a1, n1⟩
  · cases e; exact ⟨a2, n2⟩
  · cases e; exact ⟨a3, n3⟩
  · cases e; exact ⟨a4, n4⟩
  · simp [cw_ty] at e
theorem zu_N (hts : ∀ w ∈ lw_tbl, w.before args s = true) : kn_N s := ⟨va_Nw.of rfl (hts _ (lt_mem (k := 1) (i := 40) rfl)), va_Nw.of rfl (hts _ (lt_mem (k := 1) (i := 58) rfl)), va_Nw.of rfl (hts _ (lt_mem (k := 1) (i := 199) rfl))⟩
theorem zu_O (hts : ∀ w ∈ lw_tbl, w.before args s = true) : va_AO RX9 s := va_AO.of (hts (.arrayOver (.object RX9)) (lt_mem (k := 1) (i := 178) rfl))
end ZU
def nr_c : List Cond := flatC narrow_1
theorem nr_of {args : Array Value} {s : State} (h : (Jvm.Cond.and given_1 narrow_1).before args s = true) : ∀ w ∈ nr_c, w.before args s = true := by
  rw [Cond.before_and, Bool.and_eq_true] at h
  exact flat_of_before _ h.2
theorem nr_at {i : Nat} {w : Cond} (h : nr_c[i]? = some w) : w ∈ nr_c := List.mem_of_getElem? h
/-- the words of a text: its object, its coder, its bytes -/
def zs_w (tm : Term) (byt : List Int32) : List Cond := .exactly tm "java/lang/String" :: .eq (.field tm "java/lang/String" "coder" "B") (.int 0) :: .arrayOf (.field tm "java/lang/String" "value" "[B") .byte :: .eq (.length (.field tm "java/lang/String" "value" "[B")) (.int (Int32.ofNat byt.length)) :: (List.range byt.length).map (fun j => .eq (.elem (.field tm "java/lang/String" "value" "[B") (.int (Int32.ofNat j))) (.int (byt.getD j 0)))
theorem zs_of {args : Array Value} {s : State} {A : Nat → Prop} {tm : Term} {byt : List Int32} (hw : ∀ w ∈ zs_w tm byt, w.before args s = true) (hN : byt.length < 2 ^ 31) (hA : ∀ a : Nat, a < s.heap.size → ¬ A a) : ∃ x : Nat × Nat, tm.eval args s none [] s = some (.ref x.1) ∧ va_O "java/lang/String" x.1 A s s.heap ∧ va_OF "java/lang/String" "coder" "B" (.int 0) x.1 A s s.heap ∧ va_OF "java/lang/String" "value" "[B" (.ref x.2) x.1 A s s.heap ∧ va_T .byte x.2 byt.length (fun j => .int (byt.getD j 0)) A s s.heap := by
  have hex : (Cond.exactly tm "java/lang/String").before args s = true := hw _ (by simp [zs_w])
  have hco : (Cond.eq (.field tm "java/lang/String" "coder" "B") (.int 0)).before args s = true := hw _ (by simp [zs_w])
  have har : (Cond.arrayOf (.field tm "java/lang/String" "value" "[B") .byte).before args s = true := hw _ (by simp [zs_w])
  have hle : (Cond.eq (.length (.field tm "java/lang/String" "value" "[B")) (.int (Int32.ofNat byt.length))).before args s = true := hw _ (by simp [zs_w])
  have hel : ∀ j : Nat, j < byt.length → (Cond.eq (.elem (.field tm "java/lang/String" "value" "[B") (.int (Int32.ofNat j))) (.int (byt.getD j 0))).before args s = true := fun j hj => hw _ (List.mem_cons_of_mem _ (List.mem_cons_of_mem _ (List.mem_cons_of_mem _ (List.mem_cons_of_mem _ (List.mem_map.mpr ⟨j, List.mem_range.mpr hj, rfl⟩)))))
  obtain ⟨a, c, cA, kA, q1, q2, q3, q4, q5, q6, -⟩ := Cond.exactly_spec (args := args) (first := s) (o := none) (s := s) (idx := []) (t := tm) (cls := "java/lang/String") hex
  obtain ⟨t, ht, hT⟩ := va_Tof (f := fun j => .int (byt.getD j 0)) (A := A) hN har (va_eqt hle) (fun j hj => va_eqt (hel j hj)) hA
  exact ⟨(a, t), q1, ⟨cA, q3, q5, by rw [q6]; exact q2, hA a (Array.getElem?_eq_some_iff.mp q3).1⟩, vk_OFof q1 (va_eqt hco) hA, vk_OFof q1 ht hA, hT⟩
theorem zs_in {args : Array Value} {s : State} (hn : ∀ w ∈ nr_c, w.before args s = true) {tm : Term} {byt : List Int32} {i n : Nat} (h : zs_w tm byt = (nr_c.drop i).take n) : ∀ w ∈ zs_w tm byt, w.before args s = true := fun w hw => hn w (List.mem_of_mem_drop (List.mem_of_mem_take (by rw [← h]; exact hw)))
theorem zs_eq {args : Array Value} {s : State} {t u : Term} {a : Nat} (h : (Cond.eq t u).before args s = true) (ht : t.eval args s none [] s = some (.ref a)) : u.eval args s none [] s = some (.ref a) := by
  cases hv : u.eval args s none [] s with
  | none => simp [Cond.before, Cond.holds, Cond.value, ht, hv] at h
  | some w =>
    simp only [Cond.before, Cond.holds, Cond.value, ht, hv] at h
    cases w <;> simp_all
theorem zs_eq' {args : Array Value} {s : State} {t u : Term} {a : Nat} (h : (Cond.eq t u).before args s = true) (hu : u.eval args s none [] s = some (.ref a)) : t.eval args s none [] s = some (.ref a) := by
  cases hv : t.eval args s none [] s with
  | none => simp [Cond.before, Cond.holds, Cond.value, hu, hv] at h
  | some w =>
    simp only [Cond.before, Cond.holds, Cond.value, hu, hv] at h
    cases w <;> simp_all
/-- where the text k stands -/
def zs_tm (k : Nat) : Term := match k with
  | 0 => .string RX5 18
  | 1 => .string RX5 51
  | 2 => .string RL 36
  | 3 => .string RL 47
  | _ => .string RX10 77
theorem zs_0 : zs_w (zs_tm 0) (cw_tx 0) = (nr_c.drop 310).take 8 := by decide +kernel
theorem zs_1 : zs_w (zs_tm 1) (cw_tx 1) = (nr_c.drop 319).take 11 := by decide +kernel
theorem zs_2 : zs_w (zs_tm 2) (cw_tx 2) = (nr_c.drop 708).take 9 := by decide +kernel
theorem zs_3 : zs_w (zs_tm 3) (cw_tx 3) = (nr_c.drop 729).take 13 := by decide +kernel
theorem zs_15 : zs_w (zs_tm 15) (cw_tx 15) = (nr_c.drop 215).take 95 := by decide +kernel
theorem zs_all {args : Array Value} {s : State} {A : Nat → Prop} (hn : ∀ w ∈ nr_c, w.before args s = true) (hA : ∀ a : Nat, a < s.heap.size → ¬ A a) : ∃ sd sv : Nat → Nat, ∀ k, cw_tk k → (zs_tm k).eval args s none [] s = some (.ref (sd k)) ∧ va_O "java/lang/String" (sd k) A s s.heap ∧ va_OF "java/lang/String" "coder" "B" (.int 0) (sd k) A s s.heap ∧ va_OF "java/lang/String" "value" "[B" (.ref (sv k)) (sd k) A s s.heap ∧ va_T .byte (sv k) (cw_tx k).length (fun j => .int ((cw_tx k).getD j 0)) A s s.heap := by
  have h : ∀ k : Nat, ∃ x : Nat × Nat, cw_tk k → (zs_tm k).eval args s none [] s = some (.ref x.1) ∧ va_O "java/lang/String" x.1 A s s.heap ∧ va_OF "java/lang/String" "coder" "B" (.int 0) x.1 A s s.heap ∧ va_OF "java/lang/String" "value" "[B" (.ref x.2) x.1 A s s.heap ∧ va_T .byte x.2 (cw_tx k).length (fun j => .int ((cw_tx k).getD j 0)) A s s.heap := by
    intro k
    by_cases hk : k = 0 ∨ k = 1 ∨ k = 2 ∨ k = 3 ∨ k = 15
    · have hw : ∀ w ∈ zs_w (zs_tm k) (cw_tx k), w.before args s = true := by
        rcases hk with rfl | rfl | rfl | rfl | rfl
        · exact zs_in hn zs_0
        · exact zs_in hn zs_1
        · exact zs_in hn zs_2
        · exact zs_in hn zs_3
        · exact zs_in hn zs_15
      have hl : (cw_tx k).length < 2 ^ 31 := by
        rcases hk with rfl | rfl | rfl | rfl | rfl <;> decide +kernel
      obtain ⟨x, hx⟩ := zs_of (A := A) hw hl hA
      exact ⟨x, fun _ => hx⟩
    · exact ⟨(0, 0), fun h => absurd (by unfold cw_tk at h; omega) hk⟩
  obtain ⟨f, hf⟩ := Classical.axiomOfChoice h
  exact ⟨fun k => (f k).1, fun k => (f k).2, fun k hk => hf k hk⟩
/-! the facts -/
def zf_S (sd sv : Nat → Nat) (A : Nat → Prop) (U : State) (H : Heap) : Prop := va_Z "java/lang/String" "COMPACT_STRINGS" "Z" (.int 1) A U H ∧ va_Zq "jdk/internal/util/Preconditions" "SIOOBE_FORMATTER" "Ljava/util/function/BiFunction;" A U H ∧ ∀ k : Nat, cw_tk k → va_O "java/lang/String" (sd k) A U H ∧ va_OF "java/lang/String" "coder" "B" (.int 0) (sd k) A U H ∧ va_OF "java/lang/String" "value" "[B" (.ref (sv k)) (sd k) A U H ∧ va_T .byte (sv k) (cw_tx k).length (fun j => .int ((cw_tx k).getD j 0)) A U H
def zf_C (sd : Nat → Nat) (U : State) : Prop := ∀ q ∈ cw_cons, vk_R q.1 q.2.1 q.2.2.1 (sd q.2.2.2) U
def zf_D (dO dT : Nat) (A : Nat → Prop) (U : State) (H : Heap) : Prop := va_Z "java/lang/Integer" "DigitOnes" "[B" (.ref dO) A U H ∧ va_T .byte dO 100 (fun j => .int (nI (48 + j % 10))) A U H ∧ va_Z "java/lang/Integer" "DigitTens" "[B" (.ref dT) A U H ∧ va_T .byte dT 100 (fun j => .int (nI (48 + j / 10))) A U H
/-- all of it -/
def zf_F (sd sv : Nat → Nat) (dO dT sa sn : Nat) (sf : Nat → Int32) : cw_F := fun A U H => zf_S sd sv A U H ∧ zf_C sd U ∧ zf_D dO dT A U H ∧ va_T .int sa sn (fun j => .int (sf j)) A U H ∧ va_Nw (.castable "[B" "java/lang/Cloneable") U ∧ va_AOA .int U
section ZF
variable {sd sv : Nat → Nat} {dO dT sa sn : Nat} {sf : Nat → Int32}
theorem zf_ok : cw_Fok (zf_F sd sv dO dT sa sn sf) := by
  refine ⟨fun A u U H hW h => ?_, fun A U H H1 h _ hq => ?_, fun A B U H h hAB => ?_⟩
  · obtain ⟨⟨s1, s2, s3⟩, hC, ⟨d1, d2, d3, d4⟩, x1, x2, x3⟩ := h
    have hv := hW.alike
    exact ⟨⟨va_Z.moved hv s1, va_Zq.moved hv s2, fun k hk => ⟨va_O.moved hv (s3 k hk).1, va_OF.moved hv (s3 k hk).2.1, va_OF.moved hv (s3 k hk).2.2.1, va_T.moved hv (s3 k hk).2.2.2⟩⟩, fun q hq => vk_R.warm hW (hC q hq), ⟨va_Z.moved hv d1, va_T.moved hv d2, va_Z.moved hv d3, va_T.moved hv d4⟩, va_T.moved hv x1, va_Nw.warmC hW x2, va_AOA.moved hv x3⟩
  · obtain ⟨⟨s1, s2, s3⟩, hC, ⟨d1, d2, d3, d4⟩, x1, x2, x3⟩ := h
    exact ⟨⟨va_Z.kept s1 hq, va_Zq.kept s2 hq, fun k hk => ⟨va_O.kept (s3 k hk).1 hq, va_OF.kept (s3 k hk).2.1 hq, va_OF.kept (s3 k hk).2.2.1 hq, va_T.kept (s3 k hk).2.2.2 hq⟩⟩, hC, ⟨va_Z.kept d1 hq, va_T.kept d2 hq, va_Z.kept d3 hq, va_T.kept d4 hq⟩, va_T.kept x1 hq, x2, x3⟩
  · obtain ⟨⟨s1, s2, s3⟩, hC, ⟨d1, d2, d3, d4⟩, x1, x2, x3⟩ := h
    exact ⟨⟨va_Z.narrow s1 hAB, va_Zq.narrow s2 hAB, fun k hk => ⟨va_O.narrow (s3 k hk).1 hAB, va_OF.narrow (s3 k hk).2.1 hAB, va_OF.narrow (s3 k hk).2.2.1 hAB, va_T.narrow (s3 k hk).2.2.2 hAB⟩⟩, hC, ⟨va_Z.narrow d1 hAB, va_T.narrow d2 hAB, va_Z.narrow d3 hAB, va_T.narrow d4 hAB⟩, va_T.narrow x1 hAB, x2, x3⟩
theorem zf_FS : cw_FS (zf_F sd sv dO dT sa sn sf) sd sv := fun _ _ _ h => h.1
theorem zf_FC {l : Launch} {D : va_G} {cy : Nat → ClassId} {S : Nat} {vd : Nat → Nat} : cw_FC (kn_K l D cy S vd sd sv (zf_F sd sv dO dT sa sn sf)) := fun q hq _ _ _ h => h.2.1 q hq
theorem zf_F2 {l : Launch} {D : va_G} {cy : Nat → ClassId} {S : Nat} {vd : Nat → Nat} : kn_F2 (kn_K l D cy S vd sd sv (zf_F sd sv dO dT sa sn sf)) := fun _ _ _ h => ⟨h.2.1 (RX10, 77, kn_tx, 15) (by decide), trivial⟩
theorem zf_FD : bu_FD (zf_F sd sv dO dT sa sn sf) dO dT := fun _ _ _ h => h.2.2.1
theorem zf_Fz : cw_Fsc (zf_F sd sv dO dT sa sn sf) sa sn sf := fun _ _ _ h => h.2.2.2.1
theorem zf_FB : bu_FC (zf_F sd sv dO dT sa sn sf) := fun _ _ _ h => h.2.2.2.2.1
theorem zf_FA : ow_FA (zf_F sd sv dO dT sa sn sf) := fun _ _ _ h => h.2.2.2.2.2
end ZF
abbrev zd_O : Term := .static "java/lang/Integer" "DigitOnes" "[B"
abbrev zd_T : Term := .static "java/lang/Integer" "DigitTens" "[B"
theorem zd_o : ∀ j, j < 100 → nr_c[12 + j]? = some (Cond.eq (.elem zd_O (.int (Int32.ofNat j))) (.int (nI (48 + j % 10)))) := by decide +kernel
theorem zd_t : ∀ j, j < 100 → nr_c[115 + j]? = some (Cond.eq (.elem zd_T (.int (Int32.ofNat j))) (.int (nI (48 + j / 10)))) := by decide +kernel
theorem zf_start {s : State} {args : Array Value} {A : Nat → Prop} {b L : Nat} {xs : Nat → Int32} (hts : ∀ w ∈ lw_tbl, w.before args s = true) (hn : ∀ w ∈ nr_c, w.before args s = true) (hA : ∀ a : Nat, a < s.heap.size → ¬ A a) (hX : va_X b L xs s s.heap) (hb : b < s.heap.size) : ∃ (sd sv : Nat → Nat) (dO dT : Nat), zf_F sd sv dO dT b L xs A s s.heap := by
  obtain ⟨sd, sv, hs⟩ := zs_all hn hA
  have hs1 : ∀ k, cw_tk k → (zs_tm k).eval args s none [] s = some (.ref (sd k)) := fun k hk => (hs k hk).1
  obtain ⟨tO, eO, hTO⟩ := va_Tof (f := fun j => .int (nI (48 + j % 10))) (A := A) (N := 100) (by decide) (hn (.arrayOf zd_O .byte) (nr_at (i := 10) (by decide +kernel))) (va_eqt (hn (.eq (.length zd_O) (.int 100)) (nr_at (i := 11) (by decide +kernel)))) (fun j hj => va_eqt (hn _ (nr_at (zd_o j hj)))) hA
  obtain ⟨tT, eT, hTT⟩ := va_Tof (f := fun j => .int (nI (48 + j / 10))) (A := A) (N := 100) (by decide) (hn (.arrayOf zd_T .byte) (nr_at (i := 113) (by decide +kernel))) (va_eqt (hn (.eq (.length zd_T) (.int 100)) (nr_at (i := 114) (by decide +kernel)))) (fun j hj => va_eqt (hn _ (nr_at (zd_t j hj)))) hA
  refine ⟨sd, sv, tO, tT, ⟨?_, ?_, fun k hk => (hs k hk).2⟩, ?_, ⟨?_, hTO, ?_, hTT⟩, ?_, ?_, ?_⟩
  · exact va_Zof (hts (.laysStatic "java/lang/String" "COMPACT_STRINGS" "Z") (lt_mem (k := 1) (i := 234) rfl)) (hts (.initialized "java/lang/String") (lt_mem (k := 1) (i := 10) rfl)) (va_eqt (hn _ (nr_at (i := 2) (by decide +kernel)))) hA
  · exact va_Zqof (hts (.laysStatic "jdk/internal/util/Preconditions" "SIOOBE_FORMATTER" "Ljava/util/function/BiFunction;") (lt_mem (k := 2) (i := 10) rfl)) (hts (.initialized "jdk/internal/util/Preconditions") (lt_mem (k := 1) (i := 12) rfl)) (hn _ (nr_at (i := 3) (by decide +kernel))) hA
  · intro q hq
    simp only [cw_cons, List.mem_cons, List.not_mem_nil, or_false] at hq
    rcases hq with rfl | rfl | rfl | rfl | rfl
    · exact vk_R.of (A := args) (hts _ (lt_mem (k := 1) (i := 220) rfl)) (hs1 15 (by unfold cw_tk; omega))
    · exact vk_R.of (A := args) (hts _ (lt_mem (k := 2) (i := 56) rfl)) (hs1 0 (by unfold cw_tk; omega))
    · exact vk_R.of (A := args) (hts _ (lt_mem (k := 2) (i := 87) rfl)) (hs1 1 (by unfold cw_tk; omega))
    · exact vk_R.of (A := args) (hts _ (lt_mem (k := 4) (i := 131) rfl)) (hs1 2 (by unfold cw_tk; omega))
    · exact vk_R.of (A := args) (hts _ (lt_mem (k := 5) (i := 61) rfl)) (hs1 3 (by unfold cw_tk; omega))
  · exact va_Zref (hts (.laysStatic "java/lang/Integer" "DigitOnes" "[B") (lt_mem (k := 5) (i := 37) rfl)) (hts (.initialized "java/lang/Integer") (lt_mem (k := 1) (i := 21) rfl)) eO hA
  · exact va_Zref (hts (.laysStatic "java/lang/Integer" "DigitTens" "[B") (lt_mem (k := 5) (i := 39) rfl)) (hts (.initialized "java/lang/Integer") (lt_mem (k := 1) (i := 21) rfl)) eT hA
  · obtain ⟨scr, h1, h2, h3, h4, h5⟩ := hX
    exact ⟨scr, h1, h2, h3, by rw [h4]; exact Nat.le_refl _, (by rw [h4] <;> rfl), fun j hj => h5 j hj, hA b hb⟩
  · exact va_Nw.of rfl (hts (.castable "[B" "java/lang/Cloneable") (lt_mem (k := 4) (i := 193) rfl))
  · exact va_AOA.of (hts (.arrayOver (.array .int)) (lt_mem (k := 3) (i := 225) rfl))
