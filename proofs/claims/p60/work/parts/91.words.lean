/-! ## six words more, and the setup's words among the tables' -/
theorem bb_sel {C : String} {y : MethodName} {s : State} {args : Array Value} {n : Nat} (hy : y.cls ≠ "java/lang/invoke/MethodHandle" ∧ y.cls ≠ "java/lang/invoke/VarHandle")
    (hins : (Cond.instantiable C n).before args s = true) (hpriv : (Cond.privateMethod y).before args s = true) (hinst : (Cond.instanceMethod y).before args s = true) (hsame : (Cond.sameMethod y.cls y.cls y.name y.desc).before args s = true) :
    (Cond.selects C y y).before args s = true := by
  obtain ⟨c, k, hc, hk, -, hniab, -, -⟩ := Cond.instantiable_spec hins
  obtain ⟨cn, ck, r1, hcn, hck, hni, hf, hn1⟩ := Cond.sameMethod_found hsame
  obtain ⟨mk, methM, hnamed, hmethM, -, -⟩ := Cond.instanceMethod_spec hinst
  have hfound : s.methodFound? y.cls y.name y.desc = some mk := State.methodFound?_of_named hnamed hy
  have hcls : mk.cls = cn := Option.some.inj ((findClass_of_methodNamed hnamed).symm.trans hcn)
  have hsel : selectMethod {} s.vm c mk = .method mk := selectMethod_private hmethM (Cond.privateMethod_at hpriv mk methM hnamed hmethM)
  simp only [Cond.before, Cond.holds, Cond.value, hc, hfound, hnamed, hsel, hcls, hck]
  simp; exact hni
def bb_six : List Cond := [.selects "java/lang/StringBuilder" ⟨"java/lang/AbstractStringBuilder", "appendNull", "()Ljava/lang/AbstractStringBuilder;"⟩ ⟨"java/lang/AbstractStringBuilder", "appendNull", "()Ljava/lang/AbstractStringBuilder;"⟩, .selects "java/lang/StringBuilder" ⟨"java/lang/AbstractStringBuilder", "ensureCapacityInternal", "(I)V"⟩ ⟨"java/lang/AbstractStringBuilder", "ensureCapacityInternal", "(I)V"⟩, .selects "java/lang/StringBuilder" ⟨"java/lang/AbstractStringBuilder", "newCapacity", "(I)I"⟩ ⟨"java/lang/AbstractStringBuilder", "newCapacity", "(I)I"⟩, .selects "java/lang/StringBuilder" ⟨"java/lang/AbstractStringBuilder", "putStringAt", "(ILjava/lang/String;)V"⟩ ⟨"java/lang/AbstractStringBuilder", "putStringAt", "(ILjava/lang/String;)V"⟩, .selects "java/lang/StringBuilder" ⟨"java/lang/AbstractStringBuilder", "inflateIfNeededFor", "(Ljava/lang/String;)V"⟩ ⟨"java/lang/AbstractStringBuilder", "inflateIfNeededFor", "(Ljava/lang/String;)V"⟩, .selects "java/lang/StringBuilder" ⟨"java/lang/AbstractStringBuilder", "inflate", "()V"⟩ ⟨"java/lang/AbstractStringBuilder", "inflate", "()V"⟩]
def lw_x : List Cond := bb_six ++ lw_tbl
theorem bb_hts {s : State} {args : Array Value} (hts : ∀ w ∈ lw_tbl, w.before args s = true) : ∀ w ∈ lw_x, w.before args s = true := by
  intro w hw
  rcases List.mem_append.mp hw with h | h
  · simp only [bb_six, List.mem_cons, List.not_mem_nil, or_false] at h
    rcases h with rfl | rfl | rfl | rfl | rfl | rfl
    · exact bb_sel (n := 4) ⟨by decide, by decide⟩ (hts _ (lt_mem (k := 4) (i := 130) rfl)) (hts _ (lt_mem (k := 4) (i := 164) rfl)) (hts _ (lt_mem (k := 4) (i := 165) rfl)) (hts _ (lt_mem (k := 5) (i := 183) rfl))
    · exact bb_sel (n := 4) ⟨by decide, by decide⟩ (hts _ (lt_mem (k := 4) (i := 130) rfl)) (hts _ (lt_mem (k := 4) (i := 168) rfl)) (hts _ (lt_mem (k := 4) (i := 169) rfl)) (hts _ (lt_mem (k := 5) (i := 184) rfl))
    · exact bb_sel (n := 4) ⟨by decide, by decide⟩ (hts _ (lt_mem (k := 4) (i := 130) rfl)) (hts _ (lt_mem (k := 4) (i := 172) rfl)) (hts _ (lt_mem (k := 4) (i := 173) rfl)) (hts _ (lt_mem (k := 5) (i := 185) rfl))
    · exact bb_sel (n := 4) ⟨by decide, by decide⟩ (hts _ (lt_mem (k := 4) (i := 130) rfl)) (hts _ (lt_mem (k := 4) (i := 219) rfl)) (hts _ (lt_mem (k := 4) (i := 220) rfl)) (hts _ (lt_mem (k := 5) (i := 186) rfl))
    · exact bb_sel (n := 4) ⟨by decide, by decide⟩ (hts _ (lt_mem (k := 4) (i := 130) rfl)) (hts _ (lt_mem (k := 4) (i := 223) rfl)) (hts _ (lt_mem (k := 4) (i := 224) rfl)) (hts _ (lt_mem (k := 5) (i := 187) rfl))
    · exact bb_sel (n := 4) ⟨by decide, by decide⟩ (hts _ (lt_mem (k := 4) (i := 130) rfl)) (hts _ (lt_mem (k := 4) (i := 227) rfl)) (hts _ (lt_mem (k := 4) (i := 228) rfl)) (hts _ (lt_mem (k := 5) (i := 188) rfl))
  · exact hts w h
theorem lx_in {w : Cond} (h : w ∈ lw_tbl) : w ∈ lw_x := List.mem_append_right _ h
theorem lx_good {ws : List Cond} (h : GoodIn lw_tbl ws) : GoodIn lw_x ws := fun w hw => ⟨lx_in (h w hw).1, (h w hw).2⟩
def lx_c (k : Nat) : List Cond := match k with
  | 8 => bb_six
  | k => lt_c k
def lx_get (ps : List (Nat × Nat)) : List Cond := ps.filterMap (fun q => (lx_c q.1)[q.2]?)
theorem lx_mem {k i : Nat} {w : Cond} (h : (lx_c k)[i]? = some w) : w ∈ lw_x := by
  unfold lx_c at h
  split at h
  · exact List.mem_append_left _ (List.mem_of_getElem? h)
  · exact lx_in (lt_mem h)
theorem lx_r (ws : List Cond) (ps : List (Nat × Nat)) (hp : ws = lx_get ps) (h : ws.all goodWord = true) : GoodIn lw_x ws := fun w hw => ⟨by
  rw [hp] at hw
  obtain ⟨q, -, h2⟩ := List.mem_filterMap.mp hw
  exact lx_mem h2, good_of_word (List.all_eq_true.mp h w hw)⟩
set_option maxRecDepth 200000 in
set_option maxHeartbeats 4000000 in
theorem gX_L_setup : GoodIn lw_x (va_wsS RL 109 yL_setup wsL_setup) := lx_r _ [(4,126),(4,127),(1,0),(4,128),(4,129),(4,130),(1,16),(5,63),(4,132),(4,133),(4,134),(4,135),(4,136),(1,15),(4,137),(4,138),(1,36),(1,37),(4,140),(4,141),(5,12),(2,154),(5,11),(4,139),(1,226),(1,227),(1,10),(1,228),(5,110),(1,229),(1,230),(1,231),(1,232),(1,233),(5,111),(4,142),(4,143),(4,144),(1,13),(4,145),(4,146),(4,147),(4,148),(4,149),(4,150),(4,152),(4,151),(4,153),(4,154),(4,155),(4,156),(4,157),(4,158),(4,159),(4,160),(4,161),(4,151),(4,162),(5,14),(4,163),(5,183),(8,0),(4,165),(4,166),(4,167),(5,184),(8,1),(4,169),(4,170),(4,171),(5,185),(8,2),(4,173),(4,174),(4,175),(4,176),(1,17),(4,177),(4,178),(4,179),(1,18),(4,180),(4,181),(4,182),(4,183),(4,184),(4,185),(4,186),(1,19),(4,187),(4,188),(4,189),(4,190),(4,191),(4,192),(4,194),(4,195),(3,102),(3,103),(4,196),(2,114),(2,113),(1,14),(4,197),(4,199),(4,200),(4,198),(4,201),(4,202),(4,203),(4,204),(4,205),(2,27),(4,206),(4,207),(4,208),(2,20),(2,21),(2,22),(4,209),(4,210),(4,211),(2,9),(4,212),(4,213),(1,12),(4,214),(4,215),(4,216),(4,217),(2,29),(2,31),(4,218),(5,186),(8,3),(4,220),(4,221),(4,222),(5,187),(8,4),(4,224),(4,225),(4,226),(5,188),(8,5),(4,228),(4,229),(4,230),(4,231),(1,11),(4,232),(4,233),(4,234),(4,235),(4,236),(4,237),(4,238),(4,239),(5,0),(5,1),(5,2),(5,3),(5,4),(5,5),(5,6),(5,7),(5,8),(5,9),(5,10),(5,23),(5,24),(5,25),(5,26),(5,27),(5,189),(5,28),(5,29),(5,30),(5,31),(1,21),(5,32),(5,33),(5,34),(5,35),(5,36),(5,38),(5,40),(5,41),(5,42),(5,43),(5,44),(5,45),(5,46),(5,47),(5,48),(5,49),(5,50),(5,51),(5,52),(5,190),(5,53),(5,54),(5,55),(5,56),(5,57),(5,58),(5,59),(5,60),(2,17),(2,18),(2,19),(2,23),(2,7),(2,8),(2,11),(2,12),(2,13),(5,62),(4,100),(4,101),(1,0),(4,102),(4,103),(5,64),(5,65),(5,66),(5,67),(5,68),(5,69),(5,70),(5,71),(5,72),(5,73),(5,74),(5,75),(5,76),(5,13),(5,77),(5,79),(5,80),(5,78),(5,81),(5,82),(5,84),(5,83),(5,85),(5,86),(5,87),(5,88),(5,83),(5,89),(5,90),(5,91),(5,92),(5,93),(5,94),(5,95),(5,96),(5,97),(5,98),(5,99),(5,100),(5,101),(5,102),(5,103),(5,104),(5,105),(2,24),(2,25),(2,26),(5,106),(5,107),(5,108),(5,109),(5,15),(5,17),(5,19),(5,21),(5,112),(5,114),(5,116),(5,118)] rfl rfl
set_option maxRecDepth 200000 in
theorem lxin_RJ0 : ∀ x ∈ u_ws RJ0 TJ0 4, x ∈ lw_tbl := fun x hx => (lt_r (u_ws RJ0 TJ0 4) [(5,112),(5,114),(5,116),(5,118)] rfl rfl x hx).1
/-! a text in a world, as facts -/
/-- F, and the String at t with the bytes at q -/
def tf_F (F : cw_F) (t q : Nat) (tl : List Int32) : cw_F := fun A U H => F A U H ∧ va_O "java/lang/String" t A U H ∧ va_OF "java/lang/String" "coder" "B" (.int 0) t A U H ∧ va_OF "java/lang/String" "value" "[B" (.ref q) t A U H ∧ va_T .byte q tl.length (fun j => .int (tl.getD j 0)) A U H
theorem tf_ok {F : cw_F} {t q : Nat} {tl : List Int32} (h : cw_Fok F) : cw_Fok (tf_F F t q tl) := by
  refine ⟨fun A u U H hW z => ?_, fun A U H H1 z hs hk => ?_, fun A B U H z hb => ?_⟩
  · obtain ⟨z0, z1, z2, z3, z4⟩ := z
    exact ⟨h.1 A u U H hW z0, va_O.moved hW.alike z1, va_OF.moved hW.alike z2, va_OF.moved hW.alike z3, va_T.moved hW.alike z4⟩
  · obtain ⟨z0, z1, z2, z3, z4⟩ := z
    exact ⟨h.2.1 A U H H1 z0 hs hk, z1.kept hk, z2.kept hk, z3.kept hk, z4.kept hk⟩
  · obtain ⟨z0, z1, z2, z3, z4⟩ := z
    exact ⟨h.2.2 A B U H z0 hb, z1.narrow hb, z2.narrow hb, z3.narrow hb, z4.narrow hb⟩
theorem tf_tx {K : cw_K} {F : cw_F} {sd sv : Nat → Nat} {t q : Nat} {tl : List Int32} (hFS : cw_FS F sd sv) : cw_Ftx (tf_F F t q tl) t q tl := fun A U H z => ⟨(hFS A U H z.1).1, (hFS A U H z.1).2.1, z.2.1, z.2.2.1, z.2.2.2.1, z.2.2.2.2⟩
/-- the text out of its cells -/
theorem tf_of {F : cw_F} {D : va_G} {cy : Nat → ClassId} {ws : va_W} {s : State} {args : Array Value} {H : Heap} {A : Nat → Prop} {i j t q : Nat} {c3 : Int32} {h2 : Int32} {f : Nat → Int32} {tl : List Int32} (hts : ∀ w ∈ lw_tbl, w.before args s = true) (hK : va_K D vwCl (cw_ty cy) s) (hP : va_P D vwCl ws H) (hF : F A s H) (hi : ws[i]? = some (t, .inr (0, [.ref q, .int 0, .int h2, .int c3]))) (hj : ws[j]? = some (q, .inl (cy 4, tl.length, .inl f))) (hf : ∀ j, j < tl.length → f j = tl.getD j 0) (ht : ¬ A t) (hq : ¬ A q) : tf_F F t q tl A s H := by
  obtain ⟨cell, a1, a2, a3⟩ := va_recv hK hP (ci := 0) (q := (RJ0, TJ0, 4)) rfl hi
  obtain ⟨r, h1, cell2, q1, q2, q3, q4⟩ := hP i _ hi
  have hr : r = (RJ0, TJ0, 4) := Option.some.inj (h1.symm.trans rfl)
  subst hr
  obtain ⟨hS, hfc, kC, hkC, hkind⟩ := hK.1 0 _ rfl
  have fld : ∀ k, k < 4 → ∀ v, [Value.ref q, .int 0, .int h2, .int c3][k]? = some v → va_OF (TJ0 k).1 (TJ0 k).2.1 (TJ0 k).2.2.1 v t A s H := fun k hk v hv => by
    obtain ⟨cf, kf, fi, fd, hi9, hsl⟩ := hS k hk
    refine ⟨cf, kf, fi, fd, cell2, hi9, (u_facts hfc hkC (u_lays hts lxin_RJ0 hk) hi9).1, q1, (by rw [q3]; exact (fun h => by cases h)), ?_, ht⟩
    rw [hsl, q4 k hk]
    simp [vp_V, hv]
  refine ⟨hF, ⟨cell, a1, a2, a3, ht⟩, fld 1 (by decide) _ rfl, fld 0 (by decide) _ rfl, ?_⟩
  have hb := hP j _ hj
  refine ⟨_, hb, (hK.2 4 (cy 4, .byte) rfl).1 tl.length (fun j => .int (f j)), (fun h => by cases h), ?_, ?_, fun j hj9 => ?_, hq⟩
  · show tl.length ≤ (arrV _ _ _).slots.size
    rw [arrV_size]
    exact Nat.le_refl _
  · show ((arrV _ _ _).slots.size).toInt32 = _
    rw [arrV_size] <;> rfl
  · show (arrV _ _ _).slots[j]? = _
    rw [arrV_read _ _ hj9, hf j hj9]
