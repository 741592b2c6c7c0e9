/-! ## the Verbs, the facts at the start -/
set_option maxRecDepth 200000
def zv_nm (j : Nat) : String := match j with
  | 0 => "GIVE"
  | 1 => "FREE"
  | 2 => "SWAP"
  | 3 => "VALUE"
  | 4 => "DIVIDE"
  | 5 => "KNIFE"
  | 6 => "ROBIN"
  | _ => "ROTATE"
def zv_w (j : Nat) : Nat := match j with
  | 0 => 55
  | 1 => 63
  | 2 => 68
  | 3 => 73
  | 4 => 76
  | 5 => 79
  | 6 => 84
  | _ => 89
def zv_p (j : Nat) : Nat := match j with
  | 0 => 57
  | 1 => 65
  | 2 => 70
  | 3 => 57
  | 4 => 70
  | 5 => 81
  | 6 => 86
  | _ => 86
def zv_m (j : Nat) : Nat := match j with
  | 0 => 213
  | 1 => 215
  | 2 => 217
  | 3 => 219
  | 4 => 220
  | 5 => 222
  | 6 => 224
  | _ => 226
abbrev zv_t (j : Nat) : Term := .static RX9 (zv_nm j) "LCakeDivision$Verb;"
abbrev zv_A : Term := .static RX5 "VERBS" "[LCakeDivision$Verb;"
abbrev zv_M : Term := .static "CakeDivision$1" "$SwitchMap$CakeDivision$Verb" "[I"
theorem zv_x : ∀ j, j < 8 → Cond.exactly (zv_t j) RX9 ∈ nr_c 0 := by decide +kernel
theorem zv_o : ∀ j, j < 8 → Cond.eq (.field (zv_t j) "java/lang/Enum" "ordinal" "I") (.int (nI j)) ∈ nr_c 0 := by decide +kernel
theorem zv_fw : ∀ j, j < 8 → Cond.eq (.field (zv_t j) RX9 "word" "Ljava/lang/String;") (.string RX9 (zv_w j)) ∈ nr_c 0 := by decide +kernel
theorem zv_fp : ∀ j, j < 8 → Cond.eq (.field (zv_t j) RX9 "pattern" "Ljava/lang/String;") (.string RX9 (zv_p j)) ∈ nr_c 0 := by decide +kernel
theorem zv_el : ∀ j, j < 8 → Cond.eq (.elem zv_A (.int (Int32.ofNat j))) (zv_t j) ∈ nr_c 0 := by decide +kernel
theorem zv_me : ∀ j, j < 8 → Cond.eq (.elem zv_M (.int (Int32.ofNat j))) (.int (cw_sm j)) ∈ nr_c 0 := by decide +kernel
theorem zv_eq : ∀ j, j < 8 → Cond.eq (.string RX11 (zv_m j)) (.string RX9 (zv_w j)) ∈ nr_c 2 := by decide +kernel
theorem zv_tw : ∀ j, j < 8 → zs_tm (2 + j) = .string RX11 (zv_m j) ∧ zs_tm (cw_pat j) = .string RX9 (zv_p j) ∧ cw_pat j < 16 := by decide +kernel
theorem zv_T {ty : FieldType} {t N : Nat} {f g : Nat → Value} {A : Nat → Prop} {U : State} {H : Heap} (h : va_T ty t N f A U H) (e : ∀ j, j < N → f j = g j) : va_T ty t N g A U H := by
  obtain ⟨cell, h1, h2, h3, h4, h5, h6, h7⟩ := h
  exact ⟨cell, h1, h2, h3, h4, h5, fun j hj => by rw [h6 j hj, e j hj], h7⟩
section ZV
variable {s : State} {args : Array Value} {A : Nat → Prop} {sd sv : Nat → Nat}
theorem zs_ex {t : Term} {C : String} (h : (Cond.exactly t C).before args s = true) : ∃ a : Nat, t.eval args s none [] s = some (.ref a) := by
  obtain ⟨a, c, cA, kA, q1, -⟩ := Cond.exactly_spec (args := args) (first := s) (o := none) (s := s) (idx := []) (t := t) (cls := C) h
  exact ⟨a, q1⟩
theorem zv_V (hts : ∀ w ∈ lw_tbl, w.before args s = true) (hn : ∀ k, ∀ w ∈ nr_c k, w.before args s = true) (hA : ∀ a : Nat, a < s.heap.size → ¬ A a) (hs : ∀ k, k < 16 → (zs_tm k).eval args s none [] s = some (.ref (sd k))) : ∃ vd : Nat → Nat, zf_V vd sd A s s.heap := by
  have h : ∀ j : Nat, ∃ a : Nat, j < 8 → (zv_t j).eval args s none [] s = some (.ref a) ∧ va_O RX9 a A s s.heap := by
    intro j
    by_cases hj : j < 8
    · obtain ⟨a, c, cA, kA, q1, q2, q3, q4, q5, q6, -⟩ := Cond.exactly_spec (args := args) (first := s) (o := none) (s := s) (idx := []) (t := zv_t j) (cls := RX9) (hn 0 _ (zv_x j hj))
      exact ⟨a, fun _ => ⟨q1, cA, q3, q5, by rw [q6]; exact q2, hA a (Array.getElem?_eq_some_iff.mp q3).1⟩⟩
    · exact ⟨0, fun h => absurd h hj⟩
  obtain ⟨f, hf⟩ := Classical.axiomOfChoice h
  obtain ⟨tA, eA, hTA⟩ := va_Tof (f := fun j => .ref (f j)) (A := A) (N := 8) (by decide) (hn 0 (.arrayOf zv_A (.object RX9)) (nr_at (i := 11) (by decide +kernel))) (va_eqt (hn 0 (.eq (.length zv_A) (.int 8)) (nr_at (i := 12) (by decide +kernel)))) (fun j hj => zs_eq' (hn 0 _ (zv_el j hj)) (hf j hj).1) hA
  obtain ⟨tM, eM, hTM⟩ := va_Tof (f := fun j => .int (cw_sm j)) (A := A) (N := 8) (by decide) (hn 0 (.arrayOf zv_M .int) (nr_at (i := 23) (by decide +kernel))) (va_eqt (hn 0 (.eq (.length zv_M) (.int 8)) (nr_at (i := 24) (by decide +kernel)))) (fun j hj => va_eqt (hn 0 _ (zv_me j hj))) hA
  have e8 : ∀ j, j < 8 → (if j = 100 then tA else if j = 101 then tM else f j) = f j := fun j hj => by rw [if_neg (by omega), if_neg (by omega)]
  refine ⟨fun j => if j = 100 then tA else if j = 101 then tM else f j, ?_, zv_T hTA (fun j hj => congrArg Value.ref (e8 j hj).symm), ?_, hTM, fun c _ => va_asg _ _, fun j hj => ?_⟩
  · exact va_Zref (hts (.laysStatic RX5 "VERBS" "[LCakeDivision$Verb;") (lt_mem (k := 5) (i := 175) rfl)) (hts (.initialized RX5) (lt_mem (k := 1) (i := 4) rfl)) eA hA
  · exact va_Zref (hts (.laysStatic "CakeDivision$1" "$SwitchMap$CakeDivision$Verb" "[I") (lt_mem (k := 5) (i := 198) rfl)) (hts (.initialized "CakeDivision$1") (lt_mem (k := 1) (i := 24) rfl)) eM hA
  · show va_O RX9 (if j = 100 then tA else if j = 101 then tM else f j) A s s.heap ∧ va_OF RX9 "word" "Ljava/lang/String;" (.ref (sd (2 + j))) (if j = 100 then tA else if j = 101 then tM else f j) A s s.heap ∧ va_OF RX9 "pattern" "Ljava/lang/String;" (.ref (sd (cw_pat j))) (if j = 100 then tA else if j = 101 then tM else f j) A s s.heap ∧ va_OF "java/lang/Enum" "ordinal" "I" (.int (nI j)) (if j = 100 then tA else if j = 101 then tM else f j) A s s.heap
    rw [e8 j hj]
    obtain ⟨t1, t2, t3⟩ := zv_tw j hj
    have hw := hs (2 + j) (by omega)
    have hp := hs (cw_pat j) t3
    rw [t1] at hw
    rw [t2] at hp
    exact ⟨(hf j hj).2, vk_OFof (hf j hj).1 (zs_eq' (hn 0 _ (zv_fw j hj)) (zs_eq (hn 2 _ (zv_eq j hj)) hw)) hA, vk_OFof (hf j hj).1 (zs_eq' (hn 0 _ (zv_fp j hj)) hp) hA, vk_OFof (hf j hj).1 (va_eqt (hn 0 _ (zv_o j hj))) hA⟩
theorem zv_C (hts : ∀ w ∈ lw_tbl, w.before args s = true) (hn : ∀ k, ∀ w ∈ nr_c k, w.before args s = true) (hs : ∀ k, k < 16 → (zs_tm k).eval args s none [] s = some (.ref (sd k))) : zf_C sd s := by
  intro q hq
  simp only [cw_cons, List.mem_cons, List.not_mem_nil, or_false] at hq
  rcases hq with rfl | rfl | rfl | rfl | rfl | rfl | rfl | rfl | rfl | rfl | rfl | rfl
  · exact vk_R.of (A := args) (hts _ (lt_mem (k := 2) (i := 62) rfl)) (hs 0 (by decide))
  · exact vk_R.of (A := args) (hts _ (lt_mem (k := 2) (i := 93) rfl)) (hs 1 (by decide))
  · exact vk_R.of (A := args) (hts _ (lt_mem (k := 6) (i := 62) rfl)) (zs_eq (t := .string RX5 18) (hn 2 _ (nr_at (i := 202) (by decide +kernel))) (hs 0 (by decide)))
  · exact vk_R.of (A := args) (hts _ (lt_mem (k := 6) (i := 86) rfl)) (zs_eq (t := .string RX5 51) (hn 2 _ (nr_at (i := 214) (by decide +kernel))) (hs 1 (by decide)))
  · exact vk_R.of (A := args) (hts _ (lt_mem (k := 6) (i := 199) rfl)) (hs 2 (by decide))
  · exact vk_R.of (A := args) (hts _ (lt_mem (k := 6) (i := 200) rfl)) (hs 3 (by decide))
  · exact vk_R.of (A := args) (hts _ (lt_mem (k := 6) (i := 201) rfl)) (hs 4 (by decide))
  · exact vk_R.of (A := args) (hts _ (lt_mem (k := 6) (i := 202) rfl)) (hs 5 (by decide))
  · exact vk_R.of (A := args) (hts _ (lt_mem (k := 6) (i := 203) rfl)) (hs 6 (by decide))
  · exact vk_R.of (A := args) (hts _ (lt_mem (k := 6) (i := 204) rfl)) (hs 7 (by decide))
  · exact vk_R.of (A := args) (hts _ (lt_mem (k := 6) (i := 205) rfl)) (hs 8 (by decide))
  · exact vk_R.of (A := args) (hts _ (lt_mem (k := 6) (i := 206) rfl)) (hs 9 (by decide))
theorem zv_2 (hts : ∀ w ∈ lw_tbl, w.before args s = true) (hn : ∀ k, ∀ w ∈ nr_c k, w.before args s = true) (hs : ∀ k, k < 16 → (zs_tm k).eval args s none [] s = some (.ref (sd k))) : zf_2 sd s :=
  ⟨vk_R.of (A := args) (hts _ (lt_mem (k := 1) (i := 226) rfl)) (hs 15 (by decide)), vk_R.of (A := args) (hts _ (lt_mem (k := 6) (i := 41) rfl)) (zs_eq (t := .string RX10 77) (hn 2 _ (nr_at (i := 193) (by decide +kernel))) (hs 15 (by decide)))⟩
def zf_L : List Cond := lt_get [(3,193), (4,33), (4,73), (4,99), (3,195), (3,197), (3,199)]
theorem zf_in : ∀ q ∈ cw_sites, ∀ x ∈ zf_w q, x ∈ zf_L := by decide +kernel
theorem zv_site (hts : ∀ w ∈ lw_tbl, w.before args s = true) (hn : ∀ k, ∀ w ∈ nr_c k, w.before args s = true) {c i k j x : Nat} {tx : String} (h1 : (nr_c c)[i]? = some (.exactly (.string RX10 x) "java/lang/String")) (h2 : (lt_c k)[j]? = some (.stringRef RX10 x tx)) : ∃ a : Nat, vk_R RX10 x tx a s := by
  obtain ⟨a, ha⟩ := zs_ex (hn c _ (nr_at h1))
  exact ⟨a, vk_R.of (A := args) (hts _ (lt_mem h2)) ha⟩
theorem zv_Tx (hts : ∀ w ∈ lw_tbl, w.before args s = true) (hn : ∀ k, ∀ w ∈ nr_c k, w.before args s = true) : ∀ q ∈ cw_sites, ∃ a : Nat, vk_R RX10 q.2.2.2.1 q.2.2.2.2 a s := by
  intro q hq
  simp only [cw_sites, List.mem_cons, List.not_mem_nil, or_false] at hq
  rcases hq with rfl | rfl | rfl | rfl | rfl | rfl | rfl | rfl | rfl | rfl | rfl | rfl | rfl | rfl | rfl | rfl | rfl | rfl | rfl
  · exact zv_site hts hn (c := 0) (i := 263) (k := 3) (j := 233) (by decide +kernel) rfl
  · exact zv_site hts hn (c := 1) (i := 163) (k := 4) (j := 216) (by decide +kernel) rfl
  · exact zv_site hts hn (c := 1) (i := 308) (k := 5) (j := 141) (by decide +kernel) rfl
  · exact zv_site hts hn (c := 1) (i := 373) (k := 5) (j := 226) (by decide +kernel) rfl
  · exact zv_site hts hn (c := 2) (i := 30) (k := 6) (j := 18) (by decide +kernel) rfl
  · exact zv_site hts hn (c := 1) (i := 250) (k := 5) (j := 100) (by decide +kernel) rfl
  · exact zv_site hts hn (c := 0) (i := 291) (k := 4) (j := 40) (by decide +kernel) rfl
  · exact zv_site hts hn (c := 0) (i := 330) (k := 4) (j := 54) (by decide +kernel) rfl
  · exact zv_site hts hn (c := 1) (i := 124) (k := 4) (j := 192) (by decide +kernel) rfl
  · exact zv_site hts hn (c := 1) (i := 279) (k := 5) (j := 112) (by decide +kernel) rfl
  · exact zv_site hts hn (c := 1) (i := 346) (k := 5) (j := 188) (by decide +kernel) rfl
  · exact zv_site hts hn (c := 1) (i := 77) (k := 4) (j := 153) (by decide +kernel) rfl
  · exact zv_site hts hn (c := 0) (i := 391) (k := 4) (j := 87) (by decide +kernel) rfl
  · exact zv_site hts hn (c := 2) (i := 62) (k := 6) (j := 30) (by decide +kernel) rfl
  · exact zv_site hts hn (c := 0) (i := 361) (k := 4) (j := 80) (by decide +kernel) rfl
  · exact zv_site hts hn (c := 1) (i := 50) (k := 4) (j := 128) (by decide +kernel) rfl
  · exact zv_site hts hn (c := 2) (i := 3) (k := 6) (j := 6) (by decide +kernel) rfl
  · exact zv_site hts hn (c := 1) (i := 22) (k := 4) (j := 106) (by decide +kernel) rfl
  · exact zv_site hts hn (c := 1) (i := 206) (k := 5) (j := 20) (by decide +kernel) rfl
theorem zf_start (hts : ∀ w ∈ lw_tbl, w.before args s = true) (hn : ∀ k, ∀ w ∈ nr_c k, w.before args s = true) (hA : ∀ a : Nat, a < s.heap.size → ¬ A a) : ∃ vd sd sv : Nat → Nat, zf_F vd sd sv A s s.heap := by
  obtain ⟨sd, sv, hs⟩ := zs_all hn hA
  have hs1 : ∀ k, k < 16 → (zs_tm k).eval args s none [] s = some (.ref (sd k)) := fun k hk => (hs k hk).1
  obtain ⟨vd, hV⟩ := zv_V hts hn hA hs1
  refine ⟨vd, sd, sv, ⟨?_, ?_, fun k hk => (hs k hk).2⟩, zv_C hts hn hs1, ⟨?_, ?_, fun q hq => ⟨zv_Tx hts hn q hq, fun x hx => va_Nw.of (zk_on (zf_kind q hq x hx)) (hts x (lt_in (zf_in q hq x hx)))⟩⟩, hV, zv_2 hts hn hs1⟩
  · exact va_Zof (hts (.laysStatic "java/lang/String" "COMPACT_STRINGS" "Z") (lt_mem (k := 2) (i := 0) rfl)) (hts (.initialized "java/lang/String") (lt_mem (k := 1) (i := 10) rfl)) (va_eqt (hn 0 _ (nr_at (i := 2) (by decide +kernel)))) hA
  · exact va_Zqof (hts (.laysStatic "jdk/internal/util/Preconditions" "SIOOBE_FORMATTER" "Ljava/util/function/BiFunction;") (lt_mem (k := 2) (i := 16) rfl)) (hts (.initialized "jdk/internal/util/Preconditions") (lt_mem (k := 1) (i := 12) rfl)) (hn 0 _ (nr_at (i := 3) (by decide +kernel))) hA
  · exact vx_Zqof (hts (.laysStatic Bundle.tN "UNASSIGNED_STACK" Bundle.steD) (lt_mem (k := 3) (i := 218) rfl)) (hts (.initialized Bundle.tN) (lt_mem (k := 1) (i := 16) rfl)) (hn 0 (.isRef (.static Bundle.tN "UNASSIGNED_STACK" Bundle.steD)) (nr_at (i := 7) (by decide +kernel))) hA
  · exact vx_Zqof (hts (.laysStatic Bundle.tN "SUPPRESSED_SENTINEL" Bundle.listD) (lt_mem (k := 3) (i := 220) rfl)) (hts (.initialized Bundle.tN) (lt_mem (k := 1) (i := 16) rfl)) (hn 0 (.isRef (.static Bundle.tN "SUPPRESSED_SENTINEL" Bundle.listD)) (nr_at (i := 8) (by decide +kernel))) hA
theorem zf_ck (hts : ∀ w ∈ lw_tbl, w.before args s = true) (hn : ∀ k, ∀ w ∈ nr_c k, w.before args s = true) : ck s := by
  refine ⟨fun E hE => ?_, fun E hE => ?_⟩
  · simp only [List.mem_cons, List.not_mem_nil, or_false] at hE
    rcases hE with rfl | rfl | rfl | rfl
    · exact va_Nw.of rfl (hts _ (lt_mem (k := 4) (i := 73) rfl))
    · exact va_Nw.of rfl (hts _ (lt_mem (k := 4) (i := 33) rfl))
    · exact va_Nw.of rfl (hts _ (lt_mem (k := 3) (i := 193) rfl))
    · exact va_Nw.of rfl (hts _ (lt_mem (k := 4) (i := 99) rfl))
  · simp only [List.mem_cons, List.not_mem_nil, or_false] at hE
    rcases hE with rfl | rfl | rfl
    · exact va_Nc.of (args := args) (hn 0 _ (nr_at (i := 132) (by decide +kernel)))
    · exact va_Nc.of (args := args) (hn 0 _ (nr_at (i := 131) (by decide +kernel)))
    · exact va_Nc.of (args := args) (hn 0 _ (nr_at (i := 133) (by decide +kernel)))
end ZV
