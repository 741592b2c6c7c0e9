/-! What nobody writes: the texts, the script; and the rows that speak of them. -/
def cw_tx (k : Nat) : List Int32 := match k with
  | 0 => [99, 97, 107, 101]
  | 1 => [115, 105, 98, 108, 105, 110, 103]
  | 2 => [99, 97, 107, 101, 32]
  | 3 => [115, 105, 98, 108, 105, 110, 103, 32, 115]
  | 15 => [99, 97, 107, 101, 32, 56, 59, 115, 105, 98, 108, 105, 110, 103, 32, 97, 110, 110, 32, 49, 32, 50, 32, 51, 32, 52, 32, 52, 32, 51, 32, 50, 32, 49, 59, 115, 105, 98, 108, 105, 110, 103, 32, 98, 111, 98, 32, 57, 32, 48, 32, 48, 32, 48, 32, 48, 32, 48, 32, 48, 32, 57, 59, 115, 105, 98, 108, 105, 110, 103, 32, 99, 105, 100, 32, 49, 32, 49, 32, 49, 32, 49, 32, 49, 32, 49, 32, 49, 32, 49, 59]
  | _ => []
abbrev cw_tk (k : Nat) : Prop := k = 0 ∨ k = 1 ∨ k = 2 ∨ k = 3 ∨ k = 15
abbrev cw_ln (k : Nat) : Int32 := Int32.ofNat (cw_tx k).length
abbrev cw_ch (k : Nat) (i : Int32) : Int32 := (cw_tx k).getD i.toNatClampNeg 0
def cw_FS (F : cw_F) (sd sv : Nat → Nat) : Prop := ∀ (A : Nat → Prop) (U : State) (H : Heap), F A U H → va_Z "java/lang/String" "COMPACT_STRINGS" "Z" (.int 1) A U H ∧ va_Zq "jdk/internal/util/Preconditions" "SIOOBE_FORMATTER" "Ljava/util/function/BiFunction;" A U H ∧ ∀ k : Nat, cw_tk k → va_O "java/lang/String" (sd k) A U H ∧ va_OF "java/lang/String" "coder" "B" (.int 0) (sd k) A U H ∧ va_OF "java/lang/String" "value" "[B" (.ref (sv k)) (sd k) A U H ∧ va_T .byte (sv k) (cw_tx k).length (fun j => .int ((cw_tx k).getD j 0)) A U H
theorem cw_FS.str {F : cw_F} {sd sv : Nat → Nat} (h : cw_FS F sd sv) (A : Nat → Prop) (U : State) (H : Heap) (q : F A U H) {k : Nat} (hk : cw_tk k) : va_O "java/lang/String" (sd k) A U H ∧ va_OF "java/lang/String" "coder" "B" (.int 0) (sd k) A U H ∧ va_OF "java/lang/String" "value" "[B" (.ref (sv k)) (sd k) A U H ∧ va_T .byte (sv k) (cw_tx k).length (fun j => .int ((cw_tx k).getD j 0)) A U H := (h A U H q).2.2 k hk
def cw_cons : List (String × Nat × String × Nat) := [(RX10, 77, "cake 8;sibling ann 1 2 3 4 4 3 2 1;sibling bob 9 0 0 0 0 0 0 9;sibling cid 1 1 1 1 1 1 1 1;", 15), (RX5, 18, "cake", 0), (RX5, 51, "sibling", 1), (RL, 36, "cake ", 2), (RL, 47, "sibling s", 3)]
def cw_FC (K : cw_K) : Prop := ∀ q ∈ cw_cons, ∀ (A : Nat → Prop) (U : State) (H : Heap), cw_Fc K A U H → vk_R q.1 q.2.1 q.2.2.1 (cw_sd K q.2.2.2) U
/-- a text that the law has made: the String at ta, its bytes at tv, the letters tl -/
def cw_Ftx (F : cw_F) (ta tv : Nat) (tl : List Int32) : Prop := ∀ (A : Nat → Prop) (U : State) (H : Heap), F A U H → va_Z "java/lang/String" "COMPACT_STRINGS" "Z" (.int 1) A U H ∧ va_Zq "jdk/internal/util/Preconditions" "SIOOBE_FORMATTER" "Ljava/util/function/BiFunction;" A U H ∧ va_O "java/lang/String" ta A U H ∧ va_OF "java/lang/String" "coder" "B" (.int 0) ta A U H ∧ va_OF "java/lang/String" "value" "[B" (.ref tv) ta A U H ∧ va_T .byte tv (tl).length (fun j => .int ((tl).getD j 0)) A U H
/-- letters of one byte -/
def cw_Btx (tl : List Int32) : Prop := tl.length < 2 ^ 20 ∧ ∀ i, i < tl.length → ∃ b : Nat, b < 128 ∧ tl.getD i 0 = nI b
/-- the law's script -/
def cw_Fsc (F : cw_F) (sa sn : Nat) (sf : Nat → Int32) : Prop := ∀ (A : Nat → Prop) (U : State) (H : Heap), F A U H → va_T .int sa sn (fun j => .int (sf j)) A U H
section CWN
variable {w w0 : cw_G} {M : cw_Me} {Z : cw_Zt} {mc ms uc us : Nat} {I : cw_M} {pc : Nat} {L L' : List (Nat × Value)} {st stk : List Value}
theorem cw_ldcI {index : Nat} {v : Int32} (hc : Cond.constant (cw_y M).cls index v ∈ cw_w M) (hd : decode (cw_c M) pc = .ok (.ldc index, 2)) (kk : cw_B w w0 M Z mc ms uc us I (pc + 2) L (.int v :: st)) : cw_B w w0 M Z mc ms uc us I pc L st :=
  fun p e s m args below meth c H locs ls X hP hS h => lv_ldc X.1.1 X.1.2.1 X.1.2.2.2.1 (X.1.2.2.2.2 _ hc) hd (kk p e s m args below meth c H locs ls X hP hS h)
theorem cw_astore {i x : Nat} (hd : decode (cw_c M) pc = .ok (.astore i, 2)) (hn : i < cw_k M) (hl : (i, Value.ref x) :: L.filter (fun q => !(q.1 == i) && !(q.1 + 1 == i && q.2.category == 2)) = L') (kk : cw_B w w0 M Z mc ms uc us I (pc + 2) L' st) : cw_B w w0 M Z mc ms uc us I pc L (.ref x :: st) :=
  fun p e s m args below meth c H locs ls X hP hS h => lv_astore X.1.1 X.1.2.1 hd h hn hl (fun ls' h' => kk p e s m args below meth c H locs ls' X hP hS h')
/-- a row of an array of rows -/
theorem cw_aldr {i : Int32} {cA : ClassId} {n b : Nat} (o : Nat) (ho : o < cw_n w) (he : cw_e w o (I o) = .inl (cA, n, .inr (.inr (.inr (.inr (fun k => if k < n then some (cw_a w (b + k)) else none)))))) (t0 : Nat) (ht : (cw_t w)[t0]? = some (cA, .array .int)) (hd : decode (cw_c M) pc = .ok (.aaload, 1)) (hin : vp_in i n) (kk : cw_B w w0 M Z mc ms uc us I (pc + 1) L (.ref (cw_a w (b + i.toNatClampNeg)) :: st)) : cw_B w w0 M Z mc ms uc us I pc L (.int i :: .ref (cw_a w o) :: st) := by
  intro p e s m args below meth c H locs ls X hP hS h
  have hlt : i.toNatClampNeg < n := Nat.not_le.mp fun q => hin (Or.inr q)
  exact W.aald (v := .ref (cw_a w (b + i.toNatClampNeg))) (ty := .array .int) X.1.1 X.1.2.1 (hP o (cw_a w o, .inl (cA, n, .inr (.inr (.inr (.inr (fun k => if k < n then some (cw_a w (b + k)) else none)))))) (by rw [cw_wd_get ho, he])) ((X.2.2.2.1.2 t0 _ ht).1 n (fun j => va_rf (if j < n then some (cw_a w (b + j)) else none))) rfl (fun q => by cases q) (by show ¬ (i < 0 ∨ (arrV _ _ _).slots.size ≤ _); rw [arrV_size]; exact hin) (by show (arrV _ _ _).slots[_]? = _; rw [arrV_read _ _ hlt]; show some (va_rf (if i.toNatClampNeg < n then some (cw_a w (b + i.toNatClampNeg)) else none)) = _; rw [if_pos hlt]; rfl) rfl rfl hd (kk p e s m args below meth c H locs ls X hP hS h)
/-- w2 is w with one cell more, at q -/
def cw_ext (w w2 : cw_G) (q : Nat) (E : (Nat → Int32) → va_E) : Prop := cw_l w2 = cw_l w ∧ cw_d w2 = cw_d w ∧ cw_t w2 = cw_t w ∧ cw_n w2 = cw_n w + 1 ∧ (∀ k, k < cw_n w → cw_a w2 k = cw_a w k) ∧ (∀ k, k < cw_n w → cw_e w2 k = cw_e w k) ∧ cw_a w2 (cw_n w) = q ∧ cw_e w2 (cw_n w) = E ∧ cw_f w2 = cw_f w
theorem cw_extX {w2 : cw_G} {E : (Nat → Int32) → va_E} {p : Program} {s : State} {m : MethodId} {args : Array Value} {meth : Method} {c : Code} {H H1 : Heap} {locs : List Loc} {u v : Nat} {f : Nat → Int32} (hx : cw_ext w w2 H.size E) (X : cw_X w w0 M mc ms uc us p s m args meth c) (hP : va_P (cw_d w) vwCl (cw_W w I) H) (hS : va_S (cw_own w0 s.heap.size) s.heap H locs) (hu : u ≤ mc ∧ v ≤ ms) (o1 : ∀ q, q < H.size → H1[q]? = H[q]?) (hz : H1.size = H.size + 1) (hn : va_at (cw_d w) vwCl (H.size, E f) H1) : cw_X w2 w0 M mc ms u v p s m args meth c ∧ va_P (cw_d w2) vwCl (cw_W w2 (cw_up I (cw_n w) f)) H1 ∧ va_S (cw_own w0 s.heap.size) s.heap H1 locs := by
  obtain ⟨-, e2, e3, e4, e5, e6, e7, e8, e9⟩ := hx
  have hlt : ∀ k, k < cw_n w → cw_a w k < H.size := fun k hk => (hP k _ (cw_wd_get hk)).lt
  refine ⟨⟨X.1, X.2.1, X.2.2.1, by rw [e2, e3]; exact X.2.2.2.1, fun i j hi hj hij => ?_, by rw [e9]; exact X.2.2.2.2.2.1, by rw [e9]; exact X.2.2.2.2.2.2.1, X.2.2.2.2.2.2.2.1, fun k hk => ?_, hu⟩, fun k q hq => ?_, ⟨by rw [hz]; exact Nat.le_succ_of_le hS.1, fun q h1 h2 => (o1 q (Nat.lt_of_lt_of_le h1 hS.1)).trans (hS.2.1 q h1 h2), hS.2.2⟩⟩
  · rw [e4] at hi hj
    by_cases h1 : i < cw_n w <;> by_cases h2 : j < cw_n w
    · rw [e5 i h1, e5 j h2] at hij
      exact X.2.2.2.2.1 i j h1 h2 hij
    · obtain rfl : j = cw_n w := by omega
      rw [e5 i h1, e7] at hij
      have := hlt i h1
      omega
    · obtain rfl : i = cw_n w := by omega
      rw [e5 j h2, e7] at hij
      have := hlt j h2
      omega
    · omega
  · rw [e4] at hk
    by_cases h1 : k < cw_n w
    · rw [e5 k h1]
      exact X.2.2.2.2.2.2.2.2.1 k h1
    · obtain rfl : k = cw_n w := by omega
      rw [e7]
      exact Or.inr hS.1
  · have hk : k < cw_n w2 := by
      have := (List.getElem?_eq_some_iff.mp hq).1
      simpa [cw_wd] using this
    rw [cw_wd_get hk] at hq
    cases hq
    rw [e2]
    rw [e4] at hk
    by_cases h1 : k < cw_n w
    · have h9 := (hP k (cw_a w k, cw_e w k (I k)) (cw_wd_get h1)).kept (o1 _ (hlt k h1))
      rw [e5 k h1, e6 k h1]
      have e : cw_up I (cw_n w) f k = I k := by
        unfold cw_up
        rw [if_neg (by omega)]
      rw [e]
      exact h9
    · obtain rfl : k = cw_n w := by omega
      rw [e7, e8]
      have e : cw_up I (cw_n w) f (cw_n w) = f := by
        unfold cw_up
        rw [if_pos rfl]
      rw [e]
      exact hn
theorem cw_newi {n : Int32} {N : Nat} {cA : ClassId} {w' : Nat → cw_G} (hx : ∀ q, cw_ext w (w' q) q (fun f => .inl (cA, N, .inl f))) (t0 : Nat) (ht : (cw_t w)[t0]? = some (cA, .int)) (ha : Cond.arrayClass .int ∈ cw_w M) (hn : n = nI N) (hN : N < 2 ^ 20) (hu : uc + 1 ≤ mc ∧ us + N ≤ ms) (hd : decode (cw_c M) pc = .ok (.newarray .int, 2)) (kk : ∀ q : Nat, cw_B (w' q) w0 M Z mc ms (uc + 1) (us + N) (cw_up I (cw_n w) (fun _ => 0)) (pc + 2) L (.ref (cw_a (w' q) (cw_n w)) :: st)) : cw_B w w0 M Z mc ms uc us I pc L (.int n :: st) := by
  subst hn
  intro p e s m args below meth c H locs ls X hP hS h
  have hc : (nI N).toNatClampNeg = N := nI_clamp (by omega)
  refine va_newaK (atype := .int) X.1.1 X.1.2.1 (X.1.2.2.2.2 _ ha) rfl hd rfl (nI_pos (by omega)) hc (by show N * 4 ≤ _; omega) hu.1 hu.2 rfl (fun H1 cB e1 z1 o1 hAr hNm => ?_)
  have hcc : cA = cB := by
    have h9 := (X.2.2.2.1.2 t0 _ ht).2
    exact Option.some.inj (h9.symm.trans hNm)
  subst hcc
  obtain ⟨X1, P1, S1⟩ := cw_extX (f := fun _ => 0) (hx H.size) X hP hS hu o1 z1 (show va_at (cw_d w) vwCl (H.size, .inl (cA, N, .inl (fun _ => 0))) H1 from e1)
  have h9 := kk H.size p e s m args below meth c H1 locs ls X1 P1 S1 h
  rw [(hx H.size).1, (hx H.size).2.2.2.2.2.2.1] at h9
  exact h9
theorem cw_newz {n : Int32} {N : Nat} {cA : ClassId} {w' : Nat → cw_G} (hx : ∀ q, cw_ext w (w' q) q (fun f => .inl (cA, N, .inl f))) (t0 : Nat) (ht : (cw_t w)[t0]? = some (cA, .boolean)) (ha : Cond.arrayClass .boolean ∈ cw_w M) (hn : n = nI N) (hN : N < 2 ^ 20) (hu : uc + 1 ≤ mc ∧ us + N ≤ ms) (hd : decode (cw_c M) pc = .ok (.newarray .boolean, 2)) (kk : ∀ q : Nat, cw_B (w' q) w0 M Z mc ms (uc + 1) (us + N) (cw_up I (cw_n w) (fun _ => 0)) (pc + 2) L (.ref (cw_a (w' q) (cw_n w)) :: st)) : cw_B w w0 M Z mc ms uc us I pc L (.int n :: st) := by
  subst hn
  intro p e s m args below meth c H locs ls X hP hS h
  have hc : (nI N).toNatClampNeg = N := nI_clamp (by omega)
  refine va_newaK (atype := .boolean) X.1.1 X.1.2.1 (X.1.2.2.2.2 _ ha) rfl hd rfl (nI_pos (by omega)) hc (by show N * 1 ≤ _; omega) hu.1 hu.2 rfl (fun H1 cB e1 z1 o1 hAr hNm => ?_)
  have hcc : cA = cB := by
    have h9 := (X.2.2.2.1.2 t0 _ ht).2
    exact Option.some.inj (h9.symm.trans hNm)
  subst hcc
  obtain ⟨X1, P1, S1⟩ := cw_extX (f := fun _ => 0) (hx H.size) X hP hS hu o1 z1 (show va_at (cw_d w) vwCl (H.size, .inl (cA, N, .inl (fun _ => 0))) H1 from e1)
  have h9 := kk H.size p e s m args below meth c H1 locs ls X1 P1 S1 h
  rw [(hx H.size).1, (hx H.size).2.2.2.2.2.2.1] at h9
  exact h9
/-- cells that are not wanted any more -/
theorem cw_drop {w1 : cw_G} (hle : cw_le w1 w) (hf : cw_f w1 = cw_f w) (kk : cw_B w1 w0 M Z mc ms uc us I pc L st) : cw_B w w0 M Z mc ms uc us I pc L st := by
  intro p e s m args below meth c H locs ls X hP hS h
  have h9 := kk p e s m args below meth c H locs ls ⟨X.1, X.2.1, X.2.2.1, by rw [hle.2.1, hle.2.2.1]; exact X.2.2.2.1, fun i j hi hj hij => X.2.2.2.2.1 i j (Nat.lt_of_lt_of_le hi hle.2.2.2.1) (Nat.lt_of_lt_of_le hj hle.2.2.2.1) (by rw [← hle.2.2.2.2.1 i hi, ← hle.2.2.2.2.1 j hj]; exact hij), by rw [hf]; exact X.2.2.2.2.2.1, by rw [hf]; exact X.2.2.2.2.2.2.1, X.2.2.2.2.2.2.2.1, fun k hk => by rw [hle.2.2.2.2.1 k hk]; exact X.2.2.2.2.2.2.2.2.1 k (Nat.lt_of_lt_of_le hk hle.2.2.2.1), cw_Xc X⟩ (cw_le.P hle hP) hS h
  rw [hle.1] at h9
  exact h9
theorem cw_widen {u v : Nat} (h1 : uc ≤ u ∧ us ≤ v) (h2 : u ≤ mc ∧ v ≤ ms) (kk : cw_B w w0 M Z mc ms u v I pc L st) : cw_B w w0 M Z mc ms uc us I pc L st := by
  intro p e s m args below meth c H locs ls X hP hS h
  exact W.widen h1.1 h1.2 (kk p e s m args below meth c H locs ls ⟨X.1, X.2.1, X.2.2.1, X.2.2.2.1, X.2.2.2.2.1, X.2.2.2.2.2.1, X.2.2.2.2.2.2.1, X.2.2.2.2.2.2.2.1, X.2.2.2.2.2.2.2.2.1, h2⟩ hP hS h)
theorem cw_ext.le {w2 : cw_G} {q : Nat} {E : (Nat → Int32) → va_E} (h : cw_ext w w2 q E) : cw_le w w2 := by
  obtain ⟨h1, h2, h3, h4, h5, h6, -, -, h9⟩ := h
  exact ⟨h1.symm, h2.symm, h3.symm, by rw [h4]; exact Nat.le_succ _, fun k hk => (h5 k hk).symm, fun k hk => (h6 k hk).symm, fun _ _ _ q9 => by rw [h9] at q9; exact q9⟩
end CWN

theorem xr_fn (K : cw_K) (k q : Nat) (hk : 40 ≤ k) : (fun i => if i < 6 then some (cw_ad (kset K k q) (34 + i)) else none) = fun i => if i < 6 then some (cw_ad K (34 + i)) else none := by
  funext i
  by_cases h : i < 6
  · rw [if_pos h, if_pos h]
    show some (if 34 + i = k then q else _) = _
    rw [if_neg (by omega)]
  · rw [if_neg h, if_neg h]
theorem xl_cases32 : ∀ j, j < 32 → j = 0 ∨ j = 1 ∨ j = 2 ∨ j = 3 ∨ j = 4 ∨ j = 5 ∨ j = 6 ∨ j = 7 ∨ j = 8 ∨ j = 9 ∨ j = 10 ∨ j = 11 ∨ j = 12 ∨ j = 13 ∨ j = 14 ∨ j = 15 ∨ j = 16 ∨ j = 17 ∨ j = 18 ∨ j = 19 ∨ j = 20 ∨ j = 21 ∨ j = 22 ∨ j = 23 ∨ j = 24 ∨ j = 25 ∨ j = 26 ∨ j = 27 ∨ j = 28 ∨ j = 29 ∨ j = 30 ∨ j = 31 := by omega
theorem xl_cases41 : ∀ j, j < 41 → j = 0 ∨ j = 1 ∨ j = 2 ∨ j = 3 ∨ j = 4 ∨ j = 5 ∨ j = 6 ∨ j = 7 ∨ j = 8 ∨ j = 9 ∨ j = 10 ∨ j = 11 ∨ j = 12 ∨ j = 13 ∨ j = 14 ∨ j = 15 ∨ j = 16 ∨ j = 17 ∨ j = 18 ∨ j = 19 ∨ j = 20 ∨ j = 21 ∨ j = 22 ∨ j = 23 ∨ j = 24 ∨ j = 25 ∨ j = 26 ∨ j = 27 ∨ j = 28 ∨ j = 29 ∨ j = 30 ∨ j = 31 ∨ j = 32 ∨ j = 33 ∨ j = 34 ∨ j = 35 ∨ j = 36 ∨ j = 37 ∨ j = 38 ∨ j = 39 ∨ j = 40 := by omega
theorem xl_cases42 : ∀ j, j < 42 → j = 0 ∨ j = 1 ∨ j = 2 ∨ j = 3 ∨ j = 4 ∨ j = 5 ∨ j = 6 ∨ j = 7 ∨ j = 8 ∨ j = 9 ∨ j = 10 ∨ j = 11 ∨ j = 12 ∨ j = 13 ∨ j = 14 ∨ j = 15 ∨ j = 16 ∨ j = 17 ∨ j = 18 ∨ j = 19 ∨ j = 20 ∨ j = 21 ∨ j = 22 ∨ j = 23 ∨ j = 24 ∨ j = 25 ∨ j = 26 ∨ j = 27 ∨ j = 28 ∨ j = 29 ∨ j = 30 ∨ j = 31 ∨ j = 32 ∨ j = 33 ∨ j = 34 ∨ j = 35 ∨ j = 36 ∨ j = 37 ∨ j = 38 ∨ j = 39 ∨ j = 40 ∨ j = 41 := by omega
theorem xl_cases43 : ∀ j, j < 43 → j = 0 ∨ j = 1 ∨ j = 2 ∨ j = 3 ∨ j = 4 ∨ j = 5 ∨ j = 6 ∨ j = 7 ∨ j = 8 ∨ j = 9 ∨ j = 10 ∨ j = 11 ∨ j = 12 ∨ j = 13 ∨ j = 14 ∨ j = 15 ∨ j = 16 ∨ j = 17 ∨ j = 18 ∨ j = 19 ∨ j = 20 ∨ j = 21 ∨ j = 22 ∨ j = 23 ∨ j = 24 ∨ j = 25 ∨ j = 26 ∨ j = 27 ∨ j = 28 ∨ j = 29 ∨ j = 30 ∨ j = 31 ∨ j = 32 ∨ j = 33 ∨ j = 34 ∨ j = 35 ∨ j = 36 ∨ j = 37 ∨ j = 38 ∨ j = 39 ∨ j = 40 ∨ j = 41 ∨ j = 42 := by omega
set_option maxRecDepth 20000 in
theorem xk_e (K : cw_K) (q : Nat) : ∀ j, j < 41 → cw_e (ck_w (kset K 41 q)) j = cw_e (cp_w K) j := fun j hj => by
  rcases xl_cases41 j hj with rfl | rfl | rfl | rfl | rfl | rfl | rfl | rfl | rfl | rfl | rfl | rfl | rfl | rfl | rfl | rfl | rfl | rfl | rfl | rfl | rfl | rfl | rfl | rfl | rfl | rfl | rfl | rfl | rfl | rfl | rfl | rfl | rfl | rfl | rfl | rfl | rfl | rfl | rfl | rfl | rfl
  · rfl
  · rfl
  · rfl
  · rfl
  · rfl
  · rfl
  · rfl
  · rfl
  · rfl
  · rfl
  · rfl
  · rfl
  · rfl
  · rfl
  · rfl
  · rfl
  · rfl
  · rfl
  · rfl
  · rfl
  · rfl
  · rfl
  · rfl
  · rfl
  · rfl
  · rfl
  · rfl
  · rfl
  · rfl
  · rfl
  · rfl
  · rfl
  · rfl
  · exact funext fun f => congrArg (fun g : Nat → Option Nat => (.inl (K.2.2.1 3, 6, .inr (.inr (.inr (.inr g)))) : va_E)) (xr_fn K 41 q (by decide))
  · rfl
  · rfl
  · rfl
  · rfl
  · rfl
  · rfl
  · rfl
set_option maxRecDepth 20000 in
theorem xa_e (K : cw_K) (q : Nat) : ∀ j, j < 41 → cw_e (ca_w (kset K 41 q)) j = cw_e (cp_w K) j := fun j hj => by
  rcases xl_cases41 j hj with rfl | rfl | rfl | rfl | rfl | rfl | rfl | rfl | rfl | rfl | rfl | rfl | rfl | rfl | rfl | rfl | rfl | rfl | rfl | rfl | rfl | rfl | rfl | rfl | rfl | rfl | rfl | rfl | rfl | rfl | rfl | rfl | rfl | rfl | rfl | rfl | rfl | rfl | rfl | rfl | rfl
  · rfl
  · rfl
  · rfl
  · rfl
  · rfl
  · rfl
  · rfl
  · rfl
  · rfl
  · rfl
  · rfl
  · rfl
  · rfl
  · rfl
  · rfl
  · rfl
  · rfl
  · rfl
  · rfl
  · rfl
  · rfl
  · rfl
  · rfl
  · rfl
  · rfl
  · rfl
  · rfl
  · rfl
  · rfl
  · rfl
  · rfl
  · rfl
  · rfl
  · exact funext fun f => congrArg (fun g : Nat → Option Nat => (.inl (K.2.2.1 3, 6, .inr (.inr (.inr (.inr g)))) : va_E)) (xr_fn K 41 q (by decide))
  · rfl
  · rfl
  · rfl
  · rfl
  · rfl
  · rfl
  · rfl
set_option maxRecDepth 20000 in
theorem xb_e (K : cw_K) (q : Nat) : ∀ j, j < 42 → cw_e (cb_w (kset K 42 q)) j = cw_e (ca_w K) j := fun j hj => by
  rcases xl_cases42 j hj with rfl | rfl | rfl | rfl | rfl | rfl | rfl | rfl | rfl | rfl | rfl | rfl | rfl | rfl | rfl | rfl | rfl | rfl | rfl | rfl | rfl | rfl | rfl | rfl | rfl | rfl | rfl | rfl | rfl | rfl | rfl | rfl | rfl | rfl | rfl | rfl | rfl | rfl | rfl | rfl | rfl | rfl
  · rfl
  · rfl
  · rfl
  · rfl
  · rfl
  · rfl
  · rfl
  · rfl
  · rfl
  · rfl
  · rfl
  · rfl
  · rfl
  · rfl
  · rfl
  · rfl
  · rfl
  · rfl
  · rfl
  · rfl
  · rfl
  · rfl
  · rfl
  · rfl
  · rfl
  · rfl
  · rfl
  · rfl
  · rfl
  · rfl
  · rfl
  · rfl
  · rfl
  · exact funext fun f => congrArg (fun g : Nat → Option Nat => (.inl (K.2.2.1 3, 6, .inr (.inr (.inr (.inr g)))) : va_E)) (xr_fn K 42 q (by decide))
  · rfl
  · rfl
  · rfl
  · rfl
  · rfl
  · rfl
  · rfl
  · rfl
set_option maxRecDepth 20000 in
theorem xd_e (K : cw_K) (q : Nat) : ∀ j, j < 43 → cw_e (cd_w (kset K 43 q)) j = cw_e (cb_w K) j := fun j hj => by
  rcases xl_cases43 j hj with rfl | rfl | rfl | rfl | rfl | rfl | rfl | rfl | rfl | rfl | rfl | rfl | rfl | rfl | rfl | rfl | rfl | rfl | rfl | rfl | rfl | rfl | rfl | rfl | rfl | rfl | rfl | rfl | rfl | rfl | rfl | rfl | rfl | rfl | rfl | rfl | rfl | rfl | rfl | rfl | rfl | rfl | rfl
  · rfl
  · rfl
  · rfl
  · rfl
  · rfl
  · rfl
  · rfl
  · rfl
  · rfl
  · rfl
  · rfl
  · rfl
  · rfl
  · rfl
  · rfl
  · rfl
  · rfl
  · rfl
  · rfl
  · rfl
  · rfl
  · rfl
  · rfl
  · rfl
  · rfl
  · rfl
  · rfl
  · rfl
  · rfl
  · rfl
  · rfl
  · rfl
  · rfl
  · exact funext fun f => congrArg (fun g : Nat → Option Nat => (.inl (K.2.2.1 3, 6, .inr (.inr (.inr (.inr g)))) : va_E)) (xr_fn K 43 q (by decide))
  · rfl
  · rfl
  · rfl
  · rfl
  · rfl
  · rfl
  · rfl
  · rfl
  · rfl
theorem xk_ext (K : cw_K) (q : Nat) : cw_ext (cp_w K) (ck_w (kset K 41 q)) q (fun f => .inl (K.2.2.1 1, 6, .inl f)) := ⟨rfl, rfl, rfl, rfl, fun j hj => (if_neg (show ¬ j = 41 from Nat.ne_of_lt hj) : (if j = 41 then q else K.2.2.2.1 j) = K.2.2.2.1 j), xk_e K q, (if_pos rfl : (if 41 = 41 then q else K.2.2.2.1 41) = q), rfl, rfl⟩
theorem xa_ext (K : cw_K) (q : Nat) : cw_ext (cp_w K) (ca_w (kset K 41 q)) q (fun f => .inl (K.2.2.1 0, 6, .inl f)) := ⟨rfl, rfl, rfl, rfl, fun j hj => (if_neg (show ¬ j = 41 from Nat.ne_of_lt hj) : (if j = 41 then q else K.2.2.2.1 j) = K.2.2.2.1 j), xa_e K q, (if_pos rfl : (if 41 = 41 then q else K.2.2.2.1 41) = q), rfl, rfl⟩
theorem xb_ext (K : cw_K) (q : Nat) : cw_ext (ca_w K) (cb_w (kset K 42 q)) q (fun f => .inl (K.2.2.1 0, 6, .inl f)) := ⟨rfl, rfl, rfl, rfl, fun j hj => (if_neg (show ¬ j = 42 from Nat.ne_of_lt hj) : (if j = 42 then q else K.2.2.2.1 j) = K.2.2.2.1 j), xb_e K q, (if_pos rfl : (if 42 = 42 then q else K.2.2.2.1 42) = q), rfl, rfl⟩
theorem xd_ext (K : cw_K) (q : Nat) : cw_ext (cb_w K) (cd_w (kset K 43 q)) q (fun f => .inl (K.2.2.1 0, 24, .inl f)) := ⟨rfl, rfl, rfl, rfl, fun j hj => (if_neg (show ¬ j = 43 from Nat.ne_of_lt hj) : (if j = 43 then q else K.2.2.2.1 j) = K.2.2.2.1 j), xd_e K q, (if_pos rfl : (if 43 = 43 then q else K.2.2.2.1 43) = q), rfl, rfl⟩
theorem xP_lt {K : cw_K} {i : Int32} (h : vp_in i 6) : 34 + i.toNatClampNeg < cw_n (cp_w K) := by
  have h1 : i.toNatClampNeg < 6 := Nat.not_le.mp fun q => h (Or.inr q)
  show 34 + i.toNatClampNeg < 41
  omega
theorem xP_row {K : cw_K} {i : Int32} {f : Nat → Int32} (h : vp_in i 6) : cw_e (cp_w K) (34 + i.toNatClampNeg) f = .inl (K.2.2.1 0, 24, .inl f) := by
  have h1 : i.toNatClampNeg < 6 := Nat.not_le.mp fun q => h (Or.inr q)
  generalize i.toNatClampNeg = j at h1 ⊢
  rcases (by omega : j = 0 ∨ j = 1 ∨ j = 2 ∨ j = 3 ∨ j = 4 ∨ j = 5) with rfl | rfl | rfl | rfl | rfl | rfl <;> rfl
theorem xk_lt {K : cw_K} {i : Int32} (h : vp_in i 6) : 34 + i.toNatClampNeg < cw_n (ck_w K) := by
  have h1 : i.toNatClampNeg < 6 := Nat.not_le.mp fun q => h (Or.inr q)
  show 34 + i.toNatClampNeg < 42
  omega
theorem xk_row {K : cw_K} {i : Int32} {f : Nat → Int32} (h : vp_in i 6) : cw_e (ck_w K) (34 + i.toNatClampNeg) f = .inl (K.2.2.1 0, 24, .inl f) := by
  have h1 : i.toNatClampNeg < 6 := Nat.not_le.mp fun q => h (Or.inr q)
  generalize i.toNatClampNeg = j at h1 ⊢
  rcases (by omega : j = 0 ∨ j = 1 ∨ j = 2 ∨ j = 3 ∨ j = 4 ∨ j = 5) with rfl | rfl | rfl | rfl | rfl | rfl <;> rfl
theorem xa_lt {K : cw_K} {i : Int32} (h : vp_in i 6) : 34 + i.toNatClampNeg < cw_n (ca_w K) := by
  have h1 : i.toNatClampNeg < 6 := Nat.not_le.mp fun q => h (Or.inr q)
  show 34 + i.toNatClampNeg < 42
  omega
theorem xa_row {K : cw_K} {i : Int32} {f : Nat → Int32} (h : vp_in i 6) : cw_e (ca_w K) (34 + i.toNatClampNeg) f = .inl (K.2.2.1 0, 24, .inl f) := by
  have h1 : i.toNatClampNeg < 6 := Nat.not_le.mp fun q => h (Or.inr q)
  generalize i.toNatClampNeg = j at h1 ⊢
  rcases (by omega : j = 0 ∨ j = 1 ∨ j = 2 ∨ j = 3 ∨ j = 4 ∨ j = 5) with rfl | rfl | rfl | rfl | rfl | rfl <;> rfl
theorem xb_lt {K : cw_K} {i : Int32} (h : vp_in i 6) : 34 + i.toNatClampNeg < cw_n (cb_w K) := by
  have h1 : i.toNatClampNeg < 6 := Nat.not_le.mp fun q => h (Or.inr q)
  show 34 + i.toNatClampNeg < 43
  omega
theorem xb_row {K : cw_K} {i : Int32} {f : Nat → Int32} (h : vp_in i 6) : cw_e (cb_w K) (34 + i.toNatClampNeg) f = .inl (K.2.2.1 0, 24, .inl f) := by
  have h1 : i.toNatClampNeg < 6 := Nat.not_le.mp fun q => h (Or.inr q)
  generalize i.toNatClampNeg = j at h1 ⊢
  rcases (by omega : j = 0 ∨ j = 1 ∨ j = 2 ∨ j = 3 ∨ j = 4 ∨ j = 5) with rfl | rfl | rfl | rfl | rfl | rfl <;> rfl
theorem xd_lt {K : cw_K} {i : Int32} (h : vp_in i 6) : 34 + i.toNatClampNeg < cw_n (cd_w K) := by
  have h1 : i.toNatClampNeg < 6 := Nat.not_le.mp fun q => h (Or.inr q)
  show 34 + i.toNatClampNeg < 44
  omega
theorem xd_row {K : cw_K} {i : Int32} {f : Nat → Int32} (h : vp_in i 6) : cw_e (cd_w K) (34 + i.toNatClampNeg) f = .inl (K.2.2.1 0, 24, .inl f) := by
  have h1 : i.toNatClampNeg < 6 := Nat.not_le.mp fun q => h (Or.inr q)
  generalize i.toNatClampNeg = j at h1 ⊢
  rcases (by omega : j = 0 ∨ j = 1 ∨ j = 2 ∨ j = 3 ∨ j = 4 ∨ j = 5) with rfl | rfl | rfl | rfl | rfl | rfl <;> rfl
theorem cc_le_cp (K : cw_K) : cw_le (cc_w K) (cp_w K) := ⟨rfl, rfl, rfl, by show 32 ≤ 41; omega, fun _ _ => rfl, fun j hj => by
  rcases xl_cases32 j hj with rfl | rfl | rfl | rfl | rfl | rfl | rfl | rfl | rfl | rfl | rfl | rfl | rfl | rfl | rfl | rfl | rfl | rfl | rfl | rfl | rfl | rfl | rfl | rfl | rfl | rfl | rfl | rfl | rfl | rfl | rfl | rfl
  · rfl
  · rfl
  · rfl
  · rfl
  · rfl
  · rfl
  · rfl
  · rfl
  · rfl
  · rfl
  · rfl
  · rfl
  · rfl
  · rfl
  · rfl
  · rfl
  · rfl
  · rfl
  · rfl
  · rfl
  · rfl
  · rfl
  · rfl
  · rfl
  · rfl
  · rfl
  · rfl
  · rfl
  · rfl
  · rfl
  · rfl
  · rfl
, fun _ _ _ h => h⟩
theorem cp_le_ck (K : cw_K) : cw_le (cp_w K) (ck_w K) := ⟨rfl, rfl, rfl, by show 41 ≤ 42; omega, fun _ _ => rfl, fun j hj => by
  rcases xl_cases41 j hj with rfl | rfl | rfl | rfl | rfl | rfl | rfl | rfl | rfl | rfl | rfl | rfl | rfl | rfl | rfl | rfl | rfl | rfl | rfl | rfl | rfl | rfl | rfl | rfl | rfl | rfl | rfl | rfl | rfl | rfl | rfl | rfl | rfl | rfl | rfl | rfl | rfl | rfl | rfl | rfl | rfl
  · rfl
  · rfl
  · rfl
  · rfl
  · rfl
  · rfl
  · rfl
  · rfl
  · rfl
  · rfl
  · rfl
  · rfl
  · rfl
  · rfl
  · rfl
  · rfl
  · rfl
  · rfl
  · rfl
  · rfl
  · rfl
  · rfl
  · rfl
  · rfl
  · rfl
  · rfl
  · rfl
  · rfl
  · rfl
  · rfl
  · rfl
  · rfl
  · rfl
  · rfl
  · rfl
  · rfl
  · rfl
  · rfl
  · rfl
  · rfl
  · rfl
, fun _ _ _ h => h⟩
theorem cp_le_ca (K : cw_K) : cw_le (cp_w K) (ca_w K) := ⟨rfl, rfl, rfl, by show 41 ≤ 42; omega, fun _ _ => rfl, fun j hj => by
  rcases xl_cases41 j hj with rfl | rfl | rfl | rfl | rfl | rfl | rfl | rfl | rfl | rfl | rfl | rfl | rfl | rfl | rfl | rfl | rfl | rfl | rfl | rfl | rfl | rfl | rfl | rfl | rfl | rfl | rfl | rfl | rfl | rfl | rfl | rfl | rfl | rfl | rfl | rfl | rfl | rfl | rfl | rfl | rfl
  · rfl
  · rfl
  · rfl
  · rfl
  · rfl
  · rfl
  · rfl
  · rfl
  · rfl
  · rfl
  · rfl
  · rfl
  · rfl
  · rfl
  · rfl
  · rfl
  · rfl
  · rfl
  · rfl
  · rfl
  · rfl
  · rfl
  · rfl
  · rfl
  · rfl
  · rfl
  · rfl
  · rfl
  · rfl
  · rfl
  · rfl
  · rfl
  · rfl
  · rfl
  · rfl
  · rfl
  · rfl
  · rfl
  · rfl
  · rfl
  · rfl
, fun _ _ _ h => h⟩
theorem ca_le_cb (K : cw_K) : cw_le (ca_w K) (cb_w K) := ⟨rfl, rfl, rfl, by show 42 ≤ 43; omega, fun _ _ => rfl, fun j hj => by
  rcases xl_cases42 j hj with rfl | rfl | rfl | rfl | rfl | rfl | rfl | rfl | rfl | rfl | rfl | rfl | rfl | rfl | rfl | rfl | rfl | rfl | rfl | rfl | rfl | rfl | rfl | rfl | rfl | rfl | rfl | rfl | rfl | rfl | rfl | rfl | rfl | rfl | rfl | rfl | rfl | rfl | rfl | rfl | rfl | rfl
  · rfl
  · rfl
  · rfl
  · rfl
  · rfl
  · rfl
  · rfl
  · rfl
  · rfl
  · rfl
  · rfl
  · rfl
  · rfl
  · rfl
  · rfl
  · rfl
  · rfl
  · rfl
  · rfl
  · rfl
  · rfl
  · rfl
  · rfl
  · rfl
  · rfl
  · rfl
  · rfl
  · rfl
  · rfl
  · rfl
  · rfl
  · rfl
  · rfl
  · rfl
  · rfl
  · rfl
  · rfl
  · rfl
  · rfl
  · rfl
  · rfl
  · rfl
, fun _ _ _ h => h⟩
theorem cb_le_cd (K : cw_K) : cw_le (cb_w K) (cd_w K) := ⟨rfl, rfl, rfl, by show 43 ≤ 44; omega, fun _ _ => rfl, fun j hj => by
  rcases xl_cases43 j hj with rfl | rfl | rfl | rfl | rfl | rfl | rfl | rfl | rfl | rfl | rfl | rfl | rfl | rfl | rfl | rfl | rfl | rfl | rfl | rfl | rfl | rfl | rfl | rfl | rfl | rfl | rfl | rfl | rfl | rfl | rfl | rfl | rfl | rfl | rfl | rfl | rfl | rfl | rfl | rfl | rfl | rfl | rfl
  · rfl
  · rfl
  · rfl
  · rfl
  · rfl
  · rfl
  · rfl
  · rfl
  · rfl
  · rfl
  · rfl
  · rfl
  · rfl
  · rfl
  · rfl
  · rfl
  · rfl
  · rfl
  · rfl
  · rfl
  · rfl
  · rfl
  · rfl
  · rfl
  · rfl
  · rfl
  · rfl
  · rfl
  · rfl
  · rfl
  · rfl
  · rfl
  · rfl
  · rfl
  · rfl
  · rfl
  · rfl
  · rfl
  · rfl
  · rfl
  · rfl
  · rfl
  · rfl
, fun _ _ _ h => h⟩
theorem cp_le_cd (K : cw_K) : cw_le (cp_w K) (cd_w K) := ⟨rfl, rfl, rfl, by show 41 ≤ 44; omega, fun _ _ => rfl, fun j hj => by
  rcases xl_cases41 j hj with rfl | rfl | rfl | rfl | rfl | rfl | rfl | rfl | rfl | rfl | rfl | rfl | rfl | rfl | rfl | rfl | rfl | rfl | rfl | rfl | rfl | rfl | rfl | rfl | rfl | rfl | rfl | rfl | rfl | rfl | rfl | rfl | rfl | rfl | rfl | rfl | rfl | rfl | rfl | rfl | rfl
  · rfl
  · rfl
  · rfl
  · rfl
  · rfl
  · rfl
  · rfl
  · rfl
  · rfl
  · rfl
  · rfl
  · rfl
  · rfl
  · rfl
  · rfl
  · rfl
  · rfl
  · rfl
  · rfl
  · rfl
  · rfl
  · rfl
  · rfl
  · rfl
  · rfl
  · rfl
  · rfl
  · rfl
  · rfl
  · rfl
  · rfl
  · rfl
  · rfl
  · rfl
  · rfl
  · rfl
  · rfl
  · rfl
  · rfl
  · rfl
  · rfl
, fun _ _ _ h => h⟩
theorem cc_le_ck (K : cw_K) : cw_le (cc_w K) (ck_w K) := ⟨rfl, rfl, rfl, by show 32 ≤ 42; omega, fun _ _ => rfl, fun j hj => by
  rcases xl_cases32 j hj with rfl | rfl | rfl | rfl | rfl | rfl | rfl | rfl | rfl | rfl | rfl | rfl | rfl | rfl | rfl | rfl | rfl | rfl | rfl | rfl | rfl | rfl | rfl | rfl | rfl | rfl | rfl | rfl | rfl | rfl | rfl | rfl
  · rfl
  · rfl
  · rfl
  · rfl
  · rfl
  · rfl
  · rfl
  · rfl
  · rfl
  · rfl
  · rfl
  · rfl
  · rfl
  · rfl
  · rfl
  · rfl
  · rfl
  · rfl
  · rfl
  · rfl
  · rfl
  · rfl
  · rfl
  · rfl
  · rfl
  · rfl
  · rfl
  · rfl
  · rfl
  · rfl
  · rfl
  · rfl
, fun _ _ _ h => h⟩
theorem cc_le_ca (K : cw_K) : cw_le (cc_w K) (ca_w K) := ⟨rfl, rfl, rfl, by show 32 ≤ 42; omega, fun _ _ => rfl, fun j hj => by
  rcases xl_cases32 j hj with rfl | rfl | rfl | rfl | rfl | rfl | rfl | rfl | rfl | rfl | rfl | rfl | rfl | rfl | rfl | rfl | rfl | rfl | rfl | rfl | rfl | rfl | rfl | rfl | rfl | rfl | rfl | rfl | rfl | rfl | rfl | rfl
  · rfl
  · rfl
  · rfl
  · rfl
  · rfl
  · rfl
  · rfl
  · rfl
  · rfl
  · rfl
  · rfl
  · rfl
  · rfl
  · rfl
  · rfl
  · rfl
  · rfl
  · rfl
  · rfl
  · rfl
  · rfl
  · rfl
  · rfl
  · rfl
  · rfl
  · rfl
  · rfl
  · rfl
  · rfl
  · rfl
  · rfl
  · rfl
, fun _ _ _ h => h⟩
theorem cc_le_cb (K : cw_K) : cw_le (cc_w K) (cb_w K) := ⟨rfl, rfl, rfl, by show 32 ≤ 43; omega, fun _ _ => rfl, fun j hj => by
  rcases xl_cases32 j hj with rfl | rfl | rfl | rfl | rfl | rfl | rfl | rfl | rfl | rfl | rfl | rfl | rfl | rfl | rfl | rfl | rfl | rfl | rfl | rfl | rfl | rfl | rfl | rfl | rfl | rfl | rfl | rfl | rfl | rfl | rfl | rfl
  · rfl
  · rfl
  · rfl
  · rfl
  · rfl
  · rfl
  · rfl
  · rfl
  · rfl
  · rfl
  · rfl
  · rfl
  · rfl
  · rfl
  · rfl
  · rfl
  · rfl
  · rfl
  · rfl
  · rfl
  · rfl
  · rfl
  · rfl
  · rfl
  · rfl
  · rfl
  · rfl
  · rfl
  · rfl
  · rfl
  · rfl
  · rfl
, fun _ _ _ h => h⟩
theorem cc_le_cd (K : cw_K) : cw_le (cc_w K) (cd_w K) := ⟨rfl, rfl, rfl, by show 32 ≤ 44; omega, fun _ _ => rfl, fun j hj => by
  rcases xl_cases32 j hj with rfl | rfl | rfl | rfl | rfl | rfl | rfl | rfl | rfl | rfl | rfl | rfl | rfl | rfl | rfl | rfl | rfl | rfl | rfl | rfl | rfl | rfl | rfl | rfl | rfl | rfl | rfl | rfl | rfl | rfl | rfl | rfl
  · rfl
  · rfl
  · rfl
  · rfl
  · rfl
  · rfl
  · rfl
  · rfl
  · rfl
  · rfl
  · rfl
  · rfl
  · rfl
  · rfl
  · rfl
  · rfl
  · rfl
  · rfl
  · rfl
  · rfl
  · rfl
  · rfl
  · rfl
  · rfl
  · rfl
  · rfl
  · rfl
  · rfl
  · rfl
  · rfl
  · rfl
  · rfl
, fun _ _ _ h => h⟩
theorem cp_le_cb (K : cw_K) : cw_le (cp_w K) (cb_w K) := ⟨rfl, rfl, rfl, by show 41 ≤ 43; omega, fun _ _ => rfl, fun j hj => by
  rcases xl_cases41 j hj with rfl | rfl | rfl | rfl | rfl | rfl | rfl | rfl | rfl | rfl | rfl | rfl | rfl | rfl | rfl | rfl | rfl | rfl | rfl | rfl | rfl | rfl | rfl | rfl | rfl | rfl | rfl | rfl | rfl | rfl | rfl | rfl | rfl | rfl | rfl | rfl | rfl | rfl | rfl | rfl | rfl
  · rfl
  · rfl
  · rfl
  · rfl
  · rfl
  · rfl
  · rfl
  · rfl
  · rfl
  · rfl
  · rfl
  · rfl
  · rfl
  · rfl
  · rfl
  · rfl
  · rfl
  · rfl
  · rfl
  · rfl
  · rfl
  · rfl
  · rfl
  · rfl
  · rfl
  · rfl
  · rfl
  · rfl
  · rfl
  · rfl
  · rfl
  · rfl
  · rfl
  · rfl
  · rfl
  · rfl
  · rfl
  · rfl
  · rfl
  · rfl
  · rfl
, fun _ _ _ h => h⟩
