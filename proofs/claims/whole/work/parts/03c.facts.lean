/-! What nobody writes: the texts, the Verbs, the statics; and the rows that speak of them. -/
def cw_tx (k : Nat) : List Int32 := match k with
  | 0 => [99, 97, 107, 101]
  | 1 => [115, 105, 98, 108, 105, 110, 103]
  | 2 => [103, 105, 118, 101]
  | 3 => [102, 114, 101, 101]
  | 4 => [115, 119, 97, 112]
  | 5 => [118, 97, 108, 117, 101]
  | 6 => [100, 105, 118, 105, 100, 101]
  | 7 => [107, 110, 105, 102, 101]
  | 8 => [114, 111, 98, 105, 110]
  | 9 => [114, 111, 116, 97, 116, 101]
  | 10 => [110, 35, 35]
  | 11 => [35, 35]
  | 12 => [110, 110]
  | 13 => []
  | 14 => [110]
  | _ => [99, 97, 107, 101, 32, 56, 59, 115, 105, 98, 108, 105, 110, 103, 32, 97, 110, 110, 32, 49, 32, 50, 32, 51, 32, 52, 32, 52, 32, 51, 32, 50, 32, 49, 59, 115, 105, 98, 108, 105, 110, 103, 32, 98, 111, 98, 32, 57, 32, 48, 32, 48, 32, 48, 32, 48, 32, 48, 32, 48, 32, 57, 59, 115, 105, 98, 108, 105, 110, 103, 32, 99, 105, 100, 32, 49, 32, 49, 32, 49, 32, 49, 32, 49, 32, 49, 32, 49, 32, 49, 59]
abbrev cw_ln (k : Nat) : Int32 := Int32.ofNat (cw_tx k).length
abbrev cw_ch (k : Nat) (i : Int32) : Int32 := (cw_tx k).getD i.toNatClampNeg 0
/-- the text of a Verb's pattern -/
def cw_pat (j : Nat) : Nat := match j with
  | 0 => 10
  | 1 => 11
  | 2 => 12
  | 3 => 10
  | 4 => 12
  | 5 => 13
  | _ => 14
/-- the switch map -/
def cw_sm (j : Nat) : Int32 := match j with
  | 0 => 1
  | 1 => 2
  | 2 => 3
  | 3 => 5
  | 4 => 4
  | 5 => 7
  | 6 => 8
  | _ => 6
def cw_FS (F : cw_F) (sd sv : Nat → Nat) : Prop := ∀ (A : Nat → Prop) (U : State) (H : Heap), F A U H → va_Z "java/lang/String" "COMPACT_STRINGS" "Z" (.int 1) A U H ∧ va_Zq "jdk/internal/util/Preconditions" "SIOOBE_FORMATTER" "Ljava/util/function/BiFunction;" A U H ∧ ∀ k : Nat, k < 16 → va_O "java/lang/String" (sd k) A U H ∧ va_OF "java/lang/String" "coder" "B" (.int 0) (sd k) A U H ∧ va_OF "java/lang/String" "value" "[B" (.ref (sv k)) (sd k) A U H ∧ va_T .byte (sv k) (cw_tx k).length (fun j => .int ((cw_tx k).getD j 0)) A U H
theorem cw_FS.str {F : cw_F} {sd sv : Nat → Nat} (h : cw_FS F sd sv) (A : Nat → Prop) (U : State) (H : Heap) (q : F A U H) {k : Nat} (hk : k < 16) : va_O "java/lang/String" (sd k) A U H ∧ va_OF "java/lang/String" "coder" "B" (.int 0) (sd k) A U H ∧ va_OF "java/lang/String" "value" "[B" (.ref (sv k)) (sd k) A U H ∧ va_T .byte (sv k) (cw_tx k).length (fun j => .int ((cw_tx k).getD j 0)) A U H := (h A U H q).2.2 k hk
def cw_cons : List (String × Nat × String × Nat) := [(RX5, 18, "cake", 0), (RX5, 51, "sibling", 1), (RX11, 202, "cake", 0), (RX11, 208, "sibling", 1), (RX11, 213, "give", 2), (RX11, 215, "free", 3), (RX11, 217, "swap", 4), (RX11, 219, "value", 5), (RX11, 220, "divide", 6), (RX11, 222, "knife", 7), (RX11, 224, "robin", 8), (RX11, 226, "rotate", 9)]
def cw_FC (K : cw_K) : Prop := ∀ q ∈ cw_cons, ∀ (A : Nat → Prop) (U : State) (H : Heap), cw_Fc K A U H → vk_R q.1 q.2.1 q.2.2.1 (cw_sd K q.2.2.2) U
def cw_sites : List (Nat × String × List String × Nat × String) := [(95, "java/lang/IllegalStateException", ["java/lang/RuntimeException", "java/lang/Exception"], 93, "the input buffer is full"), (95, "java/lang/IllegalStateException", ["java/lang/RuntimeException", "java/lang/Exception"], 189, "the sibling does not envy the other one"), (95, "java/lang/IllegalStateException", ["java/lang/RuntimeException", "java/lang/Exception"], 279, "no envy cycle contains the sibling"), (95, "java/lang/IllegalStateException", ["java/lang/RuntimeException", "java/lang/Exception"], 296, "there is no change to undo"), (95, "java/lang/IllegalStateException", ["java/lang/RuntimeException", "java/lang/Exception"], 312, "nothing is saved in the slot"), (95, "java/lang/IllegalStateException", ["java/lang/RuntimeException", "java/lang/Exception"], 340, "both are the same sibling"), (105, "java/lang/IllegalArgumentException", ["java/lang/RuntimeException", "java/lang/Exception"], 103, "the input buffer has no such length"), (105, "java/lang/IllegalArgumentException", ["java/lang/RuntimeException", "java/lang/Exception"], 106, "the setup text has an error"), (105, "java/lang/IllegalArgumentException", ["java/lang/RuntimeException", "java/lang/Exception"], 176, "the number of parts is out of range"), (105, "java/lang/IllegalArgumentException", ["java/lang/RuntimeException", "java/lang/Exception"], 263, "the value is out of range"), (105, "java/lang/IllegalArgumentException", ["java/lang/RuntimeException", "java/lang/Exception"], 288, "the script has an error"), (105, "java/lang/IllegalArgumentException", ["java/lang/RuntimeException", "java/lang/Exception"], 338, "these are not the ends of consecutive cells"), (131, "java/lang/IndexOutOfBoundsException", ["java/lang/RuntimeException", "java/lang/Exception"], 129, "the name has no such letter"), (131, "java/lang/IndexOutOfBoundsException", ["java/lang/RuntimeException", "java/lang/Exception"], 320, "the output text has no such byte"), (131, "java/lang/IndexOutOfBoundsException", ["java/lang/RuntimeException", "java/lang/Exception"], 328, "the sibling does not exist"), (131, "java/lang/IndexOutOfBoundsException", ["java/lang/RuntimeException", "java/lang/Exception"], 333, "the cell does not exist"), (131, "java/lang/IndexOutOfBoundsException", ["java/lang/RuntimeException", "java/lang/Exception"], 342, "the slot does not exist"), (143, "java/util/NoSuchElementException", ["java/lang/RuntimeException", "java/lang/Exception"], 141, "no sibling has this name"), (143, "java/util/NoSuchElementException", ["java/lang/RuntimeException", "java/lang/Exception"], 214, "there is no such member of an envy cycle")]
def cw_FT (F : cw_F) : Prop := ∀ q ∈ cw_sites, cw_Ft F RX10 q.1 q.2.1 q.2.2.1 q.2.2.2.1 q.2.2.2.2
def cw_FV (K : cw_K) : Prop := ∀ (A : Nat → Prop) (U : State) (H : Heap), cw_Fc K A U H → va_Z "CakeDivision$Parser" "VERBS" "[LCakeDivision$Verb;" (.ref (cw_vd K 100)) A U H ∧ va_T (.object RX9) (cw_vd K 100) 8 (fun j => .ref (cw_vd K j)) A U H ∧ va_Z "CakeDivision$1" "$SwitchMap$CakeDivision$Verb" "[I" (.ref (cw_vd K 101)) A U H ∧ va_T .int (cw_vd K 101) 8 (fun j => .int (cw_sm j)) A U H ∧ (∀ c0 : ClassId, U.vm.findClass RX9 = some c0 → U.vm.assignable c0 c0 = true) ∧ ∀ j : Nat, j < 8 → va_O RX9 (cw_vd K j) A U H ∧ va_OF RX9 "word" "Ljava/lang/String;" (.ref (cw_sd K (2 + j))) (cw_vd K j) A U H ∧ va_OF RX9 "pattern" "Ljava/lang/String;" (.ref (cw_sd K (cw_pat j))) (cw_vd K j) A U H ∧ va_OF "java/lang/Enum" "ordinal" "I" (.int (nI j)) (cw_vd K j) A U H
theorem cw_FV.vs {K : cw_K} (h : cw_FV K) (A : Nat → Prop) (U : State) (H : Heap) (q : cw_Fc K A U H) : va_Z "CakeDivision$Parser" "VERBS" "[LCakeDivision$Verb;" (.ref (cw_vd K 100)) A U H := (h A U H q).1
theorem cw_FV.va {K : cw_K} (h : cw_FV K) (A : Nat → Prop) (U : State) (H : Heap) (q : cw_Fc K A U H) : va_T (.object RX9) (cw_vd K 100) 8 (fun j => .ref (cw_vd K j)) A U H := (h A U H q).2.1
theorem cw_FV.sm {K : cw_K} (h : cw_FV K) (A : Nat → Prop) (U : State) (H : Heap) (q : cw_Fc K A U H) : va_Z "CakeDivision$1" "$SwitchMap$CakeDivision$Verb" "[I" (.ref (cw_vd K 101)) A U H := (h A U H q).2.2.1
theorem cw_FV.ma {K : cw_K} (h : cw_FV K) (A : Nat → Prop) (U : State) (H : Heap) (q : cw_Fc K A U H) : va_T .int (cw_vd K 101) 8 (fun j => .int (cw_sm j)) A U H := (h A U H q).2.2.2.1
theorem cw_FV.obj {K : cw_K} (h : cw_FV K) (A : Nat → Prop) (U : State) (H : Heap) (q : cw_Fc K A U H) (j : Nat) (hj : j < 8) : va_O RX9 (cw_vd K j) A U H := ((h A U H q).2.2.2.2.2 j hj).1
theorem cw_FV.any {K : cw_K} (h : cw_FV K) (A : Nat → Prop) (U : State) (H : Heap) (q : cw_Fc K A U H) (j : Nat) (hj : j < 8) : va_O RX9 (cw_vd K j) A U H ∧ (∀ c0 : ClassId, U.vm.findClass RX9 = some c0 → U.vm.assignable c0 c0 = true) := ⟨((h A U H q).2.2.2.2.2 j hj).1, (h A U H q).2.2.2.2.1⟩
theorem cw_FV.word {K : cw_K} (h : cw_FV K) (A : Nat → Prop) (U : State) (H : Heap) (q : cw_Fc K A U H) (j : Nat) (hj : j < 8) : va_OF RX9 "word" "Ljava/lang/String;" (.ref (cw_sd K (2 + j))) (cw_vd K j) A U H := ((h A U H q).2.2.2.2.2 j hj).2.1
theorem cw_FV.pattern {K : cw_K} (h : cw_FV K) (A : Nat → Prop) (U : State) (H : Heap) (q : cw_Fc K A U H) (j : Nat) (hj : j < 8) : va_OF RX9 "pattern" "Ljava/lang/String;" (.ref (cw_sd K (cw_pat j))) (cw_vd K j) A U H := ((h A U H q).2.2.2.2.2 j hj).2.2.1
theorem cw_FV.ord {K : cw_K} (h : cw_FV K) (A : Nat → Prop) (U : State) (H : Heap) (q : cw_Fc K A U H) (j : Nat) (hj : j < 8) : va_OF "java/lang/Enum" "ordinal" "I" (.int (nI j)) (cw_vd K j) A U H := ((h A U H q).2.2.2.2.2 j hj).2.2.2
theorem cw_vo_null {vd : Nat → Nat} {x : Int32} (h : x = 0) : va_rf (cw_vo vd x) = .null := by simp [cw_vo, h, va_rf]
theorem cw_vo_ref {vd : Nat → Nat} {x : Int32} (h : ¬ x = 0) : va_rf (cw_vo vd x) = .ref (vd (x.toNatClampNeg - 1)) := by simp [cw_vo, h, va_rf]
theorem cw_vo_upd {vd : Nat → Nat} {f : Nat → Int32} {i j : Nat} (hj : j < 8) : (fun k => cw_vo vd (upd f i (nI (j + 1)) k)) = va_up (fun k => cw_vo vd (f k)) i (some (vd j)) := by
  funext k
  by_cases hk : k = i
  · have h0 : ¬ nI (j + 1) = 0 := fun e => by
      have h1 := congrArg Int32.toInt e
      rw [nI_toInt (by omega)] at h1
      simp at h1
      omega
    simp [upd, va_up, hk, cw_vo, h0, nI_clamp (show j + 1 < 2 ^ 31 by omega)]
  · simp [upd, va_up, hk]
section CWV
variable {K : cw_K} {w : cw_G} {M : cw_Me} {Z : cw_Zt} {mc ms : Nat} {I : cw_M} {pc : Nat} {L L' : List (Nat × Value)} {st stk : List Value}
theorem cw_tq {t N : Nat} {C : String} {f : Nat → Value} {i : Int32} {v : Value} (hF : ∀ (A : Nat → Prop) (U : State) (H : Heap), cw_f w A U H → va_T (.object C) t N f A U H) (hin : vp_in i N) (hv : f i.toNatClampNeg = v) (hd : decode (cw_c M) pc = .ok (.aaload, 1)) (kk : cw_B w M Z mc ms I (pc + 1) L (v :: st)) : cw_B w M Z mc ms I pc L (.int i :: .ref t :: st) :=
  fun p e s m args below meth c H locs ls X hP hS h => vb_tq X.1.1 X.1.2.1 (hF _ _ _ X.2.2.2.2.2.1) hS hin hv hd (kk p e s m args below meth c H locs ls X hP hS h)
theorem cw_aldq {i : Int32} {cA : ClassId} {C : String} {n : Nat} {vd : Nat → Nat} (o : Nat) (ho : o < cw_n w) (he : cw_e w o (I o) = .inl (cA, n, .inr (.inr (.inr (.inr (fun k => cw_vo vd (I o k))))))) (t0 : Nat) (ht : (cw_t w)[t0]? = some (cA, .object C)) (hd : decode (cw_c M) pc = .ok (.aaload, 1)) (hin : vp_in i n) (k0 : I o i.toNatClampNeg = 0 → cw_B w M Z mc ms I (pc + 1) L (.null :: st)) (k1 : ¬ I o i.toNatClampNeg = 0 → cw_B w M Z mc ms I (pc + 1) L (.ref (vd ((I o i.toNatClampNeg).toNatClampNeg - 1)) :: st)) : cw_B w M Z mc ms I pc L (.int i :: .ref (cw_a w o) :: st) := by
  intro p e s m args below meth c H locs ls X hP hS h
  refine va_aldq X.1.1 X.1.2.1 X.2.2.2.1 hP o t0 (by rw [cw_wd_get ho, he]) ht hin hd ?_
  by_cases q : I o i.toNatClampNeg = 0
  · rw [cw_vo_null q]
    exact k0 q p e s m args below meth c H locs ls X hP hS h
  · rw [cw_vo_ref q]
    exact k1 q p e s m args below meth c H locs ls X hP hS h
theorem cw_astv {i : Int32} {cA : ClassId} {C : String} {n j : Nat} {vd : Nat → Nat} (o : Nat) (ho : o < cw_n w) (he : ∀ f : Nat → Int32, cw_e w o f = .inl (cA, n, .inr (.inr (.inr (.inr (fun k => cw_vo vd (f k))))))) (t0 : Nat) (ht : (cw_t w)[t0]? = some (cA, .object C)) (hF : ∀ (A : Nat → Prop) (U : State) (H : Heap), cw_f w A U H → va_O C (vd j) A U H ∧ (∀ c0 : ClassId, U.vm.findClass C = some c0 → U.vm.assignable c0 c0 = true)) (hd : decode (cw_c M) pc = .ok (.aastore, 1)) (hj : j < 8) (hin : vp_in i n) (kk : cw_B w M Z mc ms (cw_st I o i.toNatClampNeg (nI (j + 1))) (pc + 1) L st) : cw_B w M Z mc ms I pc L (.ref (vd j) :: .int i :: .ref (cw_a w o) :: st) := by
  intro p e s m args below meth c H locs ls X hP hS h
  obtain ⟨⟨cell, a1, a2, a3, a4⟩, has⟩ := hF _ _ _ X.2.2.2.2.2.1
  refine vb_astq (E := C) (C := C) X.1.1 X.1.2.1 X.2.2.2.1 hP (cw_D X.2.2.2.2.1) hS o t0 (by rw [cw_wd_get ho, he]) ht ⟨cell, by rw [hS.2.1 _ (Array.getElem?_eq_some_iff.mp a1).1 a4]; exact a1, a2, a3⟩ (fun c1 c0 e1 e0 => by rw [e1] at e0; cases e0; exact has _ e1) hin hd (fun H1 locs1 hP1 hD1 hS1 => ?_)
  rw [← cw_vo_upd hj, ← he, cw_wd_set ho] at hP1
  exact kk p e s m args below meth c H1 locs1 ls X hP1 hS1 h
theorem cw_fconst0 (hd : decode (cw_c M) pc = .ok (.fconst 0, 1)) (kk : cw_B w M Z mc ms I (pc + 1) L (.float FP.fconst0 :: st)) : cw_B w M Z mc ms I pc L st :=
  fun p e s m args below meth c H locs ls X hP hS h => lv_fconst0 X.1.1 X.1.2.1 hd (kk p e s m args below meth c H locs ls X hP hS h)
theorem cw_i2f {x : Int32} (hd : decode (cw_c M) pc = .ok (.i2f, 1)) (kk : cw_B w M Z mc ms I (pc + 1) L (.float (FP.i2f x) :: st)) : cw_B w M Z mc ms I pc L (.int x :: st) :=
  fun p e s m args below meth c H locs ls X hP hS h => lv_i2f X.1.1 X.1.2.1 hd (kk p e s m args below meth c H locs ls X hP hS h)
theorem cw_i2d {x : Int32} (hd : decode (cw_c M) pc = .ok (.i2d, 1)) (kk : cw_B w M Z mc ms I (pc + 1) L (.double (FP.i2d x) :: st)) : cw_B w M Z mc ms I pc L (.int x :: st) :=
  fun p e s m args below meth c H locs ls X hP hS h => lv_i2d X.1.1 X.1.2.1 hd (kk p e s m args below meth c H locs ls X hP hS h)
theorem cw_fdiv {x y : UInt32} (hd : decode (cw_c M) pc = .ok (.fdiv, 1)) (hn : vf_n32 (FP.fdiv x y)) (kk : cw_B w M Z mc ms I (pc + 1) L (.float (FP.fdiv x y) :: st)) : cw_B w M Z mc ms I pc L (.float y :: .float x :: st) :=
  fun p e s m args below meth c H locs ls X hP hS h => lv_fdiv X.1.1 X.1.2.1 hd hn (kk p e s m args below meth c H locs ls X hP hS h)
theorem cw_ddiv {x y : UInt64} (hd : decode (cw_c M) pc = .ok (.ddiv, 1)) (hn : vf_n64 (FP.ddiv x y)) (kk : cw_B w M Z mc ms I (pc + 1) L (.double (FP.ddiv x y) :: st)) : cw_B w M Z mc ms I pc L (.double y :: .double x :: st) :=
  fun p e s m args below meth c H locs ls X hP hS h => lv_ddiv X.1.1 X.1.2.1 hd hn (kk p e s m args below meth c H locs ls X hP hS h)
theorem cw_fret {v : UInt32} {r : Option Value} {I2 : cw_M} (hr : cw_r M = some .float) (hd : decode (cw_c M) pc = .ok (.freturn, 1)) (h : r = some (.float v) ∧ I2 = I) : cw_B w M (cw_Z w r I2) 0 0 I pc L [.float v] := by
  obtain ⟨rfl, rfl⟩ := h
  intro p e s m args below meth c H locs ls X hP hS hl
  exact W.fret X.1.1 X.1.2.1 (X.2.1.trans hr) (fun t ht hW => ⟨rfl, by rw [ht]; exact hP, hS.F ht⟩) hS.2.2 hd X.2.2.1
theorem cw_dret {v : UInt64} {r : Option Value} {I2 : cw_M} (hr : cw_r M = some .double) (hd : decode (cw_c M) pc = .ok (.dreturn, 1)) (h : r = some (.double v) ∧ I2 = I) : cw_B w M (cw_Z w r I2) 0 0 I pc L [.double v] := by
  obtain ⟨rfl, rfl⟩ := h
  intro p e s m args below meth c H locs ls X hP hS hl
  exact W.dret X.1.1 X.1.2.1 (X.2.1.trans hr) (fun t ht hW => ⟨rfl, by rw [ht]; exact hP, hS.F ht⟩) hS.2.2 hd X.2.2.1
theorem cw_astoreN_n {k : Fin 4} {i : Nat} (hd : decode (cw_c M) pc = .ok (.astore_n k, 1)) (hi : (k : Nat) = i) (hn : i < cw_k M) (hl : (i, Value.null) :: L.filter (fun q => !(q.1 == i) && !(q.1 + 1 == i && q.2.category == 2)) = L') (kk : cw_B w M Z mc ms I (pc + 1) L' st) : cw_B w M Z mc ms I pc L (.null :: st) :=
  fun p e s m args below meth c H locs ls X hP hS h => lv_astore_nN X.1.1 X.1.2.1 hd hi h hn hl (fun ls' h' => kk p e s m args below meth c H locs ls' X hP hS h')
theorem cw_astore {i x : Nat} (hd : decode (cw_c M) pc = .ok (.astore i, 2)) (hn : i < cw_k M) (hl : (i, Value.ref x) :: L.filter (fun q => !(q.1 == i) && !(q.1 + 1 == i && q.2.category == 2)) = L') (kk : cw_B w M Z mc ms I (pc + 2) L' st) : cw_B w M Z mc ms I pc L (.ref x :: st) :=
  fun p e s m args below meth c H locs ls X hP hS h => lv_astore X.1.1 X.1.2.1 hd h hn hl (fun ls' h' => kk p e s m args below meth c H locs ls' X hP hS h')
end CWV

