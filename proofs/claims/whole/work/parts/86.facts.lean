/-! ## what nobody writes: the facts, their truth at the start -/
set_option maxRecDepth 200000
def zf_S (sd sv : Nat → Nat) (A : Nat → Prop) (U : State) (H : Heap) : Prop := va_Z "java/lang/String" "COMPACT_STRINGS" "Z" (.int 1) A U H ∧ va_Zq "jdk/internal/util/Preconditions" "SIOOBE_FORMATTER" "Ljava/util/function/BiFunction;" A U H ∧ ∀ k : Nat, k < 16 → va_O "java/lang/String" (sd k) A U H ∧ va_OF "java/lang/String" "coder" "B" (.int 0) (sd k) A U H ∧ va_OF "java/lang/String" "value" "[B" (.ref (sv k)) (sd k) A U H ∧ va_T .byte (sv k) (cw_tx k).length (fun j => .int ((cw_tx k).getD j 0)) A U H
def zf_C (sd : Nat → Nat) (U : State) : Prop := ∀ q ∈ cw_cons, vk_R q.1 q.2.1 q.2.2.1 (sd q.2.2.2) U
def zf_w (q : Nat × String × List String × Nat × String) : List Cond := (vx_atS RX10 q.1 q.2.1 q.2.2.1).filter (fun w => !goodWord w)
def zf_T (A : Nat → Prop) (U : State) (H : Heap) : Prop := vx_Zq Bundle.tN "UNASSIGNED_STACK" Bundle.steD A U H ∧ vx_Zq Bundle.tN "SUPPRESSED_SENTINEL" Bundle.listD A U H ∧ ∀ q ∈ cw_sites, (∃ a : Nat, vk_R RX10 q.2.2.2.1 q.2.2.2.2 a U) ∧ ∀ x ∈ zf_w q, va_Nw x U
def zf_V (vd sd : Nat → Nat) (A : Nat → Prop) (U : State) (H : Heap) : Prop := va_Z "CakeDivision$Parser" "VERBS" "[LCakeDivision$Verb;" (.ref (vd 100)) A U H ∧ va_T (.object RX9) (vd 100) 8 (fun j => .ref (vd j)) A U H ∧ va_Z "CakeDivision$1" "$SwitchMap$CakeDivision$Verb" "[I" (.ref (vd 101)) A U H ∧ va_T .int (vd 101) 8 (fun j => .int (cw_sm j)) A U H ∧ (∀ c0 : ClassId, U.vm.findClass RX9 = some c0 → U.vm.assignable c0 c0 = true) ∧ ∀ j : Nat, j < 8 → va_O RX9 (vd j) A U H ∧ va_OF RX9 "word" "Ljava/lang/String;" (.ref (sd (2 + j))) (vd j) A U H ∧ va_OF RX9 "pattern" "Ljava/lang/String;" (.ref (sd (cw_pat j))) (vd j) A U H ∧ va_OF "java/lang/Enum" "ordinal" "I" (.int (nI j)) (vd j) A U H
def zf_2 (sd : Nat → Nat) (U : State) : Prop := vk_R RX10 77 kn_tx (sd 15) U ∧ vk_R RX11 72 kn_tx (sd 15) U
/-- all of it -/
def zf_F (vd sd sv : Nat → Nat) : cw_F := fun A U H => zf_S sd sv A U H ∧ zf_C sd U ∧ zf_T A U H ∧ zf_V vd sd A U H ∧ zf_2 sd U
def zk (w : Cond) : Bool := match w with
  | .declares _ => true
  | .castable _ _ => true
  | _ => false
theorem zk_warm {x : Cond} {s U : State} (h : zk x = true) (hW : s.WarmedH U.vm) (hZ : va_Nw x s) : va_Nw x U := by
  cases x <;> first | exact va_Nw.warmD hW hZ | exact va_Nw.warmC hW hZ | (simp [zk] at h)
theorem zk_on {x : Cond} (h : zk x = true) : x.onTables = true := by
  cases x <;> first | rfl | (simp [zk] at h)
theorem zf_kind : ∀ q ∈ cw_sites, ∀ x ∈ zf_w q, zk x = true := by decide +kernel
theorem zf_ok (vd sd sv : Nat → Nat) : cw_Fok (zf_F vd sd sv) := by
  refine ⟨fun A u U H hW h => ?_, fun A U H H1 h _ hq => ?_, fun A B U H h hAB => ?_⟩
  · obtain ⟨⟨s1, s2, s3⟩, hC, ⟨t1, t2, t3⟩, ⟨v1, v2, v3, v4, v5, v6⟩, r1, r2⟩ := h
    have hv := hW.alike
    exact ⟨⟨va_Z.moved hv s1, va_Zq.moved hv s2, fun k hk => ⟨va_O.moved hv (s3 k hk).1, va_OF.moved hv (s3 k hk).2.1, va_OF.moved hv (s3 k hk).2.2.1, va_T.moved hv (s3 k hk).2.2.2⟩⟩, fun q hq => vk_R.warm hW (hC q hq), ⟨vx_Zq.moved hv t1, vx_Zq.moved hv t2, fun q hq => ⟨(t3 q hq).1.elim (fun a ha => ⟨a, vk_R.warm hW ha⟩), fun x hx => zk_warm (zf_kind q hq x hx) hW ((t3 q hq).2 x hx)⟩⟩, ⟨va_Z.moved hv v1, va_T.moved hv v2, va_Z.moved hv v3, va_T.moved hv v4, fun c _ => va_asg _ _, fun j hj => ⟨va_O.moved hv (v6 j hj).1, va_OF.moved hv (v6 j hj).2.1, va_OF.moved hv (v6 j hj).2.2.1, va_OF.moved hv (v6 j hj).2.2.2⟩⟩, vk_R.warm hW r1, vk_R.warm hW r2⟩
  · obtain ⟨⟨s1, s2, s3⟩, hC, ⟨t1, t2, t3⟩, ⟨v1, v2, v3, v4, v5, v6⟩, r1, r2⟩ := h
    exact ⟨⟨va_Z.kept s1 hq, va_Zq.kept s2 hq, fun k hk => ⟨va_O.kept (s3 k hk).1 hq, va_OF.kept (s3 k hk).2.1 hq, va_OF.kept (s3 k hk).2.2.1 hq, va_T.kept (s3 k hk).2.2.2 hq⟩⟩, hC, ⟨vx_Zq.kept t1 hq, vx_Zq.kept t2 hq, t3⟩, ⟨va_Z.kept v1 hq, va_T.kept v2 hq, va_Z.kept v3 hq, va_T.kept v4 hq, v5, fun j hj => ⟨va_O.kept (v6 j hj).1 hq, va_OF.kept (v6 j hj).2.1 hq, va_OF.kept (v6 j hj).2.2.1 hq, va_OF.kept (v6 j hj).2.2.2 hq⟩⟩, r1, r2⟩
  · obtain ⟨⟨s1, s2, s3⟩, hC, ⟨t1, t2, t3⟩, ⟨v1, v2, v3, v4, v5, v6⟩, r1, r2⟩ := h
    exact ⟨⟨va_Z.narrow s1 hAB, va_Zq.narrow s2 hAB, fun k hk => ⟨va_O.narrow (s3 k hk).1 hAB, va_OF.narrow (s3 k hk).2.1 hAB, va_OF.narrow (s3 k hk).2.2.1 hAB, va_T.narrow (s3 k hk).2.2.2 hAB⟩⟩, hC, ⟨vx_Zq.narrow t1 hAB, vx_Zq.narrow t2 hAB, t3⟩, ⟨va_Z.narrow v1 hAB, va_T.narrow v2 hAB, va_Z.narrow v3 hAB, va_T.narrow v4 hAB, v5, fun j hj => ⟨va_O.narrow (v6 j hj).1 hAB, va_OF.narrow (v6 j hj).2.1 hAB, va_OF.narrow (v6 j hj).2.2.1 hAB, va_OF.narrow (v6 j hj).2.2.2 hAB⟩⟩, r1, r2⟩
/-- .. said as the rows want it -/
theorem zf_FS {vd sd sv : Nat → Nat} : cw_FS (zf_F vd sd sv) sd sv := fun _ _ _ h => h.1
theorem zf_FC {l : Launch} {D : va_G} {cy : Nat → ClassId} {S : Nat} {vd sd sv : Nat → Nat} : cw_FC (kn_K l D cy S vd sd sv (zf_F vd sd sv)) := fun q hq _ _ _ h => h.2.1 q hq
theorem zf_FT {vd sd sv : Nat → Nat} : cw_FT (zf_F vd sd sv) := fun q hq _ _ _ h => ⟨h.2.2.1.1, h.2.2.1.2.1, (h.2.2.1.2.2 q hq).1, (h.2.2.1.2.2 q hq).2⟩
theorem zf_FV {l : Launch} {D : va_G} {cy : Nat → ClassId} {S : Nat} {vd sd sv : Nat → Nat} : cw_FV (kn_K l D cy S vd sd sv (zf_F vd sd sv)) := fun _ _ _ h => h.2.2.2.1
theorem zf_F2 {l : Launch} {D : va_G} {cy : Nat → ClassId} {S : Nat} {vd sd sv : Nat → Nat} : kn_F2 (kn_K l D cy S vd sd sv (zf_F vd sd sv)) := fun _ _ _ h => h.2.2.2.2
theorem zf_la {l : Launch} {D : va_G} {cy : Nat → ClassId} {S : Nat} {vd sd sv : Nat → Nat} (hl : l.stackTraces = false) : la_F (kn_K l D cy S vd sd sv (zf_F vd sd sv)) := ⟨zf_FT, hl, zf_FS, zf_FC, zf_FV⟩
