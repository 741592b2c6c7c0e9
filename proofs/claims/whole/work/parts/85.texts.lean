/-! ## what the start holds: the texts -/
set_option maxRecDepth 200000
def nr_c (k : Nat) : List Cond := match k with
  | 0 => flatC narrow_1_1
  | 1 => flatC narrow_1_2
  | _ => flatC narrow_1_3
theorem nr_of {args : Array Value} {s : State} (h : (Jvm.Cond.and given_1 narrow_1).before args s = true) : ∀ k, ∀ w ∈ nr_c k, w.before args s = true := by
  rw [Cond.before_and, Bool.and_eq_true] at h
  have h := h.2
  have h : (Jvm.Cond.and narrow_1_1 (Jvm.Cond.and narrow_1_2 narrow_1_3)).before args s = true := h
  rw [Cond.before_and, Bool.and_eq_true, Cond.before_and, Bool.and_eq_true] at h
  intro k
  rcases k with _ | _ | k
  · exact flat_of_before _ h.1
  · exact flat_of_before _ h.2.1
  · exact flat_of_before _ h.2.2
theorem nr_at {c i : Nat} {w : Cond} (h : (nr_c c)[i]? = some w) : w ∈ nr_c c := List.mem_of_getElem? h
/-- the words of a text: its object, its coder, its bytes -/
def zs_w (tm : Term) (byt : List Int32) : List Cond := .exactly tm "java/lang/String" :: .eq (.field tm "java/lang/String" "coder" "B") (.int 0) :: .arrayOf (.field tm "java/lang/String" "value" "[B") .byte :: .eq (.length (.field tm "java/lang/String" "value" "[B")) (.int (Int32.ofNat byt.length)) :: (List.range byt.length).map (fun j => .eq (.elem (.field tm "java/lang/String" "value" "[B") (.int (Int32.ofNat j))) (.int (byt.getD j 0)))
theorem zs_of {args : Array Value} {s : State} {A : Nat → Prop} {tm : Term} {byt : List Int32} (hw : ∀ w ∈ zs_w tm byt, w.before args s = true) (hN : byt.length < 2 ^ 31) (hA : ∀ a : Nat, a < s.heap.size → ¬ A a) : ∃ x : Nat × Nat, tm.eval args s none [] s = some (.ref x.1) ∧ va_O "java/lang/String" x.1 A s s.heap ∧ va_OF "java/lang/String" "coder" "B" (.int 0) x.1 A s s.heap ∧ va_OF "java/lang/String" "value" "[B" (.ref x.2) x.1 A s s.heap ∧ va_T .byte x.2 byt.length (fun j => .int (byt.getD j 0)) A s s.heap := by
  have hex : (Cond.exactly tm "java/lang/String").before args s = true := hw _ (by simp [zs_w])
  have hco : (Cond.eq (.field tm "java/lang/String" "coder" "B") (.int 0)).before args s = true := hw _ (by simp [zs_w])
  have har : (Cond.arrayOf (.field tm "java/lang/String" "value" "[B") .byte).before args s = true := hw _ (by simp [zs_w])
  have hle : (Cond.eq (.length (.field tm "java/lang/String" "value" "[B")) (.int (Int32.ofNat byt.length))).before args s = true := hw _ (by simp [zs_w])
  have hel : ∀ j : Nat, j < byt.length → (Cond.eq (.elem (.field tm "java/lang/String" "value" "[B") (.int (Int32.ofNat j))) (.int (byt.getD j 0))).before args s = true := fun j hj => hw _ (List.mem_cons_of_mem _ (List.mem_cons_of_mem _ (List.mem_cons_of_mem _ (List.mem_cons_of_mem _ (List.mem_map.mpr ⟨j, List.mem_range.mpr hj, rfl⟩)))))
  obtain ⟨a, c, cA, kA, q1, q2, q3, q4, q5, q6, -⟩ := Cond.exactly_spec (args := args) (first := s) (o := none) (s := s) (idx := []) (t := tm) (cls := "java/lang/String") hex
  obtain ⟨t, ht, hT⟩ := va_Tof (f := fun j => .int (byt.getD j 0)) (A := A) hN har (va_eqt hle) (fun j hj => va_eqt (hel j hj)) hA
  exact ⟨(a, t), q1, ⟨cA, q3, q5, by rw [q6]; exact q2, hA a (Array.getElem?_eq_some_iff.mp q3).1⟩, vk_OFof q1 (va_eqt hco) hA, vk_OFof q1 ht hA, hT⟩
theorem zs_in {args : Array Value} {s : State} (hn : ∀ k, ∀ w ∈ nr_c k, w.before args s = true) {tm : Term} {byt : List Int32} {c i n : Nat} (h : zs_w tm byt = ((nr_c c).drop i).take n) : ∀ w ∈ zs_w tm byt, w.before args s = true := fun w hw => hn c w (List.mem_of_mem_drop (List.mem_of_mem_take (by rw [← h]; exact hw)))
theorem zs_eq {args : Array Value} {s : State} {t u : Term} {a : Nat} (h : (Cond.eq t u).before args s = true) (ht : t.eval args s none [] s = some (.ref a)) : u.eval args s none [] s = some (.ref a) := by
  cases hv : u.eval args s none [] s with
  | none => simp [Cond.before, Cond.holds, Cond.value, ht, hv] at h
  | some w =>
    simp only [Cond.before, Cond.holds, Cond.value, ht, hv] at h
    cases w <;> simp_all
theorem zs_eq' {args : Array Value} {s : State} {t u : Term} {a : Nat} (h : (Cond.eq t u).before args s = true) (hu : u.eval args s none [] s = some (.ref a)) : t.eval args s none [] s = some (.ref a) := by
  cases hv : t.eval args s none [] s with
  | none => simp [Cond.before, Cond.holds, Cond.value, hu, hv] at h
  | some w =>
    simp only [Cond.before, Cond.holds, Cond.value, hu, hv] at h
    cases w <;> simp_all
/-- where the text k stands -/
def zs_tm (k : Nat) : Term := match k with
  | 0 => .string RX5 18
  | 1 => .string RX5 51
  | 2 => .string RX11 213
  | 3 => .string RX11 215
  | 4 => .string RX11 217
  | 5 => .string RX11 219
  | 6 => .string RX11 220
  | 7 => .string RX11 222
  | 8 => .string RX11 224
  | 9 => .string RX11 226
  | 10 => .string RX9 57
  | 11 => .string RX9 65
  | 12 => .string RX9 70
  | 13 => .string RX9 81
  | 14 => .string RX9 86
  | _ => .string RX10 77
theorem zs_0 : zs_w (zs_tm 0) (cw_tx 0) = ((nr_c 0).drop 244).take 8 := by decide +kernel
theorem zs_1 : zs_w (zs_tm 1) (cw_tx 1) = ((nr_c 0).drop 252).take 11 := by decide +kernel
theorem zs_2 : zs_w (zs_tm 2) (cw_tx 2) = ((nr_c 2).drop 215).take 8 := by decide +kernel
theorem zs_3 : zs_w (zs_tm 3) (cw_tx 3) = ((nr_c 2).drop 223).take 8 := by decide +kernel
theorem zs_4 : zs_w (zs_tm 4) (cw_tx 4) = ((nr_c 2).drop 231).take 8 := by decide +kernel
theorem zs_5 : zs_w (zs_tm 5) (cw_tx 5) = ((nr_c 2).drop 239).take 9 := by decide +kernel
theorem zs_6 : zs_w (zs_tm 6) (cw_tx 6) = ((nr_c 2).drop 248).take 10 := by decide +kernel
theorem zs_7 : zs_w (zs_tm 7) (cw_tx 7) = ((nr_c 2).drop 258).take 9 := by decide +kernel
theorem zs_8 : zs_w (zs_tm 8) (cw_tx 8) = ((nr_c 2).drop 267).take 9 := by decide +kernel
theorem zs_9 : zs_w (zs_tm 9) (cw_tx 9) = ((nr_c 2).drop 276).take 10 := by decide +kernel
theorem zs_10 : zs_w (zs_tm 10) (cw_tx 10) = ((nr_c 2).drop 295).take 7 := by decide +kernel
theorem zs_11 : zs_w (zs_tm 11) (cw_tx 11) = ((nr_c 2).drop 311).take 6 := by decide +kernel
theorem zs_12 : zs_w (zs_tm 12) (cw_tx 12) = ((nr_c 2).drop 326).take 6 := by decide +kernel
theorem zs_13 : zs_w (zs_tm 13) (cw_tx 13) = ((nr_c 2).drop 363).take 4 := by decide +kernel
theorem zs_14 : zs_w (zs_tm 14) (cw_tx 14) = ((nr_c 2).drop 377).take 5 := by decide +kernel
theorem zs_15 : zs_w (zs_tm 15) (cw_tx 15) = ((nr_c 0).drop 149).take 95 := by decide +kernel
theorem zs_all {args : Array Value} {s : State} {A : Nat → Prop} (hn : ∀ k, ∀ w ∈ nr_c k, w.before args s = true) (hA : ∀ a : Nat, a < s.heap.size → ¬ A a) : ∃ sd sv : Nat → Nat, ∀ k, k < 16 → (zs_tm k).eval args s none [] s = some (.ref (sd k)) ∧ va_O "java/lang/String" (sd k) A s s.heap ∧ va_OF "java/lang/String" "coder" "B" (.int 0) (sd k) A s s.heap ∧ va_OF "java/lang/String" "value" "[B" (.ref (sv k)) (sd k) A s s.heap ∧ va_T .byte (sv k) (cw_tx k).length (fun j => .int ((cw_tx k).getD j 0)) A s s.heap := by
  have h : ∀ k : Nat, ∃ x : Nat × Nat, k < 16 → (zs_tm k).eval args s none [] s = some (.ref x.1) ∧ va_O "java/lang/String" x.1 A s s.heap ∧ va_OF "java/lang/String" "coder" "B" (.int 0) x.1 A s s.heap ∧ va_OF "java/lang/String" "value" "[B" (.ref x.2) x.1 A s s.heap ∧ va_T .byte x.2 (cw_tx k).length (fun j => .int ((cw_tx k).getD j 0)) A s s.heap := by
    intro k
    by_cases hk : k < 16
    · have hl : (cw_tx k).length < 2 ^ 31 := Nat.lt_of_le_of_lt (cw_tx_le k hk) (by decide)
      have hw : ∀ w ∈ zs_w (zs_tm k) (cw_tx k), w.before args s = true := by
        rcases k with _ | _ | _ | _ | _ | _ | _ | _ | _ | _ | _ | _ | _ | _ | _ | _ | k
        · exact zs_in hn zs_0
        · exact zs_in hn zs_1
        · exact zs_in hn zs_2
        · exact zs_in hn zs_3
        · exact zs_in hn zs_4
        · exact zs_in hn zs_5
        · exact zs_in hn zs_6
        · exact zs_in hn zs_7
        · exact zs_in hn zs_8
        · exact zs_in hn zs_9
        · exact zs_in hn zs_10
        · exact zs_in hn zs_11
        · exact zs_in hn zs_12
        · exact zs_in hn zs_13
        · exact zs_in hn zs_14
        · exact zs_in hn zs_15
        · exact absurd hk (by omega)
      obtain ⟨x, hx⟩ := zs_of (A := A) hw hl hA
      exact ⟨x, fun _ => hx⟩
    · exact ⟨(0, 0), fun h => absurd h hk⟩
  obtain ⟨f, hf⟩ := Classical.axiomOfChoice h
  exact ⟨fun k => (f k).1, fun k => (f k).2, fun k hk => hf k hk⟩
