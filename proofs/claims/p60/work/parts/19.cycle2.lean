/-! ## envy cycles: the class, the distances and the cycle -/
section CYD
variable {K : cw_K} {I : cw_M} {n k : Nat} {v : Nat → Nat → Nat} {ow : Nat → Int32}
/-- a row with numbers in its first m places -/
def sp_row (D : Nat → Nat) (m : Nat) (f : Nat → Int32) : Nat → Int32 := fun j => if j < m then nI (D j) else f j
theorem sp_row_upd (D : Nat → Nat) (m : Nat) (f : Nat → Int32) : upd (sp_row D m f) m (nI (D m)) = sp_row D (m + 1) f := by
  funext j
  unfold upd sp_row
  by_cases hj : j = m
  · subst hj; rw [if_pos rfl, if_pos (by omega)]
  · rw [if_neg hj]
    by_cases h2 : j < m
    · rw [if_pos h2, if_pos (by omega)]
    · rw [if_neg h2, if_neg (by omega)]
theorem sp_row_0 (D : Nat → Nat) (f : Nat → Int32) : sp_row D 0 f = f := by
  funext j
  unfold sp_row
  rw [if_neg (by omega)]
theorem sp_row_set (D E : Nat → Nat) {m i : Nat} (hi : i < m) (f : Nat → Int32) (h : ∀ j, j < m → j ≠ i → E j = D j) : upd (sp_row D m f) i (nI (E i)) = sp_row E m f := by
  funext j
  unfold upd sp_row
  by_cases hj : j = i
  · subst hj; rw [if_pos rfl, if_pos hi]
  · rw [if_neg hj]
    by_cases h2 : j < m
    · rw [if_pos h2, if_pos h2, h j h2 hj]
    · rw [if_neg h2, if_neg h2]
theorem sp_row_congr {D E : Nat → Nat} {m : Nat} (f : Nat → Int32) (h : ∀ j, j < m → D j = E j) : sp_row D m f = sp_row E m f := by
  funext j
  unfold sp_row
  by_cases h2 : j < m
  · rw [if_pos h2, if_pos h2, h j h2]
  · rw [if_neg h2, if_neg h2]
/-- in the layer d + 1, the siblings below i are done -/
def sp_mx (w : Nat → Nat → Nat) (k st d i : Nat) : Nat → Nat := fun a => if a < i then sp_D w k st (d + 1) a else sp_D w k st d a
theorem sp_mx_at {w : Nat → Nat → Nat} {k st d i s : Nat} (hd : d < 6) : sp_at w k (sp_mx w k st d i) d s = sp_at w k (sp_D w k st d) d s := by
  refine sp_f1_congr fun j hj => ?_
  have e : (decide (sp_mx w k st d i j = d)) = decide (sp_D w k st d j = d) := by
    unfold sp_mx
    by_cases h1 : j < i
    · rw [if_pos h1]
      show decide ((if sp_D w k st d j = 6 ∧ (sp_at w k (sp_D w k st d) d j).isSome = true then d + 1 else sp_D w k st d j) = d) = _
      by_cases h2 : sp_D w k st d j = 6 ∧ (sp_at w k (sp_D w k st d) d j).isSome = true
      · rw [if_pos h2, decide_eq_false (by omega), decide_eq_false (by omega)]
      · rw [if_neg h2]
    · rw [if_neg h1]
  rw [e]
theorem sp_D_lt {w : Nat → Nat → Nat} {k st d a : Nat} (hd : d ≤ 6) : sp_D w k st d a ≤ 6 := by
  rcases sp_D_le (w := w) (k := k) (st := st) (d := d) (a := a) with h | h <;> omega
theorem sl_measureDistances3 (h : sp_cv n k v I) {w : Nat → Nat → Nat} (hw : ∀ s o, s < k → o < k → I 19 (s * 6 + o) = nI (w s o)) (hw2 : ∀ s o, s < k → o < k → w s o < 2 ^ 31) {st d : Nat} (hd : d + 1 < k) (f : Nat → Int32) {r : Option Value} {J9 : cw_M} (hout : bX3_measureDistances_16_36 K r J9 (nI (d + 1 + 1)) (cw_up I 18 (sp_row (sp_D w k st (d + 1)) k f))) : ∀ e i : Nat, i + e = k → bX3_measureDistances_16_49 K r J9 (nI (d + 1)) (nI i) (cw_up I 18 (sp_row (sp_mx w k st d i) k f)) := by
  have hk := h.2.2.2.1
  intro e
  induction e with
  | zero =>
    intro i hi
    have e0 : i = k := by omega
    rw [e0]
    have hI : sp_cv n k v (cw_up I 18 (sp_row (sp_mx w k st d k) k f)) := h.up (by decide) (by decide)
    refine tbX3_measureDistances_16_49 (br_t (by rw [hI.2.1]; exact nI_le (Nat.le_refl _) (by omega)) ?_)
    rw [nI_1, sp_row_congr f (E := sp_D w k st (d + 1)) (fun j hj => by unfold sp_mx; rw [if_pos hj])]
    exact hout
  | succ e ih =>
    intro i hi
    have hI : sp_cv n k v (cw_up I 18 (sp_row (sp_mx w k st d i) k f)) := h.up (by decide) (by decide)
    have h18 : ∀ j, j < k → (cw_up I 18 (sp_row (sp_mx w k st d i) k f)) 18 j = nI (sp_mx w k st d i j) := fun j hj => by
      show sp_row (sp_mx w k st d i) k f j = _
      unfold sp_row
      rw [if_pos hj]
    have hb : ∀ j, sp_mx w k st d i j < 2 ^ 31 := fun j => by
      unfold sp_mx
      have h1 := sp_D_lt (w := w) (k := k) (st := st) (d := d + 1) (a := j) (by omega)
      have h2 := sp_D_lt (w := w) (k := k) (st := st) (d := d) (a := j) (by omega)
      split <;> omega
    have hwd : sp_wd (cw_up I 18 (sp_row (sp_mx w k st d i) k f)) k w (sp_mx w k st d i) := ⟨hw, hw2, fun j hj => ⟨h18 j hj, hb j⟩⟩
    have hi0 : sp_mx w k st d i i = sp_D w k st d i := by unfold sp_mx; rw [if_neg (by omega)]
    have hstep : ∀ j, j ≠ i → sp_mx w k st d (i + 1) j = sp_mx w k st d i j := fun j hj => by
      unfold sp_mx
      by_cases h2 : j < i
      · rw [if_pos h2, if_pos (by omega)]
      · rw [if_neg h2, if_neg (by omega)]
    have hnew : sp_mx w k st d (i + 1) i = if sp_D w k st d i = 6 ∧ (sp_at w k (sp_D w k st d) d i).isSome = true then d + 1 else sp_D w k st d i := by
      unfold sp_mx
      rw [if_pos (by omega)]
      rfl
    have same : sp_mx w k st d (i + 1) i = sp_D w k st d i → sp_row (sp_mx w k st d i) k f = sp_row (sp_mx w k st d (i + 1)) k f := fun z => sp_row_congr f fun j hj => by
      by_cases q : j = i
      · subst q; rw [z, hi0]
      · rw [hstep j q]
    have h1 := ih (i + 1) (by omega)
    have hf := sc_firstEnviedAt (K := K) hI.2.1 hk hwd (d := d) (s := i) (by omega) (by omega)
    rw [sp_mx_at (by omega)] at hf
    refine tbX3_measureDistances_16_49 (br_f (by rw [hI.2.1]; exact nI_ge (by omega) (by omega)) ⟨vp_in_nI (by omega) (by omega), ?_⟩)
    rw [nI_clamp (by omega), h18 i (by omega), hi0, nI_1]
    have bD := sp_D_lt (w := w) (k := k) (st := st) (d := d) (a := i) (by omega)
    refine ⟨fun q => ?_, fun q => ?_⟩
    · have q2 : ¬ sp_D w k st d i = 6 := fun z => q (by rw [z]; rfl)
      rw [same (by rw [hnew, if_neg (fun z => q2 z.1)])]
      exact h1
    · have q2 : sp_D w k st d i = 6 := (nI_eq (b := 6) (by omega) (by omega)).mp q
      refine ⟨_, _, by rw [show nI (d + 1) - 1 = nI d from nI_pred d]; exact hf, ?_⟩
      cases hq : sp_at w k (sp_D w k st d) d i with
      | none =>
        refine ⟨fun _ => ?_, fun z => absurd rfl z⟩
        rw [same (by rw [hnew, hq, if_neg (fun z => by simpa using z.2)])]
        exact h1
      | some b =>
        refine ⟨fun z => absurd z (sp_nI_ne b (by have := (sp_f1_lt hq).1; omega)), fun _ => ⟨vp_in_nI (by omega) (by omega), ?_⟩⟩
        have e9 : cw_st (cw_up I 18 (sp_row (sp_mx w k st d i) k f)) 18 i (nI (d + 1)) = cw_up I 18 (sp_row (sp_mx w k st d (i + 1)) k f) := by
          show cw_up (cw_up I 18 _) 18 (upd ((cw_up I 18 (sp_row (sp_mx w k st d i) k f)) 18) i (nI (d + 1))) = _
          rw [sp_upup, show (cw_up I 18 (sp_row (sp_mx w k st d i) k f)) 18 = sp_row (sp_mx w k st d i) k f by simp [cw_up]]
          have e8 : d + 1 = sp_mx w k st d (i + 1) i := by rw [hnew, hq, if_pos ⟨q2, rfl⟩]
          rw [show nI (d + 1) = nI (sp_mx w k st d (i + 1) i) from congrArg nI e8, sp_row_set _ _ (by omega) f (fun j _ hj => hstep j hj)]
        rw [e9]
        exact h1
theorem sl_measureDistances2 (h : sp_cv n k v I) {w : Nat → Nat → Nat} (hw : ∀ s o, s < k → o < k → I 19 (s * 6 + o) = nI (w s o)) (hw2 : ∀ s o, s < k → o < k → w s o < 2 ^ 31) {st : Nat} (f : Nat → Int32) : ∀ e d : Nat, d + 1 + e = k → bX3_measureDistances_16_36 K none (cw_up I 18 (sp_row (sp_D w k st (k - 1)) k f)) (nI (d + 1)) (cw_up I 18 (sp_row (sp_D w k st d) k f)) := by
  have hk := h.2.2.2.1
  intro e
  induction e with
  | zero =>
    intro d hd
    have e0 : d = k - 1 := by omega
    rw [e0]
    have hI : sp_cv n k v (cw_up I 18 (sp_row (sp_D w k st (k - 1)) k f)) := h.up (by decide) (by decide)
    exact tbX3_measureDistances_16_36 (br_t (by rw [hI.2.1]; exact nI_le (by omega) (by omega)) ⟨rfl, rfl⟩)
  | succ e ih =>
    intro d hd
    have hI : sp_cv n k v (cw_up I 18 (sp_row (sp_D w k st d) k f)) := h.up (by decide) (by decide)
    refine tbX3_measureDistances_16_36 (br_f (by rw [hI.2.1]; exact nI_ge (by omega) (by omega)) ?_)
    have h1 := sl_measureDistances3 (K := K) h hw hw2 (d := d) (by omega) f (ih (d + 1) (by omega)) k 0 (by omega)
    have e0 : sp_row (sp_mx w k st d 0) k f = sp_row (sp_D w k st d) k f := sp_row_congr f fun j _ => by unfold sp_mx; rw [if_neg (by omega)]
    rw [e0] at h1
    exact h1
theorem sl_measureDistances1 (h : sp_cv n k v I) {w : Nat → Nat → Nat} {st : Nat} (hst : st < k) (f : Nat → Int32) {r : Option Value} {J9 : cw_M} (hout : bX3_measureDistances_16_36 K r J9 1 (cw_up I 18 (sp_row (sp_D w k st 0) k f))) : ∀ e i : Nat, i + e = k → bX3_measureDistances_16_2 K r J9 (nI st) (nI i) (cw_up I 18 (sp_row (fun _ => 6) i f)) := by
  have hk := h.2.2.2.1
  intro e
  induction e with
  | zero =>
    intro i hi
    have e0 : i = k := by omega
    rw [e0]
    have hI : sp_cv n k v (cw_up I 18 (sp_row (fun _ => 6) k f)) := h.up (by decide) (by decide)
    refine tbX3_measureDistances_16_2 (br_t (by rw [hI.2.1]; exact nI_le (Nat.le_refl _) (by omega)) ⟨vp_in_nI (by omega) (by omega), ?_⟩)
    have e9 : cw_st (cw_up I 18 (sp_row (fun _ => 6) k f)) 18 st 0 = cw_up I 18 (sp_row (sp_D w k st 0) k f) := by
      show cw_up (cw_up I 18 _) 18 (upd ((cw_up I 18 (sp_row (fun _ => 6) k f)) 18) st 0) = _
      rw [sp_upup, show (cw_up I 18 (sp_row (fun _ => 6) k f)) 18 = sp_row (fun _ => 6) k f by simp [cw_up]]
      have e8 : (0 : Int32) = nI (sp_D w k st 0 st) := by
        show (0 : Int32) = nI (if st = st then 0 else 6)
        rw [if_pos rfl]; rfl
      rw [e8, sp_row_set _ _ hst f (fun j _ hj => by show (if j = st then 0 else 6) = 6; rw [if_neg hj])]
    rw [nI_clamp (by omega), e9]
    exact hout
  | succ e ih =>
    intro i hi
    have hI : sp_cv n k v (cw_up I 18 (sp_row (fun _ => 6) i f)) := h.up (by decide) (by decide)
    refine tbX3_measureDistances_16_2 (br_f (by rw [hI.2.1]; exact nI_ge (by omega) (by omega)) ⟨vp_in_nI (by omega) (by omega), ?_⟩)
    have e9 : cw_st (cw_up I 18 (sp_row (fun _ => 6) i f)) 18 i 6 = cw_up I 18 (sp_row (fun _ => 6) (i + 1) f) := by
      show cw_up (cw_up I 18 _) 18 (upd ((cw_up I 18 (sp_row (fun _ => 6) i f)) 18) i (nI 6)) = _
      rw [sp_upup, show (cw_up I 18 (sp_row (fun _ => 6) i f)) 18 = sp_row (fun _ => 6) i f by simp [cw_up], sp_row_upd (fun _ => 6) i f]
    rw [nI_1, nI_clamp (by omega), e9]
    exact ih (i + 1) (by omega)
theorem sc_measureDistances (h : sp_cv n k v I) {w : Nat → Nat → Nat} (hw : ∀ s o, s < k → o < k → I 19 (s * 6 + o) = nI (w s o)) (hw2 : ∀ s o, s < k → o < k → w s o < 2 ^ 31) {st : Nat} (hst : st < k) : cw_C (cc_w K) mX3_measureDistances [.ref (cw_a (cc_w K) 16), .int (nI st)] I none (cw_up I 18 (sp_row (sp_D w k st (k - 1)) k (I 18))) := by
  refine eX3_measureDistances_16 ?_
  have h1 := sl_measureDistances1 (K := K) h hst (I 18) (sl_measureDistances2 (K := K) h hw hw2 (st := st) (I 18) (k - 1) 0 (by omega)) k 0 (by omega)
  rw [sp_row_0, sp_upself] at h1
  exact h1
theorem sl_shortestWayRound (h : sp_cv n k v I) {w : Nat → Nat → Nat} {D : Nat → Nat} (hd : sp_wd I k w D) {st : Nat} (hst : st < k) : ∀ e i : Nat, i + e = k → 1 ≤ i → sp_f1 (fun d => decide (1 ≤ d) && (sp_at w k D d st).isSome) i = none → bX3_shortestWayRound_16_2 K (some (.int (sp_oi ((sp_f1 (fun d => decide (1 ≤ d) && (sp_at w k D d st).isSome) k).map (fun d => d + 1))))) I (nI st) (nI i) I := by
  have hk := h.2.2.2.1
  intro e
  induction e with
  | zero =>
    intro i hi h1 hq
    have : i = k := by omega
    subst this
    rw [hq]
    exact tbX3_shortestWayRound_16_2 (br_t (by rw [h.2.1]; exact nI_le (Nat.le_refl _) (by omega)) ⟨rfl, rfl⟩)
  | succ e ih =>
    intro i hi h1 hq
    have hsucc := sp_f1_succ (fun d => decide (1 ≤ d) && (sp_at w k D d st).isSome) i
    rw [hq] at hsucc
    have hsucc2 : sp_f1 (fun d => decide (1 ≤ d) && (sp_at w k D d st).isSome) (i + 1) = if (decide (1 ≤ i) && (sp_at w k D i st).isSome) = true then some i else none := hsucc
    rw [decide_eq_true h1, Bool.true_and] at hsucc2
    refine tbX3_shortestWayRound_16_2 (br_f (by rw [h.2.1]; exact nI_ge (by omega) (by omega)) ⟨_, _, sc_firstEnviedAt h.2.1 hk hd (by omega) hst, ?_⟩)
    rw [nI_1]
    cases hc : sp_at w k D i st with
    | none =>
      refine ⟨fun _ => ?_, fun z => absurd rfl z⟩
      refine ih (i + 1) (by omega) (by omega) ?_
      rw [hsucc2, hc, if_neg (by decide)]
    | some b =>
      refine ⟨fun z => absurd z (sp_nI_ne b (by have := (sp_f1_lt hc).1; omega)), fun _ => ?_⟩
      have e1 : sp_f1 (fun d => decide (1 ≤ d) && (sp_at w k D d st).isSome) k = some i := sp_f1_keep (show i + 1 ≤ k by omega) (by rw [hsucc2, hc]; rfl)
      rw [e1]
      exact ⟨rfl, rfl⟩
end CYD
