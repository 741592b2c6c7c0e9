/-! ## envy cycles: the class -/
/-- the first of the first i with P -/
def sp_f1 (P : Nat → Bool) : Nat → Option Nat
  | 0 => none
  | i + 1 => match sp_f1 P i with
    | some b => some b
    | none => if P i then some i else none
theorem sp_f1_succ (P : Nat → Bool) (i : Nat) : sp_f1 P (i + 1) = match sp_f1 P i with | some b => some b | none => if P i then some i else none := rfl
theorem sp_f1_lt {P : Nat → Bool} : ∀ {i b : Nat}, sp_f1 P i = some b → b < i ∧ P b = true
  | 0, b, h => by cases h
  | i + 1, b, h => by
    rw [sp_f1_succ] at h
    cases q : sp_f1 P i with
    | some c =>
      rw [q] at h
      have e : c = b := Option.some.inj h
      subst e
      have h1 := sp_f1_lt q
      exact ⟨by omega, h1.2⟩
    | none =>
      rw [q] at h
      by_cases z : P i = true
      · have e : i = b := Option.some.inj (by rw [← h]; exact (if_pos z).symm)
        subst e
        exact ⟨by omega, z⟩
      · have e : (if P i then some i else none) = (none : Option Nat) := if_neg z
        rw [show (match (none : Option Nat) with | some b => some b | none => if P i then some i else none) = (if P i then some i else none) from rfl, e] at h
        cases h
theorem sp_f1_keep {P : Nat → Bool} {b : Nat} : ∀ {i j : Nat}, i ≤ j → sp_f1 P i = some b → sp_f1 P j = some b
  | i, 0, h, q => by rw [Nat.le_zero.mp h] at q; exact q
  | i, j + 1, h, q => by
    by_cases z : i = j + 1
    · rw [← z]; exact q
    · rw [sp_f1_succ, sp_f1_keep (show i ≤ j by omega) q]
theorem sp_f1_congr {P Q : Nat → Bool} : ∀ {i : Nat}, (∀ j, j < i → P j = Q j) → sp_f1 P i = sp_f1 Q i
  | 0, _ => rfl
  | i + 1, h => by rw [sp_f1_succ, sp_f1_succ, sp_f1_congr (fun j hj => h j (by omega)), h i (by omega)]
/-- a envies b, of the worths w -/
abbrev sp_E (w : Nat → Nat → Nat) (a b : Nat) : Bool := decide (w a a < w a b)
/-- whom s envies first at the distance d -/
abbrev sp_at (w : Nat → Nat → Nat) (k : Nat) (D : Nat → Nat) (d s : Nat) : Option Nat := sp_f1 (fun j => decide (D j = d) && sp_E w s j) k
/-- the distances to st, those up to d; 6: none -/
def sp_D (w : Nat → Nat → Nat) (k st : Nat) : Nat → Nat → Nat
  | 0 => fun a => if a = st then 0 else 6
  | d + 1 => fun a => if sp_D w k st d a = 6 ∧ (sp_at w k (sp_D w k st d) d a).isSome = true then d + 1 else sp_D w k st d a
theorem sp_D_le {w : Nat → Nat → Nat} {k st : Nat} : ∀ {d a : Nat}, sp_D w k st d a = 6 ∨ sp_D w k st d a ≤ d
  | 0, a => by
    show (if a = st then 0 else 6) = 6 ∨ (if a = st then 0 else 6) ≤ 0
    split
    · exact Or.inr (Nat.le_refl _)
    · exact Or.inl rfl
  | d + 1, a => by
    have h := sp_D_le (w := w) (k := k) (st := st) (d := d) (a := a)
    show (if _ then d + 1 else sp_D w k st d a) = 6 ∨ (if _ then d + 1 else sp_D w k st d a) ≤ d + 1
    split
    · exact Or.inr (Nat.le_refl _)
    · omega
/-- the length of the shortest cycle -/
def sp_len (w : Nat → Nat → Nat) (k st : Nat) : Option Nat := (sp_f1 (fun d => decide (1 ≤ d) && (sp_at w k (sp_D w k st (k - 1)) d st).isSome) k).map (fun d => d + 1)
/-- its members -/
def sp_cy (w : Nat → Nat → Nat) (k st len : Nat) : Nat → Nat
  | 0 => st
  | p + 1 => (sp_at w k (sp_D w k st (k - 1)) (len - (p + 1)) (sp_cy w k st len p)).getD 0
section CYC
variable {K : cw_K} {I : cw_M} {n k : Nat} {v : Nat → Nat → Nat} {ow : Nat → Int32}
/-- the worths' row: rows below s, and of row s the first i -/
def sp_wm (w : Nat → Nat → Nat) (k : Nat) (f0 : Nat → Int32) (s i : Nat) : Nat → Int32 := fun j => if j % 6 < k ∧ (j / 6 < s ∨ (j / 6 = s ∧ j % 6 < i)) then nI (w (j / 6) (j % 6)) else f0 j
theorem sp_wm_upd (w : Nat → Nat → Nat) {k : Nat} (f0 : Nat → Int32) {s i : Nat} (hi : i < k) (hk : k ≤ 6) : upd (sp_wm w k f0 s i) (s * 6 + i) (nI (w s i)) = sp_wm w k f0 s (i + 1) := by
  funext j
  unfold upd sp_wm
  by_cases hj : j = s * 6 + i
  · have h1 : j / 6 = s := by omega
    have h2 : j % 6 = i := by omega
    rw [if_pos hj, h1, h2, if_pos ⟨hi, Or.inr ⟨rfl, by omega⟩⟩]
  · rw [if_neg hj]
    by_cases h1 : j % 6 < k ∧ (j / 6 < s ∨ (j / 6 = s ∧ j % 6 < i))
    · rw [if_pos h1, if_pos (by omega)]
    · rw [if_neg h1, if_neg (by omega)]
theorem sp_wm_row (w : Nat → Nat → Nat) (k : Nat) (f0 : Nat → Int32) (s : Nat) : sp_wm w k f0 s k = sp_wm w k f0 (s + 1) 0 := by
  funext j
  unfold sp_wm
  by_cases h1 : j % 6 < k ∧ (j / 6 < s ∨ (j / 6 = s ∧ j % 6 < k))
  · rw [if_pos h1, if_pos (by omega)]
  · rw [if_neg h1, if_neg (by omega)]
theorem sp_wm_0 (w : Nat → Nat → Nat) (k : Nat) (f0 : Nat → Int32) : sp_wm w k f0 0 0 = f0 := by
  funext j
  unfold sp_wm
  rw [if_neg (by omega)]
theorem sp_wm_at (w : Nat → Nat → Nat) {k : Nat} (hk : k ≤ 6) (f0 : Nat → Int32) {s o : Nat} (hs : s < k) (ho : o < k) : sp_wm w k f0 k 0 (s * 6 + o) = nI (w s o) := by
  unfold sp_wm
  have h1 : (s * 6 + o) / 6 = s := by omega
  have h2 : (s * 6 + o) % 6 = o := by omega
  rw [h1, h2, if_pos ⟨ho, Or.inl hs⟩]
theorem sl_measureWorths2 (h : sp_cv n k v I) (ho : ∀ c, c < n → I 9 c = ow c) {r : Option Value} {J9 : cw_M} (f0 : Nat → Int32) {s : Nat} (hs : s < k) (hout : bX3_measureWorths_16_2 K r J9 (nI (s + 1)) (cw_up I 19 (sp_wm (sp_w v ow n) k f0 (s + 1) 0))) : ∀ d i : Nat, i + d = k → bX3_measureWorths_16_15 K r J9 (nI s) (nI i) (cw_up I 19 (sp_wm (sp_w v ow n) k f0 s i)) := by
  have hk := h.2.2.2.1
  intro d
  induction d with
  | zero =>
    intro i hi
    have : i = k := by omega
    subst this
    have hI : sp_cv n i v (cw_up I 19 (sp_wm (sp_w v ow n) i f0 s i)) := h.up (by decide) (by decide)
    refine tbX3_measureWorths_16_15 (br_t (by rw [hI.2.1]; exact nI_le (Nat.le_refl _) (by omega)) ?_)
    rw [nI_1, sp_wm_row]
    exact hout
  | succ d ih =>
    intro i hi
    have hI : sp_cv n k v (cw_up I 19 (sp_wm (sp_w v ow n) k f0 s i)) := h.up (by decide) (by decide)
    have ho2 : ∀ c, c < n → (cw_up I 19 (sp_wm (sp_w v ow n) k f0 s i)) 9 c = ow c := fun c hc => ho c hc
    refine tbX3_measureWorths_16_15 (br_f (by rw [hI.2.1]; exact nI_ge (by omega) (by omega)) ⟨_, _, sc_w hI ho2 hs, ?_⟩)
    rw [show nI s * 6 + nI i = nI (s * 6 + i) from sp_ix 6 s i, nI_clamp (by omega), nI_1]
    refine ⟨vp_in_nI (by omega) (by omega), ?_⟩
    have e : cw_st (cw_up I 19 (sp_wm (sp_w v ow n) k f0 s i)) 19 (s * 6 + i) (nI (sp_w v ow n s i)) = cw_up I 19 (sp_wm (sp_w v ow n) k f0 s (i + 1)) := by
      show cw_up (cw_up I 19 _) 19 (upd ((cw_up I 19 (sp_wm (sp_w v ow n) k f0 s i)) 19) (s * 6 + i) (nI (sp_w v ow n s i))) = _
      rw [sp_upup, show (cw_up I 19 (sp_wm (sp_w v ow n) k f0 s i)) 19 = sp_wm (sp_w v ow n) k f0 s i by simp [cw_up], sp_wm_upd _ _ (by omega) hk]
    rw [e]
    exact ih (i + 1) (by omega)
theorem sl_measureWorths (h : sp_cv n k v I) (ho : ∀ c, c < n → I 9 c = ow c) (f0 : Nat → Int32) : ∀ d s : Nat, s + d = k → bX3_measureWorths_16_2 K none (cw_up I 19 (sp_wm (sp_w v ow n) k f0 k 0)) (nI s) (cw_up I 19 (sp_wm (sp_w v ow n) k f0 s 0)) := by
  have hk := h.2.2.2.1
  intro d
  induction d with
  | zero =>
    intro s hs
    have e : s = k := by omega
    rw [e]
    have hI : sp_cv n k v (cw_up I 19 (sp_wm (sp_w v ow n) k f0 k 0)) := h.up (by decide) (by decide)
    exact tbX3_measureWorths_16_2 (br_t (by rw [hI.2.1]; exact nI_le (Nat.le_refl _) (by omega)) ⟨rfl, rfl⟩)
  | succ d ih =>
    intro s hs
    have hI : sp_cv n k v (cw_up I 19 (sp_wm (sp_w v ow n) k f0 s 0)) := h.up (by decide) (by decide)
    refine tbX3_measureWorths_16_2 (br_f (by rw [hI.2.1]; exact nI_ge (by omega) (by omega)) ?_)
    exact sl_measureWorths2 h ho f0 (show s < k by omega) (ih (s + 1) (by omega)) k 0 (by omega)
theorem sc_measureWorths (h : sp_cv n k v I) (ho : ∀ c, c < n → I 9 c = ow c) : cw_C (cc_w K) mX3_measureWorths [.ref (cw_a (cc_w K) 16)] I none (cw_up I 19 (sp_wm (sp_w v ow n) k (I 19) k 0)) := by
  refine eX3_measureWorths_16 ?_
  have h1 := sl_measureWorths (K := K) h ho (I 19) k 0 (by omega)
  rw [sp_wm_0, sp_upself] at h1
  exact h1
/-- the class's ints hold the worths w and the distances D -/
def sp_wd (I : cw_M) (k : Nat) (w : Nat → Nat → Nat) (D : Nat → Nat) : Prop := (∀ s o, s < k → o < k → I 19 (s * 6 + o) = nI (w s o)) ∧ (∀ s o, s < k → o < k → w s o < 2 ^ 31) ∧ ∀ j, j < k → I 18 j = nI (D j) ∧ D j < 2 ^ 31
theorem sl_firstEnviedAt (hk1 : I 5 1 = nI k) (hk : k ≤ 6) {w : Nat → Nat → Nat} {D : Nat → Nat} (hd : sp_wd I k w D) {d s : Nat} (hd2 : d < 2 ^ 31) (hs : s < k) : ∀ e i : Nat, i + e = k → sp_f1 (fun j => decide (D j = d) && sp_E w s j) i = none → bX3_firstEnviedAt_16_8 K (some (.int (sp_oi (sp_at w k D d s)))) I (nI d) (nI s) (nI (s * 6)) (nI i) I := by
  intro e
  induction e with
  | zero =>
    intro i hi hq
    have : i = k := by omega
    subst this
    refine tbX3_firstEnviedAt_16_8 (br_t (by rw [hk1]; exact nI_le (Nat.le_refl _) (by omega)) ⟨?_, rfl⟩)
    rw [show sp_at w i D d s = none from hq]
    rfl
  | succ e ih =>
    intro i hi hq
    have hD := hd.2.2 i (by omega)
    refine tbX3_firstEnviedAt_16_8 (br_f (by rw [hk1]; exact nI_ge (by omega) (by omega)) ⟨vp_in_nI (by omega) (by omega), ?_⟩)
    rw [nI_clamp (by omega), hD.1, nI_add, nI_add, nI_1, nI_clamp (by omega), nI_clamp (by omega), hd.1 s i hs (by omega), hd.1 s s hs hs]
    have hsucc := sp_f1_succ (fun j => decide (D j = d) && sp_E w s j) i
    rw [hq] at hsucc
    have hsucc2 : sp_f1 (fun j => decide (D j = d) && sp_E w s j) (i + 1) = if (decide (D i = d) && sp_E w s i) = true then some i else none := hsucc
    refine ⟨fun q => ?_, fun q => ⟨vp_in_nI (by omega) (by omega), vp_in_nI (by omega) (by omega), fun q2 => ?_, fun q2 => ?_⟩⟩
    · have q3 : ¬ D i = d := fun z => q (by rw [z])
      refine ih (i + 1) (by omega) ?_
      rw [hsucc2, decide_eq_false q3, Bool.false_and, if_neg (by decide)]
    · have q3 := (nI_leI (hd.2.1 s i hs (by omega)) (hd.2.1 s s hs hs)).mp q2
      refine ih (i + 1) (by omega) ?_
      rw [hsucc2, show sp_E w s i = false from decide_eq_false (by omega), Bool.and_false, if_neg (by decide)]
    · have q3 := (nI_eq hD.2 hd2).mp q
      have q4 : ¬ w s i ≤ w s s := fun z => q2 (nI_le z (hd.2.1 s s hs hs))
      have e1 : sp_at w k D d s = some i := sp_f1_keep (show i + 1 ≤ k by omega) (by rw [hsucc2, decide_eq_true q3, show sp_E w s i = true from decide_eq_true (by omega), Bool.true_and, if_pos rfl])
      rw [e1]
      exact ⟨rfl, rfl⟩
theorem sc_firstEnviedAt (hk1 : I 5 1 = nI k) (hk : k ≤ 6) {w : Nat → Nat → Nat} {D : Nat → Nat} (hd : sp_wd I k w D) {d s : Nat} (hd2 : d < 2 ^ 31) (hs : s < k) : cw_C (cc_w K) mX3_firstEnviedAt [.ref (cw_a (cc_w K) 16), .int (nI d), .int (nI s)] I (some (.int (sp_oi (sp_at w k D d s)))) I := by
  refine eX3_firstEnviedAt_16 ?_
  rw [show nI s * 6 = nI (s * 6) from sp_mul s 6]
  exact sl_firstEnviedAt hk1 hk hd hd2 hs k 0 (by omega) rfl
end CYC
