/-! ## marks, favourites, cuts: both sides -/
theorem sp_cv.up {I : cw_M} {n k : Nat} {v : Nat → Nat → Nat} (h : sp_cv n k v I) {o : Nat} {f : Nat → Int32} (h5 : o ≠ 5) (h8 : o ≠ 8) : sp_cv n k v (cw_up I o f) := by
  have e5 : cw_up I o f 5 = I 5 := by simp only [cw_up]; rw [if_neg (Ne.symm h5)]
  have e8 : cw_up I o f 8 = I 8 := by simp only [cw_up]; rw [if_neg (Ne.symm h8)]
  unfold sp_cv
  rw [e5, e8]
  exact h
theorem sp_rv.put {J : cw_M} {n k : Nat} {v : Nat → Nat → Nat} (h : sp_rv n k v J) {x : Int32} {a e : Nat} (he : e ≤ 24) : sp_rv n k v (cw_up J 1 (sp_put (J 1) x (2 + a) (2 + e))) := by
  obtain ⟨h1, h2, h3, h4, h5, h6⟩ := h
  refine ⟨?_, ?_, h3, h4, h5, fun s c hs hc => ?_⟩
  · show (if 2 + a ≤ 0 ∧ 0 < 2 + e then x else J 1 0) = _
    rw [if_neg (by omega)]; exact h1
  · show (if 2 + a ≤ 1 ∧ 1 < 2 + e then x else J 1 1) = _
    rw [if_neg (by omega)]; exact h2
  · show (if 2 + a ≤ 33 + s * 31 + c ∧ 33 + s * 31 + c < 2 + e then x else J 1 (33 + s * 31 + c)) = _
    rw [if_neg (by omega)]; exact h6 s c hs hc
/-- the first place from a on, d further at most, with P -/
def sp_fst (P : Nat → Bool) : Nat → Nat → Nat
  | 0, a => a
  | d + 1, a => if P a then a else sp_fst P d (a + 1)
theorem sp_fst_le {P : Nat → Bool} : ∀ {d a : Nat}, a ≤ sp_fst P d a ∧ sp_fst P d a ≤ a + d
  | 0, a => ⟨Nat.le_refl _, Nat.le_refl _⟩
  | d + 1, a => by
    have e : sp_fst P (d + 1) a = if P a then a else sp_fst P d (a + 1) := rfl
    have h := sp_fst_le (P := P) (d := d) (a := a + 1)
    rw [e]
    by_cases q : P a = true
    · rw [if_pos q]; omega
    · rw [if_neg q]; omega
/-- enough for a piece: from a up to and with c, times p, against the rest from a -/
def sp_enough (v : Nat → Nat → Nat) (n s a p c : Nat) : Bool := decide (sp_run v s a (n - a) ≤ sp_run v s a (c + 1 - a) * p)
abbrev sp_mk (v : Nat → Nat → Nat) (n s a p : Nat) : Nat := sp_fst (sp_enough v n s a p) (n - 1 - a) a
theorem sp_run_succ (v : Nat → Nat → Nat) (s : Nat) {a i : Nat} (h : a ≤ i) : sp_run v s a (i + 1 - a) = sp_run v s a (i - a) + v s i := by
  have e1 : i + 1 - a = (i - a) + 1 := by omega
  rw [e1]
  show sp_run v s a (i - a) + v s (a + (i - a)) = _
  rw [show a + (i - a) = i by omega]
section MARKC
variable {K : cw_K} {I : cw_M} {n k : Nat} {v : Nat → Nat → Nat}
theorem sl_markOf (h : sp_cv n k v I) {s a p : Nat} (hs : s < k) (hp : 1 ≤ p) (hp2 : p ≤ 24) : ∀ d i : Nat, i + d + 1 = n → a ≤ i → bX6_markOf_20_24 K (some (.int (nI (sp_fst (sp_enough v n s a p) d i)))) I (nI s) (nI p) (nI (sp_run v s a (n - a))) (nI (sp_run v s a (i - a))) (nI i) I := by
  have hn := h.2.2.1
  intro d
  induction d with
  | zero =>
    intro i hi ha
    have b1 := sp_run_le h.2.2.2.2.1 hs (show a + (n - a) ≤ n by omega)
    have b2 : sp_run v s a (n - a) * p ≤ 216 * 24 := Nat.mul_le_mul (by omega) hp2
    refine tbX6_markOf_20_24 (br_f (by rw [h.1]; exact nI_ge (by omega) (by omega)) ⟨_, _, sc_valueOf h hs (show i < n by omega), ?_⟩)
    rw [nI_add, ← sp_run_succ v s ha, show i + 1 - a = n - a by omega, sp_mul]
    refine ⟨fun q => ?_, fun _ => ⟨rfl, rfl⟩⟩
    have q2 := (nI_ltI (by omega) (by omega)).mp q
    have q3 := Nat.le_mul_of_pos_right (sp_run v s a (n - a)) hp
    omega
  | succ d ih =>
    intro i hi ha
    have b1 := sp_run_le h.2.2.2.2.1 hs (show a + (n - a) ≤ n by omega)
    have b3 := sp_run_le h.2.2.2.2.1 hs (show a + (i + 1 - a) ≤ n by omega)
    have b2 : sp_run v s a (i + 1 - a) * p ≤ 216 * 24 := Nat.mul_le_mul (by omega) hp2
    refine tbX6_markOf_20_24 (br_f (by rw [h.1]; exact nI_ge (by omega) (by omega)) ⟨_, _, sc_valueOf h hs (show i < n by omega), ?_⟩)
    rw [nI_add, ← sp_run_succ v s ha, sp_mul]
    have h1 := ih (i + 1) (by omega) (by omega)
    refine ⟨fun q => ?_, fun q => ?_⟩
    · have q2 := (nI_ltI (by omega) (by omega)).mp q
      have e1 : sp_fst (sp_enough v n s a p) (d + 1) i = sp_fst (sp_enough v n s a p) d (i + 1) := by
        show (if sp_enough v n s a p i then i else _) = _
        rw [if_neg (by simp only [sp_enough, decide_eq_true_eq]; omega)]
      rw [e1, nI_1]
      exact h1
    · have q2 : ¬ _ := fun z => q (nI_lt z (by omega))
      have e1 : sp_fst (sp_enough v n s a p) (d + 1) i = i := by
        show (if sp_enough v n s a p i then i else _) = _
        rw [if_pos (by simp only [sp_enough, decide_eq_true_eq]; exact Nat.not_lt.mp q2)]
      rw [e1]
      exact ⟨rfl, rfl⟩
theorem sc_markOf (h : sp_cv n k v I) {s a p : Nat} (hs : s < k) (ha : a < n) (hp : 1 ≤ p) (hp2 : p ≤ 24) : cw_C (cc_w K) mX6_markOf [.ref (cw_a (cc_w K) 20), .int (nI s), .int (nI a), .int (nI p)] I (some (.int (nI (sp_mk v n s a p)))) I := by
  have h1 := sl_markOf (K := K) h hs hp hp2 (n - 1 - a) a (by omega) (Nat.le_refl a)
  rw [Nat.sub_self] at h1
  refine eX6_markOf_20 ⟨_, _, ?_, h1⟩
  rw [h.1]
  exact sc_worthOfRun h hs (by omega) (Nat.le_refl n)
end MARKC
section MARKR
variable {K : cw_K} {J : cw_M} {n k : Nat} {v : Nat → Nat → Nat}
end MARKR
/-! favourites -/
def sp_bt (f : Nat → Nat) (o : Option Nat) (i : Nat) : Bool := match o with
  | none => true
  | some b => decide (f b < f i)
/-- the first free cell with the greatest value, of the first i -/
def sp_fv (f : Nat → Nat) (ow : Nat → Int32) : Nat → Option Nat
  | 0 => none
  | i + 1 => if ow i = -1 ∧ sp_bt f (sp_fv f ow i) i = true then some i else sp_fv f ow i
theorem sp_fv_lt {f : Nat → Nat} {ow : Nat → Int32} : ∀ {i b : Nat}, sp_fv f ow i = some b → b < i ∧ ow b = -1
  | 0, b, h => by cases h
  | i + 1, b, h => by
    unfold sp_fv at h
    by_cases q : ow i = -1 ∧ sp_bt f (sp_fv f ow i) i = true
    · rw [if_pos q] at h
      cases h
      exact ⟨by omega, q.1⟩
    · rw [if_neg q] at h
      have h1 := sp_fv_lt h
      exact ⟨by omega, h1.2⟩
def sp_oi : Option Nat → Int32
  | none => -1
  | some c => nI c
def sp_ov (f : Nat → Nat) : Option Nat → Int32
  | none => -1
  | some c => nI (f c)
theorem sp_nI_ne (c : Nat) (h : c < 2 ^ 31) : ¬ nI c = -1 := fun e => by
  have h1 := congrArg Int32.toInt e
  rw [nI_toInt h] at h1
  have h2 : (-1 : Int32).toInt = -1 := by decide
  omega
theorem sp_nle (c : Nat) (h : c < 2 ^ 31) : ¬ nI c ≤ -1 := fun e => by
  rw [Int32.le_iff_toInt_le, nI_toInt h] at e
  have h2 : (-1 : Int32).toInt = -1 := by decide
  omega
section FAVC9
variable {K : cw_K} {I : cw_M} {n k : Nat} {v : Nat → Nat → Nat} {ow : Nat → Int32}
theorem sl_favouriteOf_9 (h : sp_cv n k v I) (ho : ∀ c, c < n → I 9 c = ow c) {s : Nat} (hs : s < k) : ∀ d i : Nat, i + d = n → bX6_favouriteOf_20_9_8 K (some (.int (sp_oi (sp_fv (v s) ow n)))) I (nI s) (sp_oi (sp_fv (v s) ow i)) (sp_ov (v s) (sp_fv (v s) ow i)) (nI i) I := by
  have hn := h.2.2.1
  intro d
  induction d with
  | zero =>
    intro i hi
    have : i = n := by omega
    subst this
    exact tbX6_favouriteOf_20_9_8 (br_t (by rw [h.1]; exact nI_le (Nat.le_refl _) (by omega)) ⟨rfl, rfl⟩)
  | succ d ih =>
    intro i hi
    have h1 := ih (i + 1) (by omega)
    have e0 : sp_fv (v s) ow (i + 1) = if ow i = -1 ∧ sp_bt (v s) (sp_fv (v s) ow i) i = true then some i else sp_fv (v s) ow i := rfl
    refine tbX6_favouriteOf_20_9_8 (br_f (by rw [h.1]; exact nI_ge (by omega) (by omega)) ⟨vp_in_nI (by omega) (by omega), ?_⟩)
    rw [nI_clamp (by omega), ho i (by omega), nI_1]
    refine ⟨fun q => ?_, fun q => ⟨_, _, sc_valueOf h hs (show i < n by omega), ?_⟩⟩
    · rw [e0, if_neg (fun z => q z.1)] at h1
      exact h1
    · have b1 := h.2.2.2.2.1 s i hs (by omega)
      cases hf : sp_fv (v s) ow i with
      | none =>
        rw [e0, hf, if_pos ⟨q, rfl⟩] at h1
        exact ⟨fun z => absurd z (sp_nle (v s i) (by omega)), fun _ => ⟨_, _, sc_valueOf h hs (show i < n by omega), h1⟩⟩
      | some b =>
        have hb := (sp_fv_lt hf).1
        have b2 := h.2.2.2.2.1 s b hs (by omega)
        refine ⟨fun q2 => ?_, fun q2 => ⟨_, _, sc_valueOf h hs (show i < n by omega), ?_⟩⟩
        · have q3 := (nI_leI (by omega) (by omega)).mp q2
          rw [e0, hf, if_neg (fun z => by have := z.2; simp only [sp_bt, decide_eq_true_eq] at this; omega)] at h1
          exact h1
        · have q3 : ¬ v s i ≤ v s b := fun z => q2 (nI_le z (by omega))
          rw [e0, hf, if_pos ⟨q, by simp only [sp_bt, decide_eq_true_eq]; omega⟩] at h1
          exact h1
theorem sc_favouriteOf_9 (h : sp_cv n k v I) (ho : ∀ c, c < n → I 9 c = ow c) {s : Nat} (hs : s < k) : cw_C (cc_w K) mX6_favouriteOf [.ref (cw_a (cc_w K) 20), .ref (cw_a (cc_w K) 9), .int (nI s)] I (some (.int (sp_oi (sp_fv (v s) ow n)))) I :=
  eX6_favouriteOf_20_9 (sl_favouriteOf_9 h ho hs n 0 (by omega))
end FAVC9
section FAVC21
variable {K : cw_K} {I : cw_M} {n k : Nat} {v : Nat → Nat → Nat} {ow : Nat → Int32}
end FAVC21
section FAVR
variable {K : cw_K} {J : cw_M} {n k : Nat} {v : Nat → Nat → Nat} {ow : Nat → Int32}
end FAVR
