/-! ## the moving knife, both sides -/
/-- s has no piece yet; S: the set of the others -/
def sp_un (S : Nat) (s : Nat) : Bool := !(S.testBit s)
theorem sp_dec (w : Nat) : nI (w + 1) + (-1) = nI w := by
  rw [← Int32.sub_eq_add_neg]
  exact nI_pred w
/-- how many wait -/
abbrev sp_wt (k S : Nat) : Nat := sp_n (fun s => sp_un S s = true) k
/-- the first of the waiting with the least g, of the first i -/
def sp_fc (S : Nat) (g : Nat → Nat) : Nat → Option Nat
  | 0 => none
  | i + 1 => if sp_un S i = true ∧ sp_lt g (sp_fc S g i) i = true then some i else sp_fc S g i
where sp_lt (g : Nat → Nat) (o : Option Nat) (i : Nat) : Bool := match o with
  | none => true
  | some b => decide (g i < g b)
theorem sp_fc_lt {S : Nat} {g : Nat → Nat} : ∀ {i b : Nat}, sp_fc S g i = some b → b < i ∧ sp_un S b = true
  | 0, b, h => by cases h
  | i + 1, b, h => by
    unfold sp_fc at h
    by_cases q : sp_un S i = true ∧ sp_fc.sp_lt g (sp_fc S g i) i = true
    · rw [if_pos q] at h
      cases h
      exact ⟨by omega, q.1⟩
    · rw [if_neg q] at h
      have h1 := sp_fc_lt h
      exact ⟨by omega, h1.2⟩
theorem sp_fc_none {S : Nat} {g : Nat → Nat} : ∀ {i : Nat}, sp_fc S g i = none → sp_wt i S = 0
  | 0, _ => rfl
  | i + 1, h => by
    unfold sp_fc at h
    by_cases q : sp_un S i = true ∧ sp_fc.sp_lt g (sp_fc S g i) i = true
    · rw [if_pos q] at h
      cases h
    · rw [if_neg q] at h
      have h1 := sp_fc_none h
      have h2 : ¬ sp_un S i = true := fun z => q ⟨z, by rw [h]; rfl⟩
      show sp_wt i S + (if sp_un S i = true then 1 else 0) = 0
      rw [h1, if_neg h2]
theorem sp_fc_some {S : Nat} {g : Nat → Nat} {i : Nat} (h : 1 ≤ sp_wt i S) : ∃ t, sp_fc S g i = some t := by
  cases q : sp_fc S g i with
  | none => have := sp_fc_none q; omega
  | some t => exact ⟨t, rfl⟩
theorem sp_wt_set : ∀ k, k < 7 → ∀ S, S < 64 → ∀ t, t < k → sp_un S t = true → sp_wt k (S ||| 2 ^ t) + 1 = sp_wt k S := by decide +kernel
theorem sp_wt0 : ∀ k, k < 7 → sp_wt k 0 = k := by decide +kernel
theorem sp_set6 : ∀ S, S < 64 → ∀ t, t < 6 → nI S ||| (1 <<< (nI t &&& 31)) = nI (S ||| 2 ^ t) ∧ (S ||| 2 ^ t) < 64 ∧ ∀ j, j < 6 → (S ||| 2 ^ t).testBit j = (S.testBit j || decide (j = t)) := by decide +kernel
theorem sp_bit6 : ∀ S, S < 64 → ∀ t, t < 6 → (nI S >>> (nI t &&& 31)) &&& 1 = if sp_un S t then 0 else 1 := by decide +kernel
theorem sp_mk_lt {v : Nat → Nat → Nat} {n s a p : Nat} (ha : a < n) : a ≤ sp_mk v n s a p ∧ sp_mk v n s a p < n := by
  have h := sp_fst_le (P := sp_enough v n s a p) (d := n - 1 - a) (a := a)
  have h1 : a ≤ sp_mk v n s a p := h.1
  have h2 : sp_mk v n s a p ≤ a + (n - 1 - a) := h.2
  exact ⟨h1, by omega⟩
/-- what the waiting s would call at -/
abbrev sp_g (v : Nat → Nat → Nat) (n a w : Nat) (i : Nat) : Nat := if w = 1 then n - 1 else sp_mk v n i a w
/-- the owners behind the knife: w wait, S have a piece, the knife stands at a -/
def sp_kn (v : Nat → Nat → Nat) (n k : Nat) : Nat → Nat → Nat → (Nat → Int32) → Nat → Int32
  | 0, _, _, f => f
  | w + 1, S, a, f => if n ≤ a then f else match sp_fc S (sp_g v n a (w + 1)) k with
    | none => f
    | some t => sp_kn v n k w (S ||| 2 ^ t) (sp_g v n a (w + 1) t + 1) (sp_put f (nI t) a (sp_g v n a (w + 1) t + 1))
theorem sp_put_nil (f : Nat → Int32) (x : Int32) (a : Nat) : sp_put f x a a = f := by
  funext j
  unfold sp_put
  rw [if_neg (by omega)]
theorem sp_kn_end {v : Nat → Nat → Nat} {n k w S a : Nat} {f : Nat → Int32} (h : n ≤ a) : sp_kn v n k (w + 1) S a f = f := by
  show (if n ≤ a then f else _) = f
  rw [if_pos h]
theorem sp_kn_step {v : Nat → Nat → Nat} {n k w S a t : Nat} {f : Nat → Int32} (ha : ¬ n ≤ a) (ht : sp_fc S (fun i => sp_mk v n i a (w + 1 + 1)) k = some t) : sp_kn v n k (w + 1 + 1) S a f = sp_kn v n k (w + 1) (S ||| 2 ^ t) (sp_mk v n t a (w + 1 + 1) + 1) (sp_put f (nI t) a (sp_mk v n t a (w + 1 + 1) + 1)) := by
  have e : sp_g v n a (w + 1 + 1) = fun i => sp_mk v n i a (w + 1 + 1) := by
    funext i
    show (if w + 1 + 1 = 1 then _ else _) = _
    rw [if_neg (by omega)]
  show (if n ≤ a then f else match sp_fc S (sp_g v n a (w + 1 + 1)) k with | none => f | some t => _) = _
  rw [if_neg ha, e, ht]
/-- with the same g everywhere it is the first that waits -/
theorem sp_fc_const (S m : Nat) : ∀ i, (sp_fc S (fun _ => m) i = none ∧ ∀ j, j < i → sp_un S j = false) ∨ ∃ t, sp_fc S (fun _ => m) i = some t ∧ t < i ∧ sp_un S t = true ∧ ∀ j, j < t → sp_un S j = false
  | 0 => Or.inl ⟨rfl, fun j hj => absurd hj (Nat.not_lt_zero j)⟩
  | i + 1 => by
    have e : sp_fc S (fun _ => m) (i + 1) = if sp_un S i = true ∧ sp_fc.sp_lt (fun _ => m) (sp_fc S (fun _ => m) i) i = true then some i else sp_fc S (fun _ => m) i := rfl
    rcases sp_fc_const S m i with ⟨h1, h2⟩ | ⟨t, h1, h2, h3, h4⟩
    · rw [e, h1]
      by_cases q : sp_un S i = true
      · rw [if_pos ⟨q, rfl⟩]
        exact Or.inr ⟨i, rfl, by omega, q, h2⟩
      · rw [if_neg (fun z => q z.1)]
        refine Or.inl ⟨rfl, fun j hj => ?_⟩
        by_cases z : j = i
        · subst z; simpa using q
        · exact h2 j (by omega)
    · rw [e, h1, if_neg (fun z => by have := z.2; simp [sp_fc.sp_lt] at this)]
      exact Or.inr ⟨t, rfl, by omega, h3, h4⟩
theorem sp_fst_at {P : Nat → Bool} : ∀ {d a t : Nat}, a ≤ t → t ≤ a + d → (∀ j, a ≤ j → j < t → P j = false) → (P t = true ∨ t = a + d) → sp_fst P d a = t
  | 0, a, t, h1, h2, _, _ => by
    show a = t
    omega
  | d + 1, a, t, h1, h2, h3, h4 => by
    have e : sp_fst P (d + 1) a = if P a then a else sp_fst P d (a + 1) := rfl
    rw [e]
    by_cases q : a = t
    · subst q
      rcases h4 with h4 | h4
      · rw [if_pos h4]
      · omega
    · rw [if_neg (by rw [h3 a (Nat.le_refl a) (by omega)]; decide)]
      exact sp_fst_at (by omega) (by omega) (fun j hj hj2 => h3 j (by omega) hj2) (h4.imp id (fun z => by omega))
theorem sp_kn_last {v : Nat → Nat → Nat} {n k S a : Nat} {f : Nat → Int32} (hk : 1 ≤ k) (ha : ¬ n ≤ a) (hw : sp_wt k S = 0 + 1) (hn : 1 ≤ n) : sp_kn v n k (0 + 1) S a f = sp_put f (nI (sp_fst (sp_un S) (k - 1) 0)) a n := by
  have e : sp_g v n a (0 + 1) = fun _ => n - 1 := by
    funext i
    show (if 0 + 1 = 1 then _ else _) = _
    rw [if_pos rfl]
  rcases sp_fc_const S (n - 1) k with ⟨h1, -⟩ | ⟨t, h1, h2, h3, h4⟩
  · have := sp_fc_none h1
    omega
  · have e2 : sp_fst (sp_un S) (k - 1) 0 = t := sp_fst_at (Nat.zero_le t) (by omega) (fun j _ hj => h4 j hj) (Or.inl h3)
    rw [e2]
    show (if n ≤ a then f else match sp_fc S (sp_g v n a (0 + 1)) k with | none => f | some t => sp_kn v n k 0 (S ||| 2 ^ t) (sp_g v n a (0 + 1) t + 1) (sp_put f (nI t) a (sp_g v n a (0 + 1) t + 1))) = _
    rw [if_neg ha, e, h1]
    show sp_put f (nI t) a (n - 1 + 1) = _
    rw [show n - 1 + 1 = n by omega]
section KNC
variable {K : cw_K} {I : cw_M} {n k : Nat} {v : Nat → Nat → Nat}
theorem sc_isWaiting {S t : Nat} (hS : S < 64) (ht : t < 6) : cw_C (cc_w K) mX6_isWaiting [.ref (cw_a (cc_w K) 20), .int (nI S), .int (nI t)] I (some (.int (if sp_un S t then 1 else 0))) I := by
  refine eX6_isWaiting_20 ?_
  rw [sp_bit6 S hS t ht]
  cases q : sp_un S t with
  | true => exact ⟨fun z => absurd rfl z, fun _ => ⟨rfl, rfl⟩⟩
  | false => exact ⟨fun _ => ⟨rfl, rfl⟩, fun z => absurd z (by decide)⟩
theorem sl_firstWaiting (h : sp_cv n k v I) (hk1 : 1 ≤ k) {S : Nat} (hS : S < 64) : ∀ d i : Nat, i + d + 1 = k → bX6_firstWaiting_20_2 K (some (.int (nI (sp_fst (sp_un S) d i)))) I (nI S) (nI i) I := by
  have hk := h.2.2.2.1
  have e0 : nI k - 1 = nI (k - 1) := sp_sub (b := 1) hk1
  intro d
  induction d with
  | zero =>
    intro i hi
    refine tbX6_firstWaiting_20_2 (br_t ?_ ⟨rfl, rfl⟩)
    rw [h.2.1, e0]
    exact nI_le (by omega) (by omega)
  | succ d ih =>
    intro i hi
    have h1 := ih (i + 1) (by omega)
    have e : sp_fst (sp_un S) (d + 1) i = if sp_un S i then i else sp_fst (sp_un S) d (i + 1) := rfl
    refine tbX6_firstWaiting_20_2 (br_f ?_ ⟨_, _, sc_isWaiting hS (by omega), fun q => ?_, fun q => ?_⟩)
    · rw [h.2.1, e0]
      exact nI_ge (by omega) (by omega)
    · rw [e, if_pos (sp_bit1 q)]
      exact ⟨rfl, rfl⟩
    · rw [e, if_neg (sp_bit0 q), nI_1]
      exact h1
theorem sc_firstWaiting (h : sp_cv n k v I) (hk1 : 1 ≤ k) {S : Nat} (hS : S < 64) : cw_C (cc_w K) mX6_firstWaiting [.ref (cw_a (cc_w K) 20), .int (nI S)] I (some (.int (nI (sp_fst (sp_un S) (k - 1) 0)))) I :=
  eX6_firstWaiting_20 (sl_firstWaiting h hk1 hS (k - 1) 0 (by omega))
theorem sl_firstToCall (h : sp_cv n k v I) {S a w : Nat} (hS : S < 64) (ha : a < n) (hw : 1 ≤ w) (hw2 : w ≤ 24) {t : Nat} (hres : sp_fc S (fun i => sp_mk v n i a w) k = some t) : ∀ d i b : Nat, i + d = k → sp_fc S (fun i => sp_mk v n i a w) i = some b → bX6_firstToCall_20_23 K (some (.int (nI t))) I (nI S) (nI a) (nI w) (nI b) (nI (sp_mk v n b a w)) (nI i) I := by
  have hn := h.2.2.1
  have hk := h.2.2.2.1
  intro d
  induction d with
  | zero =>
    intro i b hi hb
    have : i = k := by omega
    subst this
    rw [hb] at hres
    cases hres
    exact tbX6_firstToCall_20_23 (br_t (by rw [h.2.1]; exact nI_le (Nat.le_refl _) (by omega)) ⟨rfl, rfl⟩)
  | succ d ih =>
    intro i b hi hb
    have e : sp_fc S (fun i => sp_mk v n i a w) (i + 1) = if sp_un S i = true ∧ sp_fc.sp_lt (fun i => sp_mk v n i a w) (sp_fc S (fun i => sp_mk v n i a w) i) i = true then some i else sp_fc S (fun i => sp_mk v n i a w) i := rfl
    rw [hb] at e
    have m1 := (sp_mk_lt (v := v) (s := i) (p := w) ha).2
    have m2 := (sp_mk_lt (v := v) (s := b) (p := w) ha).2
    have lt : sp_fc.sp_lt (fun i => sp_mk v n i a w) (some b) i = decide (sp_mk v n i a w < sp_mk v n b a w) := rfl
    refine tbX6_firstToCall_20_23 (br_f (by rw [h.2.1]; exact nI_ge (by omega) (by omega)) ⟨_, _, sc_isWaiting hS (by omega), fun q => ?_, fun q => ⟨_, _, sc_markOf h (show i < k by omega) ha hw hw2, fun q2 => ?_, fun q2 => ⟨_, _, sc_markOf h (show i < k by omega) ha hw hw2, ?_⟩⟩⟩)
    · rw [if_neg (fun z => sp_bit0 q z.1)] at e
      rw [nI_1]
      exact ih (i + 1) b (by omega) e
    · have q3 := (nI_leI (by omega) (by omega)).mp q2
      rw [lt, if_neg (fun z => by have := of_decide_eq_true z.2; omega)] at e
      rw [nI_1]
      exact ih (i + 1) b (by omega) e
    · have q3 : ¬ sp_mk v n b a w ≤ sp_mk v n i a w := fun z => q2 (nI_le z (by omega))
      rw [lt, if_pos ⟨sp_bit1 q, decide_eq_true (by omega)⟩] at e
      rw [nI_1]
      exact ih (i + 1) i (by omega) e
theorem sc_firstToCall (h : sp_cv n k v I) (hk1 : 1 ≤ k) {S a w : Nat} (hS : S < 64) (hwt : 1 ≤ sp_wt k S) (ha : a < n) (hw : 1 ≤ w) (hw2 : w ≤ 24) {t : Nat} (hres : sp_fc S (fun i => sp_mk v n i a w) k = some t) : cw_C (cc_w K) mX6_firstToCall [.ref (cw_a (cc_w K) 20), .int (nI S), .int (nI a), .int (nI w)] I (some (.int (nI t))) I := by
  have hk := h.2.2.2.1
  have key : ∃ u, u < k ∧ sp_un S u = true ∧ ∀ j, j < u → sp_un S j = false := by
    rcases sp_fc_const S 0 k with ⟨h1, -⟩ | ⟨u, -, h2, h3, h4⟩
    · have := sp_fc_none h1; omega
    · exact ⟨u, h2, h3, h4⟩
  obtain ⟨u, hu, hu1, hu2⟩ := key
  have e2 : sp_fst (sp_un S) (k - 1) 0 = u := sp_fst_at (Nat.zero_le u) (by omega) (fun j _ hj => hu2 j hj) (Or.inl hu1)
  have hnone : ∀ i, i ≤ u → sp_fc S (fun i => sp_mk v n i a w) i = none := by
    intro i
    induction i with
    | zero => intro _; rfl
    | succ i ih =>
      intro hi
      have e : sp_fc S (fun i => sp_mk v n i a w) (i + 1) = if sp_un S i = true ∧ sp_fc.sp_lt (fun i => sp_mk v n i a w) (sp_fc S (fun i => sp_mk v n i a w) i) i = true then some i else sp_fc S (fun i => sp_mk v n i a w) i := rfl
      rw [e, if_neg (fun z => by rw [hu2 i (by omega)] at z; exact absurd z.1 (by decide)), ih (by omega)]
  have hsome : sp_fc S (fun i => sp_mk v n i a w) (u + 1) = some u := by
    have e : sp_fc S (fun i => sp_mk v n i a w) (u + 1) = if sp_un S u = true ∧ sp_fc.sp_lt (fun i => sp_mk v n i a w) (sp_fc S (fun i => sp_mk v n i a w) u) u = true then some u else sp_fc S (fun i => sp_mk v n i a w) u := rfl
    rw [e, hnone u (Nat.le_refl u), if_pos ⟨hu1, rfl⟩]
  have h1 := sc_firstWaiting (K := K) h hk1 hS
  rw [e2] at h1
  refine eX6_firstToCall_20 ⟨_, _, h1, _, _, sc_markOf h hu ha hw hw2, ?_⟩
  rw [nI_1]
  exact sl_firstToCall h hS ha hw hw2 hres (k - (u + 1)) (u + 1) u (by omega) hsome

theorem sl_knife_9 {I0 : cw_M} (h : sp_cv n k v I0) (hk1 : 1 ≤ k) : ∀ (w S a : Nat) (f : Nat → Int32), S < 64 → sp_wt k S = w + 1 → a ≤ n → bX6_divideByKnife_20_9_13 K none (cw_up I0 9 (sp_kn v n k (w + 1) S a f)) (nI S) (nI a) (nI (w + 1)) (cw_up I0 9 f) := by
  have hn := h.2.2.1
  have hk := h.2.2.2.1
  have last : ∀ (w S a : Nat) (f : Nat → Int32), S < 64 → sp_wt k S = w + 1 → a ≤ n → (w = 0 ∨ n ≤ a) → (∃ (v9 : Int32) (J9 : cw_M), cw_C (cc_w K) mX6_firstWaiting [.ref (cw_a (cc_w K) 20), .int (nI S)] (cw_up I0 9 f) (some (.int v9)) J9 ∧ (∃ J8 : cw_M, cw_C (cc_w K) mX1_assign [.ref (cw_a (cc_w K) 5), .ref (cw_a (cc_w K) 9), .int v9, .int (nI a), .int (J9 5 0)] J9 none J8 ∧ ((none : Option Value) = none ∧ cw_up I0 9 (sp_kn v n k (w + 1) S a f) = J8))) := by
    intro w S a f hS hw ha hc
    have hI : sp_cv n k v (cw_up I0 9 f) := h.up (by decide) (by decide)
    refine ⟨_, _, sc_firstWaiting hI hk1 hS, cw_up (cw_up I0 9 f) 9 (sp_put ((cw_up I0 9 f) 9) (nI (sp_fst (sp_un S) (k - 1) 0)) a n), ?_, rfl, ?_⟩
    · rw [hI.1]
      exact sc_assign_9 ha hn
    · rw [sp_upup, show (cw_up I0 9 f) 9 = f by simp [cw_up]]
      congr 1
      rcases hc with rfl | hc
      · by_cases hq : n ≤ a
        · have : a = n := by omega
          subst this
          rw [sp_kn_end (Nat.le_refl _), sp_put_nil]
        · rw [sp_kn_last hk1 (by omega) hw (by omega)]
      · have : a = n := by omega
        subst this
        rw [sp_kn_end (Nat.le_refl _), sp_put_nil]
  intro w
  induction w with
  | zero =>
    intro S a f hS hw ha
    exact tbX6_divideByKnife_20_9_13 (br_t (nI_le (a := 0 + 1) (b := 1) (by omega) (by omega)) (last 0 S a f hS hw ha (Or.inl rfl)))
  | succ w ih =>
    intro S a f hS hw ha
    have hI : sp_cv n k v (cw_up I0 9 f) := h.up (by decide) (by decide)
    have hwk : sp_wt k S ≤ k := sp_n_le
    refine tbX6_divideByKnife_20_9_13 (br_f (fun z => absurd ((nI_leI (b := 1) (by omega) (by omega)).mp z) (by omega)) ⟨fun z => ?_, fun z => ?_⟩)
    · rw [hI.1] at z
      exact last (w + 1) S a f hS hw ha (Or.inr ((nI_leI (by omega) (by omega)).mp z))
    · rw [hI.1] at z
      have ha2 : a < n := Nat.not_le.mp fun y => z (nI_le y (by omega))
      obtain ⟨t, ht⟩ := sp_fc_some (g := fun i => sp_mk v n i a (w + 1 + 1)) (show 1 ≤ sp_wt k S by omega)
      obtain ⟨htk, htS⟩ := sp_fc_lt ht
      obtain ⟨hmk0, hmk⟩ := sp_mk_lt (v := v) (s := t) (p := w + 1 + 1) ha2
      obtain ⟨b1, b2, b3⟩ := sp_set6 S hS t (by omega)
      refine ⟨_, _, sc_firstToCall hI hk1 hS (by omega) ha2 (by omega) (by omega) ht, _, _, sc_markOf hI htk ha2 (by omega) (by omega), ?_⟩
      rw [nI_1, b1]
      refine ⟨_, sc_assign_9 (by omega) (by omega), ?_⟩
      rw [sp_upup, show (cw_up I0 9 f) 9 = f by simp [cw_up], sp_dec (w + 1)]
      have hw2 := sp_wt_set k (by omega) S hS t htk htS
      have h1 := ih (S ||| 2 ^ t) (sp_mk v n t a (w + 1 + 1) + 1) (sp_put f (nI t) a (sp_mk v n t a (w + 1 + 1) + 1)) b2 (by omega) (by omega)
      rw [sp_kn_step (by omega) ht]
      exact h1
theorem sc_knife_9 (h : sp_cv n k v I) (hk1 : 1 ≤ k) : cw_C (cc_w K) mX6_divideByKnife [.ref (cw_a (cc_w K) 20), .ref (cw_a (cc_w K) 9)] I none (cw_up I 9 (sp_kn v n k k 0 0 (I 9))) := by
  have hk := h.2.2.2.1
  refine eX6_divideByKnife_20_9 ?_
  have h1 := sl_knife_9 (K := K) h hk1 (k - 1) 0 0 (I 9) (by omega) (by rw [sp_wt0 k (by omega)]; omega) (Nat.zero_le n)
  rw [sp_upself, show k - 1 + 1 = k by omega] at h1
  rw [h.2.1]
  exact h1

end KNC
