/-! ## envy cycles: the reference -/
/-- the reference's test in the layer s -/
abbrev sp_q (w : Nat → Nat → Nat) (st s : Nat) (T : Nat → Option Nat) (a b : Nat) : Bool := (if s = 0 then decide (b = st) else (decide (b ≠ st) && decide (T b = some s))) && sp_E w a b
/-- the reference's steps behind the layers up to s -/
def sp_T (w : Nat → Nat → Nat) (k st : Nat) : Nat → Nat → Option Nat
  | 0 => fun _ => none
  | s + 1 => fun a => if sp_T w k st s a = none ∧ (sp_f1 (sp_q w st s (sp_T w k st s) a) k).isSome = true then some (s + 1) else sp_T w k st s a
theorem sp_T_le {w : Nat → Nat → Nat} {k st : Nat} : ∀ {s a d : Nat}, sp_T w k st s a = some d → 1 ≤ d ∧ d ≤ s
  | 0, a, d, h => by cases h
  | s + 1, a, d, h => by
    have e : (if sp_T w k st s a = none ∧ (sp_f1 (sp_q w st s (sp_T w k st s) a) k).isSome = true then some (s + 1) else sp_T w k st s a) = some d := h
    by_cases q : sp_T w k st s a = none ∧ (sp_f1 (sp_q w st s (sp_T w k st s) a) k).isSome = true
    · rw [if_pos q] at e
      cases e
      omega
    · rw [if_neg q] at e
      have := sp_T_le e
      omega
theorem sp_D_st {w : Nat → Nat → Nat} {k st : Nat} : ∀ d : Nat, sp_D w k st d st = 0
  | 0 => if_pos rfl
  | d + 1 => by
    show (if sp_D w k st d st = 6 ∧ (sp_at w k (sp_D w k st d) d st).isSome = true then d + 1 else sp_D w k st d st) = 0
    rw [sp_D_st d, if_neg (by omega)]
theorem sp_D_pos {w : Nat → Nat → Nat} {k st a : Nat} (ha : a ≠ st) : ∀ d : Nat, 1 ≤ sp_D w k st d a
  | 0 => by
    show 1 ≤ (if a = st then 0 else 6)
    rw [if_neg ha]
    omega
  | d + 1 => by
    have h := sp_D_pos (w := w) (k := k) (st := st) ha d
    show 1 ≤ (if sp_D w k st d a = 6 ∧ (sp_at w k (sp_D w k st d) d a).isSome = true then d + 1 else sp_D w k st d a)
    split
    · omega
    · exact h
/-- both measure alike -/
theorem sp_T_D {w : Nat → Nat → Nat} {k st : Nat} : ∀ {s : Nat}, s ≤ 5 → ∀ a, a ≠ st → (sp_T w k st s a = none ∧ sp_D w k st s a = 6) ∨ (sp_T w k st s a = some (sp_D w k st s a) ∧ sp_D w k st s a ≤ 5)
  | 0, _, a, ha => Or.inl ⟨rfl, if_neg ha⟩
  | s + 1, hs, a, ha => by
    have ih := fun b (hb : b ≠ st) => sp_T_D (w := w) (k := k) (st := st) (show s ≤ 5 by omega) b hb
    have eq : sp_f1 (sp_q w st s (sp_T w k st s) a) k = sp_at w k (sp_D w k st s) s a := by
      refine sp_f1_congr fun b hb => ?_
      have e : (if s = 0 then decide (b = st) else (decide (b ≠ st) && decide (sp_T w k st s b = some s))) = decide (sp_D w k st s b = s) := by
        by_cases z : b = st
        · subst z
          rw [sp_D_st s]
          by_cases y : s = 0
          · subst y; simp
          · rw [if_neg y]
            simp
            omega
        · by_cases y : s = 0
          · subst y
            rw [if_pos rfl, decide_eq_false z, decide_eq_false]
            have := sp_D_pos (w := w) (k := k) (st := st) z 0
            omega
          · rw [if_neg y]
            rcases ih b z with ⟨h1, h2⟩ | ⟨h1, h2⟩
            · rw [h1, h2]
              simp
              omega
            · rw [h1]
              by_cases x : sp_D w k st s b = s
              · rw [x]; simp [z]
              · rw [decide_eq_false (show ¬ some (sp_D w k st s b) = some s from fun t => x (Option.some.inj t)), decide_eq_false x, Bool.and_false]
      show ((if s = 0 then decide (b = st) else (decide (b ≠ st) && decide (sp_T w k st s b = some s))) && sp_E w a b) = _
      rw [e]
    have eT : sp_T w k st (s + 1) a = if sp_T w k st s a = none ∧ (sp_f1 (sp_q w st s (sp_T w k st s) a) k).isSome = true then some (s + 1) else sp_T w k st s a := rfl
    have eD : sp_D w k st (s + 1) a = if sp_D w k st s a = 6 ∧ (sp_at w k (sp_D w k st s) s a).isSome = true then s + 1 else sp_D w k st s a := rfl
    rw [eT, eD, eq]
    rcases ih a ha with ⟨h1, h2⟩ | ⟨h1, h2⟩
    · by_cases z : (sp_at w k (sp_D w k st s) s a).isSome = true
      · rw [if_pos ⟨h1, z⟩, if_pos ⟨h2, z⟩]
        exact Or.inr ⟨rfl, by omega⟩
      · rw [if_neg (fun y => z y.2), if_neg (fun y => z y.2)]
        exact Or.inl ⟨h1, h2⟩
    · rw [if_neg (fun y => by rw [h1] at y; cases y.1), if_neg (fun y => by omega)]
      exact Or.inr ⟨h1, h2⟩
/-- the steps of the start: the cycle's length, if it is s at most -/
theorem sp_T_st {w : Nat → Nat → Nat} {k st : Nat} : ∀ {s : Nat}, s ≤ 6 → sp_T w k st s st = (sp_f1 (fun d => decide (1 ≤ d) && (sp_at w k (sp_D w k st d) d st).isSome) s).map (fun d => d + 1)
  | 0, _ => rfl
  | s + 1, hs => by
    have ih := sp_T_st (w := w) (k := k) (st := st) (show s ≤ 6 by omega)
    have eT : sp_T w k st (s + 1) st = if sp_T w k st s st = none ∧ (sp_f1 (sp_q w st s (sp_T w k st s) st) k).isSome = true then some (s + 1) else sp_T w k st s st := rfl
    have eq : sp_f1 (sp_q w st s (sp_T w k st s) st) k = if s = 0 then none else sp_at w k (sp_D w k st s) s st := by
      by_cases y : s = 0
      · subst y
        rw [if_pos rfl]
        cases z : sp_f1 (sp_q w st 0 (sp_T w k st 0) st) k with
        | none => rfl
        | some b =>
          have h2 := (sp_f1_lt z).2
          simp only [sp_q, if_true, Bool.and_eq_true, decide_eq_true_eq] at h2
          obtain ⟨h3, h4⟩ := h2
          rw [h3] at h4
          omega
      · rw [if_neg y]
        refine sp_f1_congr fun b hb => ?_
        show ((if s = 0 then decide (b = st) else (decide (b ≠ st) && decide (sp_T w k st s b = some s))) && sp_E w st b) = _
        rw [if_neg y]
        by_cases z : b = st
        · subst z
          rw [sp_D_st s, decide_eq_false (show ¬ (0 : Nat) = s by omega)]
          simp
        · have e : decide (sp_T w k st s b = some s) = decide (sp_D w k st s b = s) := by
            rcases sp_T_D (w := w) (k := k) (st := st) (show s ≤ 5 by omega) b z with ⟨h1, h2⟩ | ⟨h1, h2⟩
            · rw [h1, h2]
              simp
              omega
            · rw [h1]
              by_cases x : sp_D w k st s b = s
              · rw [x]; simp
              · rw [decide_eq_false (show ¬ some (sp_D w k st s b) = some s from fun t => x (Option.some.inj t)), decide_eq_false x]
          rw [e]
          simp [z]
    rw [eT, eq, ih, sp_f1_succ]
    cases z : sp_f1 (fun d => decide (1 ≤ d) && (sp_at w k (sp_D w k st d) d st).isSome) s with
    | some b => rw [if_neg (fun y => by cases y.1)]
    | none =>
      show (if (none : Option Nat) = none ∧ _ then _ else none) = Option.map _ (if (decide (1 ≤ s) && (sp_at w k (sp_D w k st s) s st).isSome) = true then some s else none)
      by_cases y : s = 0
      · subst y; rfl
      · rw [if_neg y]
        by_cases x : (sp_at w k (sp_D w k st s) s st).isSome = true
        · rw [if_pos ⟨rfl, x⟩, if_pos (by rw [x, decide_eq_true (show 1 ≤ s by omega)]; rfl)]
          rfl
        · rw [if_neg (fun t => x t.2), if_neg (by simp [x])]
          rfl
theorem sp_T_len {w : Nat → Nat → Nat} {k st : Nat} (hk1 : 1 ≤ k) (hk : k ≤ 6) : sp_T w k st k st = sp_len w k st := by
  rw [sp_T_st hk]
  unfold sp_len
  congr 1
  refine sp_f1_congr fun d hd => ?_
  rw [sp_at_keep (show d ≤ k - 1 by omega) (by omega) (by omega)]
/-- what the reference tests for a member is the class's test -/
theorem sp_T_at {w : Nat → Nat → Nat} {k st d b : Nat} (hk1 : 1 ≤ k) (hk : k ≤ 6) (hd1 : 1 ≤ d) (hd : d ≤ k - 1) (hb : b ≠ st) : (sp_T w k st k b = some d) = (sp_D w k st (k - 1) b = d) := by
  obtain ⟨m, hm⟩ : ∃ m, k = m + 1 := ⟨k - 1, by omega⟩
  have e : sp_T w k st (m + 1) b = if sp_T w k st m b = none ∧ (sp_f1 (sp_q w st m (sp_T w k st m) b) k).isSome = true then some (m + 1) else sp_T w k st m b := rfl
  have e2 : sp_T w k st k b = sp_T w k st (m + 1) b := by rw [← hm]
  have e3 : k - 1 = m := by omega
  rw [e2, e, e3]
  apply propext
  rcases sp_T_D (w := w) (k := k) (st := st) (show m ≤ 5 by omega) b hb with ⟨h1, h2⟩ | ⟨h1, h2⟩
  · rw [h2]
    constructor
    · intro z
      split at z
      · cases z; omega
      · rw [h1] at z; cases z
    · intro z
      omega
  · rw [if_neg (fun y => by rw [h1] at y; cases y.1), h1]
    constructor
    · intro z; exact Option.some.inj z
    · intro z; rw [z]
section RCY
variable {K : cw_K} {J : cw_M} {n k : Nat} {v : Nat → Nat → Nat} {ow : Nat → Int32}
/-- a row with values in its first m places -/
def sp_rw (X : Nat → Int32) (m : Nat) (f : Nat → Int32) : Nat → Int32 := fun j => if j < m then X j else f j
theorem sp_rw_congr {X Y : Nat → Int32} {m : Nat} (f : Nat → Int32) (h : ∀ j, j < m → X j = Y j) : sp_rw X m f = sp_rw Y m f := by
  funext j
  unfold sp_rw
  by_cases h2 : j < m
  · rw [if_pos h2, if_pos h2, h j h2]
  · rw [if_neg h2, if_neg h2]
theorem sp_rw_set (X Y : Nat → Int32) {m i : Nat} (hi : i < m) (f : Nat → Int32) (h : ∀ j, j < m → j ≠ i → Y j = X j) : upd (sp_rw X m f) i (Y i) = sp_rw Y m f := by
  funext j
  unfold upd sp_rw
  by_cases hj : j = i
  · subst hj; rw [if_pos rfl, if_pos hi]
  · rw [if_neg hj]
    by_cases h2 : j < m
    · rw [if_pos h2, if_pos h2, h j h2 hj]
    · rw [if_neg h2, if_neg h2]
/-- in the layer s + 1, the siblings below i are done -/
def sp_tx (w : Nat → Nat → Nat) (k st s i : Nat) : Nat → Option Nat := fun a => if a < i then sp_T w k st (s + 1) a else sp_T w k st s a
abbrev sp_tr5 (w : Nat → Nat → Nat) (k st s i : Nat) (f : Nat → Int32) : Nat → Int32 := sp_rw (fun a => sp_oi (sp_tx w k st s i a)) k f
theorem sp_oi_none {o : Option Nat} (h : ∀ d, o = some d → d < 2 ^ 31) : sp_oi o = -1 ↔ o = none := by
  cases o with
  | none => exact ⟨fun _ => rfl, fun _ => rfl⟩
  | some d => exact ⟨fun z => absurd z (sp_nI_ne d (h d rfl)), fun z => by cases z⟩
theorem sp_oi_some {o : Option Nat} {d : Nat} (hd : d < 2 ^ 31) (h : ∀ e, o = some e → e < 2 ^ 31) : sp_oi o = nI d ↔ o = some d := by
  cases o with
  | none => exact ⟨fun z => absurd z.symm (sp_nI_ne d hd), fun z => by cases z⟩
  | some e => exact ⟨fun z => by rw [(nI_eq (h e rfl) hd).mp z], fun z => by cases z; rfl⟩
theorem sp_tx_le {w : Nat → Nat → Nat} {k st s i a d : Nat} (h : sp_tx w k st s i a = some d) : d ≤ s + 1 := by
  unfold sp_tx at h
  split at h
  · exact (sp_T_le h).2
  · have := (sp_T_le h).2
    omega
theorem sl_walk48 (h : sp_rv n k v J) (ho : ∀ c, c < n → J 1 (2 + c) = ow c) {st s a : Nat} (hst : st < k) (hs : s < k) (ha : a < k) (f : Nat → Int32) {r : Option Value} {J9 : cw_M} (hout : bX11_walkTo_0_35 K r J9 (nI st) (nI (s + 1)) (nI (a + 1)) (cw_up J 5 (sp_tr5 (sp_w v ow n) k st s (a + 1) f))) (hnone : sp_T (sp_w v ow n) k st s a = none) : ∀ e b : Nat, b + e = k → sp_f1 (sp_q (sp_w v ow n) st s (sp_T (sp_w v ow n) k st s) a) b = none → bX11_walkTo_0_48 K r J9 (nI st) (nI (s + 1)) (nI a) (nI b) (cw_up J 5 (sp_tr5 (sp_w v ow n) k st s a f)) := by
  have hn := h.2.2.1
  have hk := h.2.2.2.1
  have hJ : sp_rv n k v (cw_up J 5 (sp_tr5 (sp_w v ow n) k st s a f)) := h.up (by decide)
  have ho2 : ∀ c, c < n → (cw_up J 5 (sp_tr5 (sp_w v ow n) k st s a f)) 1 (2 + c) = ow c := fun c hc => ho c hc
  have h5 : ∀ j, j < k → (cw_up J 5 (sp_tr5 (sp_w v ow n) k st s a f)) 5 j = sp_oi (sp_tx (sp_w v ow n) k st s a j) := fun j hj => by
    show sp_tr5 (sp_w v ow n) k st s a f j = _
    unfold sp_tr5 sp_rw
    rw [if_pos hj]
  have hb31 : ∀ j d, sp_tx (sp_w v ow n) k st s a j = some d → d < 2 ^ 31 := fun j d z => by have := sp_tx_le z; omega
  have ha0 : sp_tx (sp_w v ow n) k st s a a = none := by unfold sp_tx; rw [if_neg (by omega)]; exact hnone
  have hstep : ∀ j, j ≠ a → sp_tx (sp_w v ow n) k st s (a + 1) j = sp_tx (sp_w v ow n) k st s a j := fun j hj => by
    unfold sp_tx
    by_cases h2 : j < a
    · rw [if_pos h2, if_pos (by omega)]
    · rw [if_neg h2, if_neg (by omega)]
  have hnew : sp_tx (sp_w v ow n) k st s (a + 1) a = if sp_T (sp_w v ow n) k st s a = none ∧ (sp_f1 (sp_q (sp_w v ow n) st s (sp_T (sp_w v ow n) k st s) a) k).isSome = true then some (s + 1) else sp_T (sp_w v ow n) k st s a := by
    unfold sp_tx
    rw [if_pos (by omega)]
    rfl
  have hTb : ∀ b, b < k → (sp_oi (sp_tx (sp_w v ow n) k st s a b) = nI s ↔ sp_T (sp_w v ow n) k st s b = some s) := by
    intro b hb
    rw [sp_oi_some (by omega) (hb31 b)]
    unfold sp_tx
    by_cases h2 : b < a
    · rw [if_pos h2]
      show (if sp_T (sp_w v ow n) k st s b = none ∧ (sp_f1 (sp_q (sp_w v ow n) st s (sp_T (sp_w v ow n) k st s) b) k).isSome = true then some (s + 1) else sp_T (sp_w v ow n) k st s b) = some s ↔ _
      by_cases z : sp_T (sp_w v ow n) k st s b = none ∧ (sp_f1 (sp_q (sp_w v ow n) st s (sp_T (sp_w v ow n) k st s) b) k).isSome = true
      · rw [if_pos z, z.1]
        constructor
        · intro y; have := Option.some.inj y; omega
        · intro y; cases y
      · rw [if_neg z]
    · rw [if_neg h2]
  intro e
  induction e with
  | zero =>
    intro b hb hq
    have e0 : b = k := by omega
    rw [e0] at hq ⊢
    refine tbX11_walkTo_0_48 ⟨vp_in_nI (by omega) (by omega), ?_⟩
    rw [nI_clamp (by omega), h5 a ha, ha0, nI_1, hJ.2.1]
    refine ⟨fun z => absurd rfl z, fun _ => br_t (nI_le (Nat.le_refl _) (by omega)) ?_⟩
    have same : sp_tr5 (sp_w v ow n) k st s a f = sp_tr5 (sp_w v ow n) k st s (a + 1) f := sp_rw_congr f fun j hj => by
      by_cases q : j = a
      · subst q
        rw [hnew, hq, if_neg (fun z => by simpa using z.2), ha0, hnone]
      · rw [hstep j q]
    rw [same]
    exact hout
  | succ e ih =>
    intro b hb hq
    have hsucc : sp_f1 (sp_q (sp_w v ow n) st s (sp_T (sp_w v ow n) k st s) a) (b + 1) = if sp_q (sp_w v ow n) st s (sp_T (sp_w v ow n) k st s) a b = true then some b else none := by
      rw [sp_f1_succ, hq]
    have hno : sp_q (sp_w v ow n) st s (sp_T (sp_w v ow n) k st s) a b = false → bX11_walkTo_0_48 K r J9 (nI st) (nI (s + 1)) (nI a) (nI (b + 1)) (cw_up J 5 (sp_tr5 (sp_w v ow n) k st s a f)) := fun z => ih (b + 1) (by omega) (by rw [hsucc, z]; rfl)
    have hyes : sp_q (sp_w v ow n) st s (sp_T (sp_w v ow n) k st s) a b = true → vp_in (nI a) 6 ∧ bX11_walkTo_0_48 K r J9 (nI st) (nI (s + 1)) (nI a) (nI (b + 1)) (cw_st (cw_up J 5 (sp_tr5 (sp_w v ow n) k st s a f)) 5 a (nI (s + 1))) := by
      intro z
      refine ⟨vp_in_nI (by omega) (by omega), ?_⟩
      have e1 : sp_f1 (sp_q (sp_w v ow n) st s (sp_T (sp_w v ow n) k st s) a) k = some b := sp_f1_keep (show b + 1 ≤ k by omega) (by rw [hsucc, z]; rfl)
      have e2 : sp_tx (sp_w v ow n) k st s (a + 1) a = some (s + 1) := by rw [hnew, e1, if_pos ⟨hnone, rfl⟩]
      have e9 : cw_st (cw_up J 5 (sp_tr5 (sp_w v ow n) k st s a f)) 5 a (nI (s + 1)) = cw_up J 5 (sp_tr5 (sp_w v ow n) k st s (a + 1) f) := by
        show cw_up (cw_up J 5 _) 5 (upd ((cw_up J 5 (sp_tr5 (sp_w v ow n) k st s a f)) 5) a (nI (s + 1))) = _
        rw [sp_upup, show (cw_up J 5 (sp_tr5 (sp_w v ow n) k st s a f)) 5 = sp_tr5 (sp_w v ow n) k st s a f by simp [cw_up]]
        have e8 : nI (s + 1) = (fun x => sp_oi (sp_tx (sp_w v ow n) k st s (a + 1) x)) a := by show _ = sp_oi (sp_tx (sp_w v ow n) k st s (a + 1) a); rw [e2]; rfl
        rw [e8]
        show cw_up J 5 (upd (sp_rw (fun x => sp_oi (sp_tx (sp_w v ow n) k st s a x)) k f) a _) = _
        rw [sp_rw_set (fun x => sp_oi (sp_tx (sp_w v ow n) k st s a x)) (fun x => sp_oi (sp_tx (sp_w v ow n) k st s (a + 1) x)) ha f (fun j _ hj => by show sp_oi (sp_tx (sp_w v ow n) k st s (a + 1) j) = _; rw [hstep j hj])]
      rw [e9]
      refine tbX11_walkTo_0_48 ⟨vp_in_nI (by omega) (by omega), ?_⟩
      rw [nI_clamp (by omega), nI_1]
      have e7 : (cw_up J 5 (sp_tr5 (sp_w v ow n) k st s (a + 1) f)) 5 a = nI (s + 1) := by
        show sp_tr5 (sp_w v ow n) k st s (a + 1) f a = _
        unfold sp_tr5 sp_rw
        rw [if_pos ha]
        show sp_oi (sp_tx (sp_w v ow n) k st s (a + 1) a) = _
        rw [e2]
        rfl
      rw [e7]
      exact ⟨fun _ => hout, fun y => absurd y (sp_nI_ne (s + 1) (by omega))⟩
    have hcall := sr_hasEnvy (K := K) hJ ho2 (o := b) ha
    have hE : (if sp_envy v ow n a b then (1 : Int32) else 0) = if sp_E (sp_w v ow n) a b then 1 else 0 := by
      by_cases z : sp_envy v ow n a b
      · rw [if_pos z, if_pos (decide_eq_true z)]
      · rw [if_neg z, if_neg (by rw [show sp_E (sp_w v ow n) a b = false from decide_eq_false z]; decide)]
    rw [hE] at hcall
    refine tbX11_walkTo_0_48 ⟨vp_in_nI (by omega) (by omega), ?_⟩
    rw [nI_clamp (by omega), h5 a ha, ha0, hJ.2.1, show nI a + 1 = nI (a + 1) from nI_1 a, show nI b + 1 = nI (b + 1) from nI_1 b, show nI (s + 1) - 1 = nI s from nI_pred s, nI_clamp (by omega)]
    refine ⟨fun z => absurd rfl z, fun _ => br_f (nI_ge (by omega) (by omega)) ⟨fun q1 => ?_, fun q1 => ?_⟩⟩
    · have hs0 : ¬ s = 0 := fun z => q1 (by rw [z]; rfl)
      have hqe : sp_q (sp_w v ow n) st s (sp_T (sp_w v ow n) k st s) a b = ((decide (b ≠ st) && decide (sp_T (sp_w v ow n) k st s b = some s)) && sp_E (sp_w v ow n) a b) := by
        show ((if s = 0 then _ else _) && _) = _
        rw [if_neg hs0]
      refine ⟨fun q2 => hno ?_, fun q2 => ⟨vp_in_nI (by omega) (by omega), ?_⟩⟩
      · have := (nI_eq (by omega) (by omega)).mp q2
        rw [hqe, decide_eq_false (fun y => y this)]
        rfl
      · have hbst : b ≠ st := fun z => q2 (by rw [z])
        rw [h5 b (by omega)]
        refine ⟨fun q3 => hno ?_, fun q3 => ⟨_, _, hcall, fun q4 => hno ?_, fun q4 => hyes ?_⟩⟩
        · rw [hqe, decide_eq_false (fun z => q3 ((hTb b (by omega)).mpr z)), Bool.and_false, Bool.false_and]
        · have := sp_bit0 q4
          rw [hqe]
          cases z : sp_E (sp_w v ow n) a b with
          | true => exact absurd z this
          | false => rw [Bool.and_false]
        · rw [hqe, decide_eq_true hbst, decide_eq_true ((hTb b (by omega)).mp q3), sp_bit1 q4]
          rfl
    · have hs0 : s + 1 = 1 := (nI_eq (b := 1) (by omega) (by omega)).mp q1
      have hqe : sp_q (sp_w v ow n) st s (sp_T (sp_w v ow n) k st s) a b = (decide (b = st) && sp_E (sp_w v ow n) a b) := by
        show ((if s = 0 then _ else _) && _) = _
        rw [if_pos (by omega)]
      refine ⟨fun q2 => hno ?_, fun q2 => ⟨_, _, hcall, fun q4 => hno ?_, fun q4 => hyes ?_⟩⟩
      · rw [hqe, decide_eq_false (fun z => q2 (by rw [z]))]
        rfl
      · have := sp_bit0 q4
        rw [hqe]
        cases z : sp_E (sp_w v ow n) a b with
        | true => exact absurd z this
        | false => rw [Bool.and_false]
      · rw [hqe, decide_eq_true ((nI_eq (by omega) (by omega)).mp q2), sp_bit1 q4]
        rfl
theorem sl_walk35 (h : sp_rv n k v J) (ho : ∀ c, c < n → J 1 (2 + c) = ow c) {st s : Nat} (hst : st < k) (hs : s < k) (f : Nat → Int32) {r : Option Value} {J9 : cw_M} (hout : bX11_walkTo_0_23 K r J9 (nI st) (nI (s + 1 + 1)) (cw_up J 5 (sp_rw (fun a => sp_oi (sp_T (sp_w v ow n) k st (s + 1) a)) k f))) : ∀ e a : Nat, a + e = k → bX11_walkTo_0_35 K r J9 (nI st) (nI (s + 1)) (nI a) (cw_up J 5 (sp_tr5 (sp_w v ow n) k st s a f)) := by
  have hn := h.2.2.1
  have hk := h.2.2.2.1
  intro e
  induction e with
  | zero =>
    intro a ha
    have e0 : a = k := by omega
    rw [e0]
    have hJ : sp_rv n k v (cw_up J 5 (sp_tr5 (sp_w v ow n) k st s k f)) := h.up (by decide)
    refine tbX11_walkTo_0_35 (br_t (by rw [hJ.2.1]; exact nI_le (Nat.le_refl _) (by omega)) ?_)
    rw [nI_1, show sp_tr5 (sp_w v ow n) k st s k f = sp_rw (fun a => sp_oi (sp_T (sp_w v ow n) k st (s + 1) a)) k f from sp_rw_congr f fun j hj => by unfold sp_tx; rw [if_pos hj]]
    exact hout
  | succ e ih =>
    intro a ha
    have hJ : sp_rv n k v (cw_up J 5 (sp_tr5 (sp_w v ow n) k st s a f)) := h.up (by decide)
    have h1 := ih (a + 1) (by omega)
    refine tbX11_walkTo_0_35 (br_f (by rw [hJ.2.1]; exact nI_ge (by omega) (by omega)) ?_)
    cases hT : sp_T (sp_w v ow n) k st s a with
    | none => exact sl_walk48 h ho hst hs (show a < k by omega) f h1 hT k 0 (by omega) rfl
    | some d =>
      have hd := sp_T_le hT
      have e5 : (cw_up J 5 (sp_tr5 (sp_w v ow n) k st s a f)) 5 a = nI d := by
        show sp_tr5 (sp_w v ow n) k st s a f a = _
        unfold sp_tr5 sp_rw sp_tx
        rw [if_pos (by omega)]
        show sp_oi (if a < a then sp_T (sp_w v ow n) k st (s + 1) a else sp_T (sp_w v ow n) k st s a) = _
        rw [if_neg (by omega), hT]
        rfl
      refine tbX11_walkTo_0_48 ⟨vp_in_nI (by omega) (by omega), ?_⟩
      rw [nI_clamp (by omega), e5, nI_1]
      refine ⟨fun _ => ?_, fun z => absurd z (sp_nI_ne d (by omega))⟩
      have same : sp_tr5 (sp_w v ow n) k st s a f = sp_tr5 (sp_w v ow n) k st s (a + 1) f := sp_rw_congr f fun j hj => by
        show sp_oi (if j < a then sp_T _ k st (s + 1) j else sp_T _ k st s j) = sp_oi (if j < a + 1 then sp_T _ k st (s + 1) j else sp_T _ k st s j)
        by_cases q : j = a
        · subst q
          rw [if_neg (by omega), if_pos (by omega)]
          show _ = sp_oi (if sp_T (sp_w v ow n) k st s j = none ∧ _ then _ else sp_T (sp_w v ow n) k st s j)
          rw [if_neg (fun z => by rw [hT] at z; cases z.1)]
        · by_cases h2 : j < a
          · rw [if_pos h2, if_pos (by omega)]
          · rw [if_neg h2, if_neg (by omega)]
      rw [same]
      exact h1
theorem sl_walk23 (h : sp_rv n k v J) (ho : ∀ c, c < n → J 1 (2 + c) = ow c) {st : Nat} (hst : st < k) (f : Nat → Int32) : ∀ e s : Nat, s + e = k → bX11_walkTo_0_23 K none (cw_up J 5 (sp_rw (fun a => sp_oi (sp_T (sp_w v ow n) k st k a)) k f)) (nI st) (nI (s + 1)) (cw_up J 5 (sp_rw (fun a => sp_oi (sp_T (sp_w v ow n) k st s a)) k f)) := by
  have hk := h.2.2.2.1
  intro e
  induction e with
  | zero =>
    intro s hs
    have e0 : s = k := by omega
    rw [e0]
    have hJ : sp_rv n k v (cw_up J 5 (sp_rw (fun a => sp_oi (sp_T (sp_w v ow n) k st k a)) k f)) := h.up (by decide)
    exact tbX11_walkTo_0_23 (br_t (by rw [hJ.2.1]; exact nI_lt (by omega) (by omega)) ⟨rfl, rfl⟩)
  | succ e ih =>
    intro s hs
    have hJ : sp_rv n k v (cw_up J 5 (sp_rw (fun a => sp_oi (sp_T (sp_w v ow n) k st s a)) k f)) := h.up (by decide)
    refine tbX11_walkTo_0_23 (br_f (by rw [hJ.2.1]; exact fun z => absurd ((nI_ltI (by omega) (by omega)).mp z) (by omega)) ?_)
    have h1 := sl_walk35 (K := K) h ho hst (show s < k by omega) f (ih (s + 1) (by omega)) k 0 (by omega)
    rw [show sp_tr5 (sp_w v ow n) k st s 0 f = sp_rw (fun a => sp_oi (sp_T (sp_w v ow n) k st s a)) k f from sp_rw_congr f fun j _ => by unfold sp_tx; rw [if_neg (by omega)]] at h1
    exact h1
theorem sl_walk2 (h : sp_rv n k v J) {st : Nat} (f : Nat → Int32) {r : Option Value} {J9 : cw_M} (hout : bX11_walkTo_0_23 K r J9 (nI st) 1 (cw_up J 5 (sp_rw (fun _ => -1) 6 f))) : ∀ e i : Nat, i + e = 6 → bX11_walkTo_0_2 K r J9 (nI st) (nI i) (cw_up J 5 (sp_rw (fun _ => -1) i f)) := by
  intro e
  induction e with
  | zero =>
    intro i hi
    have e0 : i = 6 := by omega
    rw [e0]
    exact tbX11_walkTo_0_2 (br_t (by decide) hout)
  | succ e ih =>
    intro i hi
    refine tbX11_walkTo_0_2 (br_f (nI_ge (b := 6) (by omega) (by omega)) ⟨vp_in_nI (by omega) (by omega), ?_⟩)
    rw [nI_1, nI_clamp (by omega)]
    have e9 : cw_st (cw_up J 5 (sp_rw (fun _ => -1) i f)) 5 i (-1) = cw_up J 5 (sp_rw (fun _ => -1) (i + 1) f) := by
      show cw_up (cw_up J 5 _) 5 (upd ((cw_up J 5 (sp_rw (fun _ => -1) i f)) 5) i (-1)) = _
      rw [sp_upup, show (cw_up J 5 (sp_rw (fun _ => -1) i f)) 5 = sp_rw (fun _ => -1) i f by simp [cw_up]]
      congr 1
      funext j
      unfold upd sp_rw
      by_cases hj : j = i
      · subst hj; rw [if_pos rfl, if_pos (by omega)]
      · rw [if_neg hj]
        by_cases h2 : j < i
        · rw [if_pos h2, if_pos (by omega)]
        · rw [if_neg h2, if_neg (by omega)]
    rw [e9]
    exact ih (i + 1) (by omega)
/-- the steps' row behind walkTo -/
abbrev sp_wk (v : Nat → Nat → Nat) (ow : Nat → Int32) (n k st : Nat) (f : Nat → Int32) : Nat → Int32 := sp_rw (fun a => sp_oi (sp_T (sp_w v ow n) k st k a)) k (sp_rw (fun _ => -1) 6 f)
theorem sr_walkTo (h : sp_rv n k v J) (ho : ∀ c, c < n → J 1 (2 + c) = ow c) {st : Nat} (hst : st < k) : cw_C (cr_w K) mX11_walkTo [.ref (cw_a (cr_w K) 0), .int (nI st)] J none (cw_up J 5 (sp_wk v ow n k st (J 5))) := by
  have hk := h.2.2.2.1
  have h1 := sl_walk23 (K := K) h ho hst (sp_rw (fun _ => -1) 6 (J 5)) k 0 (by omega)
  have e0 : sp_rw (fun a => sp_oi (sp_T (sp_w v ow n) k st 0 a)) k (sp_rw (fun _ => -1) 6 (J 5)) = sp_rw (fun _ => -1) 6 (J 5) := by
    funext j
    unfold sp_rw
    by_cases h2 : j < k
    · rw [if_pos h2, if_pos (by omega)]; rfl
    · rw [if_neg h2]
  rw [e0] at h1
  have h2 := sl_walk2 (K := K) h (J 5) h1 6 0 (by omega)
  have e1 : cw_up J 5 (sp_rw (fun _ => -1) 0 (J 5)) = J := by
    have : sp_rw (fun _ => -1) 0 (J 5) = J 5 := by
      funext j
      unfold sp_rw
      rw [if_neg (by omega)]
    rw [this, sp_upself]
  rw [e1] at h2
  exact eX11_walkTo_0 h2
end RCY
