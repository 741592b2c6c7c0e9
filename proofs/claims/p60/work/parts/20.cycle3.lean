/-! ## envy cycles: the class, findCycle and the rotation -/
theorem sp_len_spec {w : Nat → Nat → Nat} {k st len : Nat} (h : sp_len w k st = some len) : 2 ≤ len ∧ len ≤ k ∧ (sp_at w k (sp_D w k st (k - 1)) (len - 1) st).isSome = true := by
  unfold sp_len at h
  cases q : sp_f1 (fun d => decide (1 ≤ d) && (sp_at w k (sp_D w k st (k - 1)) d st).isSome) k with
  | none => rw [q] at h; cases h
  | some d =>
    rw [q] at h
    have e : d + 1 = len := Option.some.inj h
    obtain ⟨h1, h2⟩ := sp_f1_lt q
    simp only [Bool.and_eq_true, decide_eq_true_eq] at h2
    refine ⟨by omega, by omega, ?_⟩
    rw [← e, Nat.add_sub_cancel]
    exact h2.2
/-- who is at a distance d + 1 envies one at d -/
theorem sp_D_pre {w : Nat → Nat → Nat} {k st : Nat} : ∀ {m d a : Nat}, m ≤ 6 → sp_D w k st m a = d + 1 → d + 1 < 6 → d < m ∧ (sp_at w k (sp_D w k st d) d a).isSome = true
  | 0, d, a, hm, h, hd => by
    have : (if a = st then 0 else 6) = d + 1 := h
    split at this <;> omega
  | m + 1, d, a, hm, h, hd => by
    have e : (if sp_D w k st m a = 6 ∧ (sp_at w k (sp_D w k st m) m a).isSome = true then m + 1 else sp_D w k st m a) = d + 1 := h
    by_cases q : sp_D w k st m a = 6 ∧ (sp_at w k (sp_D w k st m) m a).isSome = true
    · rw [if_pos q] at e
      have : m = d := by omega
      subst this
      exact ⟨by omega, q.2⟩
    · rw [if_neg q] at e
      have h1 := sp_D_pre (show m ≤ 6 by omega) e hd
      exact ⟨by omega, h1.2⟩
/-- a distance that is settled stays -/
theorem sp_D_keep {w : Nat → Nat → Nat} {k st d a : Nat} : ∀ {m : Nat}, d ≤ m → m ≤ 6 → (sp_D w k st m a = d ↔ sp_D w k st d a = d) ∨ d = 6 := by
  intro m hm hm6
  induction m with
  | zero =>
    have : d = 0 := by omega
    subst this
    exact Or.inl Iff.rfl
  | succ m ih =>
    by_cases q : d = m + 1
    · subst q; exact Or.inl Iff.rfl
    · rcases ih (by omega) (by omega) with h1 | h1
      · refine Or.inl (Iff.trans ?_ h1)
        show (if sp_D w k st m a = 6 ∧ (sp_at w k (sp_D w k st m) m a).isSome = true then m + 1 else sp_D w k st m a) = d ↔ _
        by_cases z : sp_D w k st m a = 6 ∧ (sp_at w k (sp_D w k st m) m a).isSome = true
        · rw [if_pos z]
          omega
        · rw [if_neg z]
      · exact Or.inr h1
theorem sp_at_keep {w : Nat → Nat → Nat} {k st d a m : Nat} (hd : d ≤ m) (hm : m ≤ 6) (hd6 : d < 6) : sp_at w k (sp_D w k st m) d a = sp_at w k (sp_D w k st d) d a := by
  refine sp_f1_congr fun j hj => ?_
  have h1 := (sp_D_keep (w := w) (k := k) (st := st) (a := j) hd hm).resolve_right (by omega)
  have e : decide (sp_D w k st m j = d) = decide (sp_D w k st d j = d) := by
    by_cases q : sp_D w k st m j = d
    · rw [decide_eq_true q, decide_eq_true (h1.mp q)]
    · rw [decide_eq_false q, decide_eq_false (fun z => q (h1.mpr z))]
  rw [e]
/-- the members of the cycle: each envies the next, at one distance less -/
theorem sp_cy_spec {w : Nat → Nat → Nat} {k st len : Nat} (hst : st < k) (hk : k ≤ 6) (h : sp_len w k st = some len) : ∀ p : Nat, p < len → sp_cy w k st len p < k ∧ (1 ≤ p → sp_D w k st (k - 1) (sp_cy w k st len p) = len - p) ∧ (p + 1 < len → sp_at w k (sp_D w k st (k - 1)) (len - (p + 1)) (sp_cy w k st len p) = some (sp_cy w k st len (p + 1))) := by
  obtain ⟨h1, h2, h3⟩ := sp_len_spec h
  have key : ∀ p, (sp_at w k (sp_D w k st (k - 1)) (len - (p + 1)) (sp_cy w k st len p)).isSome = true → sp_at w k (sp_D w k st (k - 1)) (len - (p + 1)) (sp_cy w k st len p) = some (sp_cy w k st len (p + 1)) := by
    intro p hp
    obtain ⟨b, hb⟩ := Option.isSome_iff_exists.mp hp
    have e : sp_cy w k st len (p + 1) = b := by
      show (sp_at w k (sp_D w k st (k - 1)) (len - (p + 1)) (sp_cy w k st len p)).getD 0 = b
      rw [hb]
      rfl
    rw [e]
    exact hb
  intro p
  induction p with
  | zero =>
    intro hp
    refine ⟨hst, fun z => absurd z (by omega), fun _ => key 0 ?_⟩
    exact h3
  | succ p ih =>
    intro hp
    obtain ⟨-, -, i3⟩ := ih (by omega)
    obtain ⟨j1, j2⟩ := sp_f1_lt (i3 hp)
    simp only [Bool.and_eq_true, decide_eq_true_eq] at j2
    refine ⟨j1, fun _ => j2.1, fun hp2 => key (p + 1) ?_⟩
    obtain ⟨d, hd⟩ : ∃ d, len - (p + 1) = d + 1 := ⟨len - (p + 2), by omega⟩
    have e1 : sp_D w k st (k - 1) (sp_cy w k st len (p + 1)) = d + 1 := by rw [j2.1, hd]
    have h9 := sp_D_pre (show k - 1 ≤ 6 by omega) e1 (by omega)
    have e2 : len - (p + 1 + 1) = d := by omega
    rw [e2, sp_at_keep (by omega) (by omega) (by omega)]
    exact h9.2
section CYF
variable {K : cw_K} {I : cw_M} {n k : Nat} {v : Nat → Nat → Nat} {ow : Nat → Int32}
/-- the class's scratch rows behind a search for a cycle -/
abbrev sp_cyI (I : cw_M) (f17 f18 f19 : Nat → Int32) : cw_M := cw_up (cw_up (cw_up I 19 f19) 18 f18) 17 f17
theorem sl_findCycle {I1 : cw_M} (h : sp_cv n k v I1) {w : Nat → Nat → Nat} {st len : Nat} (hst : st < k) (hd : sp_wd I1 k w (sp_D w k st (k - 1))) (hl : sp_len w k st = some len) (f : Nat → Int32) : ∀ e p : Nat, p + e = len → 1 ≤ p → bX3_findCycle_16_31 K (some (.int (nI len))) (cw_up I1 17 (sp_row (sp_cy w k st len) len f)) (nI len) (nI p) (cw_up I1 17 (sp_row (sp_cy w k st len) p f)) := by
  have hk := h.2.2.2.1
  obtain ⟨b1, b2, -⟩ := sp_len_spec hl
  intro e
  induction e with
  | zero =>
    intro p hp hp1
    have e0 : p = len := by omega
    rw [e0]
    exact tbX3_findCycle_16_31 (br_t (nI_le (Nat.le_refl _) (by omega)) ⟨rfl, rfl⟩)
  | succ e ih =>
    intro p hp hp1
    obtain ⟨q, hq⟩ : ∃ q, p = q + 1 := ⟨p - 1, by omega⟩
    subst hq
    have hI : sp_cv n k v (cw_up I1 17 (sp_row (sp_cy w k st len) (q + 1) f)) := h.up (by decide) (by decide)
    have hd2 : sp_wd (cw_up I1 17 (sp_row (sp_cy w k st len) (q + 1) f)) k w (sp_D w k st (k - 1)) := ⟨fun s o a b => hd.1 s o a b, hd.2.1, fun j hj => hd.2.2 j hj⟩
    obtain ⟨c1, -, c3⟩ := sp_cy_spec hst hk hl q (by omega)
    have hf := sc_firstEnviedAt (K := K) hI.2.1 hk hd2 (d := len - (q + 1)) (s := sp_cy w k st len q) (by omega) c1
    rw [c3 (by omega)] at hf
    refine tbX3_findCycle_16_31 (br_f (nI_ge (by omega) (by omega)) ?_)
    rw [show nI (q + 1) - 1 = nI q from nI_pred q, nI_clamp (by omega), nI_clamp (by omega), show nI len - nI (q + 1) = nI (len - (q + 1)) from sp_sub (by omega), nI_1]
    rw [show (cw_up I1 17 (sp_row (sp_cy w k st len) (q + 1) f)) 17 q = nI (sp_cy w k st len q) by
      show sp_row (sp_cy w k st len) (q + 1) f q = _
      unfold sp_row
      rw [if_pos (by omega)]]
    refine ⟨vp_in_nI (by omega) (by omega), _, _, hf, vp_in_nI (by omega) (by omega), ?_⟩
    have e9 : cw_st (cw_up I1 17 (sp_row (sp_cy w k st len) (q + 1) f)) 17 (q + 1) (sp_oi (some (sp_cy w k st len (q + 1)))) = cw_up I1 17 (sp_row (sp_cy w k st len) (q + 1 + 1) f) := by
      show cw_up (cw_up I1 17 _) 17 (upd ((cw_up I1 17 (sp_row (sp_cy w k st len) (q + 1) f)) 17) (q + 1) (nI (sp_cy w k st len (q + 1)))) = _
      rw [sp_upup, show (cw_up I1 17 (sp_row (sp_cy w k st len) (q + 1) f)) 17 = sp_row (sp_cy w k st len) (q + 1) f by simp [cw_up], sp_row_upd]
    rw [e9]
    exact ih (q + 1 + 1) (by omega) (by omega)
theorem sc_findCycle (h : sp_cv n k v I) (ho : ∀ c, c < n → I 9 c = ow c) {st : Nat} (hst : st < k) : ∃ f17 f18 f19 : Nat → Int32, (∀ len, sp_len (sp_w v ow n) k st = some len → ∀ p, p < len → f17 p = nI (sp_cy (sp_w v ow n) k st len p)) ∧ cw_C (cc_w K) mX3_findCycle [.ref (cw_a (cc_w K) 16), .int (nI st)] I (some (.int (sp_oi (sp_len (sp_w v ow n) k st)))) (sp_cyI I f17 f18 f19) := by
  have hn := h.2.2.1
  have hk := h.2.2.2.1
  have hI1 : sp_cv n k v (cw_up I 19 (sp_wm (sp_w v ow n) k (I 19) k 0)) := h.up (by decide) (by decide)
  have hI2 : sp_cv n k v (cw_up (cw_up I 19 (sp_wm (sp_w v ow n) k (I 19) k 0)) 18 (sp_row (sp_D (sp_w v ow n) k st (k - 1)) k (I 18))) := hI1.up (by decide) (by decide)
  have hw : ∀ s o, s < k → o < k → (cw_up I 19 (sp_wm (sp_w v ow n) k (I 19) k 0)) 19 (s * 6 + o) = nI (sp_w v ow n s o) := fun s o hs ho2 => by
    show sp_wm (sp_w v ow n) k (I 19) k 0 (s * 6 + o) = _
    exact sp_wm_at _ hk _ hs ho2
  have hw2 : ∀ s o, s < k → o < k → sp_w v ow n s o < 2 ^ 31 := fun s o hs _ => by
    have := sp_w_le (ow := ow) (o := o) h.2.2.2.2.1 hn hs
    omega
  have hd : sp_wd (cw_up (cw_up I 19 (sp_wm (sp_w v ow n) k (I 19) k 0)) 18 (sp_row (sp_D (sp_w v ow n) k st (k - 1)) k (I 18))) k (sp_w v ow n) (sp_D (sp_w v ow n) k st (k - 1)) := by
    refine ⟨fun s o a b => hw s o a b, hw2, fun j hj => ⟨?_, ?_⟩⟩
    · show sp_row (sp_D (sp_w v ow n) k st (k - 1)) k (I 18) j = _
      unfold sp_row
      rw [if_pos hj]
    · have := sp_D_lt (w := sp_w v ow n) (k := k) (st := st) (d := k - 1) (a := j) (by omega)
      omega
  have hmd := sc_measureDistances (K := K) hI1 hw hw2 hst
  rw [show (cw_up I 19 (sp_wm (sp_w v ow n) k (I 19) k 0)) 18 = I 18 from rfl] at hmd
  have hs1 : sp_f1 (fun d => decide (1 ≤ d) && (sp_at (sp_w v ow n) k (sp_D (sp_w v ow n) k st (k - 1)) d st).isSome) 1 = none := rfl
  have hsw := eX3_shortestWayRound_16 (sl_shortestWayRound (K := K) hI2 hd hst (k - 1) 1 (by omega) (Nat.le_refl 1) hs1)
  cases hl : sp_len (sp_w v ow n) k st with
  | none =>
    refine ⟨I 17, sp_row (sp_D (sp_w v ow n) k st (k - 1)) k (I 18), sp_wm (sp_w v ow n) k (I 19) k 0, fun len z => by (cases z), ?_⟩
    have e17 : sp_cyI I (I 17) (sp_row (sp_D (sp_w v ow n) k st (k - 1)) k (I 18)) (sp_wm (sp_w v ow n) k (I 19) k 0) = cw_up (cw_up I 19 (sp_wm (sp_w v ow n) k (I 19) k 0)) 18 (sp_row (sp_D (sp_w v ow n) k st (k - 1)) k (I 18)) := by
      have : I 17 = (cw_up (cw_up I 19 (sp_wm (sp_w v ow n) k (I 19) k 0)) 18 (sp_row (sp_D (sp_w v ow n) k st (k - 1)) k (I 18))) 17 := rfl
      rw [this]
      exact sp_upself _ 17
    rw [e17]
    refine eX3_findCycle_16 ⟨_, sc_measureWorths h ho, _, hmd, _, _, hsw, fun z => ?_, fun _ => ⟨rfl, rfl⟩⟩
    exact absurd (congrArg sp_oi hl) z
  | some len =>
    obtain ⟨b1, b2, -⟩ := sp_len_spec hl
    refine ⟨sp_row (sp_cy (sp_w v ow n) k st len) len (I 17), sp_row (sp_D (sp_w v ow n) k st (k - 1)) k (I 18), sp_wm (sp_w v ow n) k (I 19) k 0, fun len2 z p hp => ?_, ?_⟩
    · cases z
      unfold sp_row
      rw [if_pos hp]
    · have hloop := sl_findCycle (K := K) hI2 hst hd hl (I 17) (len - 1) 1 (by omega) (Nat.le_refl 1)
      have e1 : sp_oi (Option.map (fun d => d + 1) (sp_f1 (fun d => decide (1 ≤ d) && (sp_at (sp_w v ow n) k (sp_D (sp_w v ow n) k st (k - 1)) d st).isSome) k)) = nI len := congrArg sp_oi hl
      rw [e1] at hsw
      refine eX3_findCycle_16 ⟨_, sc_measureWorths h ho, _, hmd, _, _, hsw, fun _ => ?_, fun z => absurd z (sp_nI_ne len (by omega))⟩
      have e9 : cw_st (cw_up (cw_up I 19 (sp_wm (sp_w v ow n) k (I 19) k 0)) 18 (sp_row (sp_D (sp_w v ow n) k st (k - 1)) k (I 18))) 17 0 (nI st) = cw_up (cw_up (cw_up I 19 (sp_wm (sp_w v ow n) k (I 19) k 0)) 18 (sp_row (sp_D (sp_w v ow n) k st (k - 1)) k (I 18))) 17 (sp_row (sp_cy (sp_w v ow n) k st len) 1 (I 17)) := by
        show cw_up _ 17 (upd (I 17) 0 (nI st)) = _
        have := sp_row_upd (sp_cy (sp_w v ow n) k st len) 0 (I 17)
        rw [sp_row_0] at this
        rw [show st = sp_cy (sp_w v ow n) k st len 0 from rfl, this]
        rfl
      rw [e9]
      exact hloop
end CYF
