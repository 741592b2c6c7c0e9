/-! ## round robin, both sides -/
theorem sp_upup (I : cw_M) (o : Nat) (f g : Nat → Int32) : cw_up (cw_up I o f) o g = cw_up I o g := by
  funext q
  by_cases hq : q = o
  · simp only [cw_up, if_pos hq]
  · simp only [cw_up, if_neg hq]
theorem sp_upself (I : cw_M) (o : Nat) : cw_up I o (I o) = I := by
  funext q
  by_cases hq : q = o
  · subst hq; simp only [cw_up, if_true]
  · simp only [cw_up, if_neg hq]
def sp_nx (k t : Nat) : Nat := if t + 1 < k then t + 1 else 0
/-- the taking in turns: owners, how many were taken -/
def sp_rb (v : Nat → Nat → Nat) (n k : Nat) : Nat → (Nat → Int32) → Nat → Nat → (Nat → Int32) × Nat
  | 0, f, _, m => (f, m)
  | d + 1, f, t, m => match sp_fv (v t) f n with
    | none => (f, m)
    | some c => sp_rb v n k d (upd f c (nI t)) (sp_nx k t) (m + 1)
section ROBC
variable {K : cw_K} {I : cw_M} {n k : Nat} {v : Nat → Nat → Nat}

theorem sl_robin_9 {I0 : cw_M} (h : sp_cv n k v I0) : ∀ d m : Nat, m + d = n → ∀ (f : Nat → Int32) (t : Nat), t < k → bX6_divideByRobin_20_9_5 K (some (.int (nI (sp_rb v n k d f t m).2))) (cw_up I0 9 (sp_rb v n k d f t m).1) (nI t) (nI m) (cw_up I0 9 f) := by
  have hn := h.2.2.1
  have hk := h.2.2.2.1
  intro d
  induction d with
  | zero =>
    intro m hm f t ht
    have hI : sp_cv n k v (cw_up I0 9 f) := h.up (by decide) (by decide)
    have e : m = n := by omega
    subst e
    exact tbX6_divideByRobin_20_9_5 (br_t (by rw [hI.1]; exact nI_le (Nat.le_refl _) (by omega)) ⟨by rw [hI.1]; rfl, rfl⟩)
  | succ d ih =>
    intro m hm f t ht
    have hI : sp_cv n k v (cw_up I0 9 f) := h.up (by decide) (by decide)
    have hf : ∀ c, c < n → (cw_up I0 9 f) 9 c = f c := fun c _ => by simp [cw_up]
    refine tbX6_divideByRobin_20_9_5 (br_f (by rw [hI.1]; exact nI_ge (by omega) (by omega)) ⟨_, _, sc_favouriteOf_9 hI hf ht, ?_⟩)
    cases hq : sp_fv (v t) f n with
    | none =>
      have e1 : sp_rb v n k (d + 1) f t m = (f, m) := by
        show (match sp_fv (v t) f n with | none => (f, m) | some c => _) = _
        rw [hq]
      rw [e1]
      exact ⟨fun z => absurd rfl z, fun _ => ⟨rfl, rfl⟩⟩
    | some c =>
      have hc := (sp_fv_lt hq).1
      have e1 : sp_rb v n k (d + 1) f t m = sp_rb v n k d (upd f c (nI t)) (sp_nx k t) (m + 1) := by
        show (match sp_fv (v t) f n with | none => (f, m) | some c => _) = _
        rw [hq]
      have hnx : sp_nx k t < k := by unfold sp_nx; split <;> omega
      have h1 := ih (m + 1) (by omega) (upd f c (nI t)) (sp_nx k t) hnx
      rw [e1]
      have e2 : cw_st (cw_up I0 9 f) 9 (sp_oi (some c)).toNatClampNeg (nI t) = cw_up I0 9 (upd f c (nI t)) := by
        show cw_up (cw_up I0 9 f) 9 (upd ((cw_up I0 9 f) 9) (nI c).toNatClampNeg (nI t)) = _
        rw [nI_clamp (by omega), sp_upup]
        congr 1
      rw [e2]
      have hI2 : sp_cv n k v (cw_up I0 9 (upd f c (nI t))) := h.up (by decide) (by decide)
      rw [hI2.2.1, nI_1, nI_1]
      refine ⟨fun _ => ⟨vp_in_nI (by omega) (by omega), fun z => ?_, fun z => ?_⟩, fun z => absurd z (sp_nI_ne c (by omega))⟩
      · have z2 := (nI_leI (by omega) (by omega)).mp z
        have e3 : sp_nx k t = 0 := by unfold sp_nx; rw [if_neg (by omega)]
        rw [e3] at h1 ⊢
        exact h1
      · have z2 : ¬ k ≤ t + 1 := fun y => z (nI_le y (by omega))
        have e3 : sp_nx k t = t + 1 := by unfold sp_nx; rw [if_pos (by omega)]
        rw [e3] at h1 ⊢
        exact h1
theorem sc_robin_9 (h : sp_cv n k v I) {t : Nat} (ht : t < k) : cw_C (cc_w K) mX6_divideByRobin [.ref (cw_a (cc_w K) 20), .ref (cw_a (cc_w K) 9), .int (nI t)] I (some (.int (nI (sp_rb v n k n (I 9) t 0).2))) (cw_up I 9 (sp_rb v n k n (I 9) t 0).1) := by
  refine eX6_divideByRobin_20_9 ?_
  have h1 := sl_robin_9 (K := K) h n 0 (by omega) (I 9) t ht
  rw [sp_upself] at h1
  exact h1

/-- the trial row behind round robin of a free cake -/
abbrev sp_tr (v : Nat → Nat → Nat) (n k t : Nat) (f : Nat → Int32) : Nat → Int32 := (sp_rb v n k n (sp_put f (-1) 0 n) t 0).1
end ROBC
/-! how many are free -/
/-- the owners' part of the reference's row -/
def sp_sh (g f : Nat → Int32) : Nat → Int32 := fun j => if 2 ≤ j ∧ j < 26 then g (j - 2) else f j
theorem sp_rv.sh {J : cw_M} {n k : Nat} {v : Nat → Nat → Nat} (h : sp_rv n k v J) (g : Nat → Int32) : sp_rv n k v (cw_up J 1 (sp_sh g (J 1))) := by
  obtain ⟨h1, h2, h3, h4, h5, h6⟩ := h
  refine ⟨?_, ?_, h3, h4, h5, fun s c hs hc => ?_⟩
  · show (if 2 ≤ 0 ∧ 0 < 26 then g (0 - 2) else J 1 0) = _
    rw [if_neg (by omega)]; exact h1
  · show (if 2 ≤ 1 ∧ 1 < 26 then g (1 - 2) else J 1 1) = _
    rw [if_neg (by omega)]; exact h2
  · show (if 2 ≤ 33 + s * 31 + c ∧ 33 + s * 31 + c < 26 then g (33 + s * 31 + c - 2) else J 1 (33 + s * 31 + c)) = _
    rw [if_neg (by omega)]; exact h6 s c hs hc
theorem sp_sh_st (J : cw_M) (g : Nat → Int32) {c : Nat} (hc : c < 24) (x : Int32) : cw_st (cw_up J 1 (sp_sh g (J 1))) 1 (2 + c) x = cw_up J 1 (sp_sh (upd g c x) (J 1)) := by
  show cw_up (cw_up J 1 (sp_sh g (J 1))) 1 (upd ((cw_up J 1 (sp_sh g (J 1))) 1) (2 + c) x) = _
  rw [sp_upup]
  congr 1
  funext j
  have e : (cw_up J 1 (sp_sh g (J 1))) 1 = sp_sh g (J 1) := by simp [cw_up]
  rw [e]
  by_cases hj : j = 2 + c
  · subst hj
    simp only [upd, sp_sh, if_true]
    rw [if_pos (by omega), if_pos (by omega)]
  · simp only [upd, sp_sh, if_neg hj]
    by_cases h2 : 2 ≤ j ∧ j < 26
    · rw [if_pos h2, if_pos h2, if_neg (by omega)]
    · rw [if_neg h2, if_neg h2]
theorem sp_sh_self (J : cw_M) : cw_up J 1 (sp_sh (fun c => J 1 (2 + c)) (J 1)) = J := by
  have e : sp_sh (fun c => J 1 (2 + c)) (J 1) = J 1 := by
    funext j
    unfold sp_sh
    by_cases h2 : 2 ≤ j ∧ j < 26
    · rw [if_pos h2]
      show J 1 (2 + (j - 2)) = J 1 j
      rw [show 2 + (j - 2) = j by omega]
    · rw [if_neg h2]
  rw [e, sp_upself]
section ROBR
variable {K : cw_K} {J : cw_M} {n k : Nat} {v : Nat → Nat → Nat}
end ROBR
