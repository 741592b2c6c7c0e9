/-! ## the rotation, the class -/
/-- who owns behind the rotation what o owned -/
def sp_ro (w : Nat → Nat → Nat) (k st len : Nat) (o : Int32) : Int32 := match sp_f1 (fun p => decide (nI (sp_cy w k st len p) = o)) len with
  | none => o
  | some p => nI (sp_cy w k st len ((p + len - 1) % len))
/-- a row changed in its first m places -/
def sp_mp (g : Int32 → Int32) (f : Nat → Int32) (m : Nat) : Nat → Int32 := fun j => if j < m then g (f j) else f j
theorem sp_mp_0 (g : Int32 → Int32) (f : Nat → Int32) : sp_mp g f 0 = f := by
  funext j
  unfold sp_mp
  rw [if_neg (by omega)]
theorem sp_mp_at (g : Int32 → Int32) (f : Nat → Int32) (m : Nat) : sp_mp g f m m = f m := by
  unfold sp_mp
  rw [if_neg (by omega)]
theorem sp_mp_upd (g : Int32 → Int32) (f : Nat → Int32) (m : Nat) : upd (sp_mp g f m) m (g (f m)) = sp_mp g f (m + 1) := by
  funext j
  unfold upd sp_mp
  by_cases hj : j = m
  · subst hj; rw [if_pos rfl, if_pos (by omega)]
  · rw [if_neg hj]
    by_cases h2 : j < m
    · rw [if_pos h2, if_pos (by omega)]
    · rw [if_neg h2, if_neg (by omega)]
section ROT
variable {K : cw_K} {I : cw_M} {n k : Nat} {v : Nat → Nat → Nat} {ow : Nat → Int32}
theorem sl_ownerAfter {w : Nat → Nat → Nat} {st len : Nat} (hlen : len ≤ 6) (hl1 : 1 ≤ len) (h17 : ∀ p, p < len → I 17 p = nI (sp_cy w k st len p)) (o : Int32) : ∀ e p : Nat, p + e = len → sp_f1 (fun p => decide (nI (sp_cy w k st len p) = o)) p = none → bX3_ownerAfterRotation_16_7 K (some (.int (sp_ro w k st len o))) I o (nI len) (nI ((p + len - 1) % len)) (nI p) I := by
  intro e
  induction e with
  | zero =>
    intro p hp hq
    have e0 : p = len := by omega
    rw [e0] at hq ⊢
    refine tbX3_ownerAfterRotation_16_7 (br_t (nI_le (Nat.le_refl _) (by omega)) ⟨?_, rfl⟩)
    unfold sp_ro
    rw [hq]
  | succ e ih =>
    intro p hp hq
    have hsucc : sp_f1 (fun p => decide (nI (sp_cy w k st len p) = o)) (p + 1) = if decide (nI (sp_cy w k st len p) = o) = true then some p else none := by
      rw [sp_f1_succ, hq]
    refine tbX3_ownerAfterRotation_16_7 (br_f (nI_ge (by omega) (by omega)) ⟨vp_in_nI (by omega) (by omega), ?_⟩)
    rw [nI_clamp (by omega), h17 p (by omega), nI_1]
    refine ⟨fun q => ?_, fun q => ?_⟩
    · have e1 : (p + 1 + len - 1) % len = p := by
        rw [show p + 1 + len - 1 = p + len by omega, Nat.add_mod_right, Nat.mod_eq_of_lt (by omega)]
      have h1 := ih (p + 1) (by omega) (by rw [hsucc, decide_eq_false q]; rfl)
      rw [e1] at h1
      exact h1
    · have hm : (p + len - 1) % len < len := Nat.mod_lt _ (by omega)
      rw [nI_clamp (by omega), h17 _ hm]
      refine ⟨vp_in_nI (by omega) (by omega), ?_, rfl⟩
      have e1 : sp_f1 (fun p => decide (nI (sp_cy w k st len p) = o)) len = some p := sp_f1_keep (show p + 1 ≤ len by omega) (by rw [hsucc, decide_eq_true q]; rfl)
      unfold sp_ro
      rw [e1]
theorem sc_ownerAfter {w : Nat → Nat → Nat} {st len : Nat} (hlen : len ≤ 6) (hl1 : 1 ≤ len) (h17 : ∀ p, p < len → I 17 p = nI (sp_cy w k st len p)) (o : Int32) : cw_C (cc_w K) mX3_ownerAfterRotation [.ref (cw_a (cc_w K) 16), .int o, .int (nI len)] I (some (.int (sp_ro w k st len o))) I := by
  refine eX3_ownerAfterRotation_16 ?_
  rw [show nI len - 1 = nI (len - 1) from sp_sub (b := 1) hl1]
  have h1 := sl_ownerAfter (K := K) hlen hl1 h17 o len 0 (by omega) rfl
  rw [show (0 + len - 1) % len = len - 1 by rw [Nat.zero_add]; exact Nat.mod_eq_of_lt (by omega)] at h1
  exact h1
theorem sl_rotate {I1 : cw_M} (h : sp_cv n k v I1) {w : Nat → Nat → Nat} {st len : Nat} (hlen : len ≤ 6) (hl1 : 1 ≤ len) (h17 : ∀ p, p < len → I1 17 p = nI (sp_cy w k st len p)) (f : Nat → Int32) : ∀ e c : Nat, c + e = n → bX3_rotateThrough_16_8 K (some (.int (nI len))) (cw_up I1 9 (sp_mp (sp_ro w k st len) f n)) (nI len) (nI c) (cw_up I1 9 (sp_mp (sp_ro w k st len) f c)) := by
  have hn := h.2.2.1
  intro e
  induction e with
  | zero =>
    intro c hc
    have e0 : c = n := by omega
    rw [e0]
    have hI : sp_cv n k v (cw_up I1 9 (sp_mp (sp_ro w k st len) f n)) := h.up (by decide) (by decide)
    exact tbX3_rotateThrough_16_8 (br_t (by rw [hI.1]; exact nI_le (Nat.le_refl _) (by omega)) ⟨rfl, rfl⟩)
  | succ e ih =>
    intro c hc
    have hI : sp_cv n k v (cw_up I1 9 (sp_mp (sp_ro w k st len) f c)) := h.up (by decide) (by decide)
    refine tbX3_rotateThrough_16_8 (br_f (by rw [hI.1]; exact nI_ge (by omega) (by omega)) ⟨vp_in_nI (by omega) (by omega), ?_⟩)
    rw [nI_clamp (by omega), nI_1, show (cw_up I1 9 (sp_mp (sp_ro w k st len) f c)) 9 c = f c by show sp_mp (sp_ro w k st len) f c c = _; exact sp_mp_at _ _ _]
    refine ⟨_, _, sc_ownerAfter (I := cw_up I1 9 (sp_mp (sp_ro w k st len) f c)) hlen hl1 h17 (f c), vp_in_nI (by omega) (by omega), ?_⟩
    have e9 : cw_st (cw_up I1 9 (sp_mp (sp_ro w k st len) f c)) 9 c (sp_ro w k st len (f c)) = cw_up I1 9 (sp_mp (sp_ro w k st len) f (c + 1)) := by
      show cw_up (cw_up I1 9 _) 9 (upd ((cw_up I1 9 (sp_mp (sp_ro w k st len) f c)) 9) c _) = _
      rw [sp_upup, show (cw_up I1 9 (sp_mp (sp_ro w k st len) f c)) 9 = sp_mp (sp_ro w k st len) f c by simp [cw_up], sp_mp_upd]
    rw [e9]
    exact ih (c + 1) (by omega)
theorem sc_rotateThrough (h : sp_cv n k v I) (ho : ∀ c, c < n → I 9 c = ow c) {st len : Nat} (hst : st < k) (hl : sp_len (sp_w v ow n) k st = some len) : ∃ f17 f18 f19 : Nat → Int32, cw_C (cc_w K) mX3_rotateThrough [.ref (cw_a (cc_w K) 16), .int (nI st)] I (some (.int (nI len))) (cw_up (sp_cyI I f17 f18 f19) 9 (sp_mp (sp_ro (sp_w v ow n) k st len) (I 9) n)) := by
  have hk := h.2.2.2.1
  obtain ⟨f17, f18, f19, h17, hc⟩ := sc_findCycle (K := K) h ho hst
  obtain ⟨b1, b2, -⟩ := sp_len_spec hl
  rw [hl] at hc
  refine ⟨f17, f18, f19, eX3_rotateThrough_16 ⟨_, _, hc, ?_⟩⟩
  have hI : sp_cv n k v (sp_cyI I f17 f18 f19) := ((h.up (o := 19) (f := f19) (by decide) (by decide)).up (o := 18) (f := f18) (by decide) (by decide)).up (by decide) (by decide)
  have h1 := sl_rotate (K := K) (I1 := sp_cyI I f17 f18 f19) hI (w := sp_w v ow n) (st := st) (len := len) (by omega) (by omega) (fun p hp => by
    show f17 p = _
    exact h17 len hl p hp) (I 9) n 0 (by omega)
  rw [sp_mp_0, show (I 9) = (sp_cyI I f17 f18 f19) 9 from rfl, sp_upself] at h1
  exact h1
end ROT
