/-! ## the reference's knife -/
theorem sp_rv.up {J : cw_M} {n k : Nat} {v : Nat → Nat → Nat} (h : sp_rv n k v J) {o : Nat} {f : Nat → Int32} (h1 : o ≠ 1) : sp_rv n k v (cw_up J o f) := by
  have e1 : cw_up J o f 1 = J 1 := by simp only [cw_up]; rw [if_neg (Ne.symm h1)]
  unfold sp_rv
  rw [e1]
  exact h
section CLR
variable {K : cw_K} {J : cw_M} {n k : Nat} {v : Nat → Nat → Nat}
theorem sl_clear (h : sp_rv n k v J) (g : Nat → Int32) : ∀ d i : Nat, i + d = n → bY11_clear_0_2 K none (cw_up J 1 (sp_sh (sp_put g (-1) 0 n) (J 1))) (nI i) (cw_up J 1 (sp_sh (sp_put g (-1) 0 i) (J 1))) := by
  have hn := h.2.2.1
  intro d
  induction d with
  | zero =>
    intro i hi
    have e : i = n := by omega
    rw [e]
    exact tbY11_clear_0_2 (br_t (by rw [(h.sh _).1]; exact nI_le (Nat.le_refl _) (by omega)) ⟨rfl, rfl⟩)
  | succ d ih =>
    intro i hi
    have h1 := ih (i + 1) (by omega)
    refine tbY11_clear_0_2 (br_f (by rw [(h.sh _).1]; exact nI_ge (by omega) (by omega)) ?_)
    rw [sp_ix2, nI_clamp (by omega), nI_1, sp_sh_st J _ (by omega)]
    have e : upd (sp_put g (-1) 0 i) i (-1) = sp_put g (-1) 0 (i + 1) := by
      funext j
      unfold upd sp_put
      by_cases hj : j = i
      · subst hj; rw [if_pos rfl, if_pos (by omega)]
      · rw [if_neg hj]
        by_cases h2 : 0 ≤ j ∧ j < i
        · rw [if_pos h2, if_pos (by omega)]
        · rw [if_neg h2, if_neg (by omega)]
    rw [e]
    exact ⟨vp_in_nI (by omega) (by omega), h1⟩
theorem sr_clear (h : sp_rv n k v J) : rw_C K mY11_clear [.ref (cw_a (cc_w K) 0)] J none (cw_up J 1 (sp_sh (sp_put (fun c => J 1 (2 + c)) (-1) 0 n) (J 1))) := by
  have h1 := sl_clear (K := K) h (fun c => J 1 (2 + c)) n 0 (by omega)
  rw [sp_put_nil, sp_sh_self] at h1
  exact eY11_clear_0 h1
end CLR
