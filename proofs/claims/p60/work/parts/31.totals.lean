/-! ## totals, both sides -/
/-- the total welfare of the first m -/
abbrev sp_tw (v : Nat → Nat → Nat) (ow : Nat → Int32) (n m : Nat) : Nat := sp_s (fun s => sp_w v ow n s s) m
section TOTC
variable {K : cw_K} {I : cw_M} {n k : Nat} {v : Nat → Nat → Nat} {ow : Nat → Int32}
theorem sl_totalWelfare (h : sp_cv n k v I) (ho : ∀ c, c < n → I 9 c = ow c) : ∀ d i : Nat, i + d = k → bX10_totalWelfare_0_4 K (some (.int (nI (sp_tw v ow n k)))) I (nI (sp_tw v ow n i)) (nI i) I := by
  have hk := h.2.2.2.1
  intro d
  induction d with
  | zero =>
    intro i hi
    have : i = k := by omega
    subst this
    exact tbX10_totalWelfare_0_4 (br_t (by rw [h.2.1]; exact nI_le (Nat.le_refl _) (by omega)) ⟨rfl, rfl⟩)
  | succ d ih =>
    intro i hi
    have h1 := ih (i + 1) (by omega)
    refine tbX10_totalWelfare_0_4 (br_f (by rw [h.2.1]; exact nI_ge (by omega) (by omega)) ⟨_, _, sc_wf h ho (show i < k by omega), ?_⟩)
    rw [nI_add, nI_1]
    exact h1
theorem sc_totalWelfare (h : sp_cv n k v I) (ho : ∀ c, c < n → I 9 c = ow c) : cw_C (cc_w K) mX10_totalWelfare [.ref (cw_a (cc_w K) 0)] I (some (.int (nI (sp_tw v ow n k)))) I :=
  eX10_totalWelfare_0 (sl_totalWelfare h ho k 0 (by omega))
end TOTC
section TOTR
variable {K : cw_K} {J : cw_M} {n k : Nat} {v : Nat → Nat → Nat} {ow : Nat → Int32}
end TOTR
