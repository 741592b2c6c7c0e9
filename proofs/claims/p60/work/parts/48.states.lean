/-! ## the face: undo, save, restore; inconsistencies; nameByte -/
section STA
variable {K : cw_K} {I J : cw_M} {n k u q : Nat} {v : Nat → Nat → Nat} {ow : Nat → Int32} {nl : Nat → Nat} {nb : Nat → Nat → Int32}
theorem sp_le1 {x : Int32} : (x ≤ 1) = (x < 2) := by
  have h := sp_pred (x := x) (m := 2) (by omega)
  rw [show nI 2 - 1 = 1 by decide, show nI 2 = 2 from rfl] at h
  exact h
/-! inconsistencies -/
def sp_inc (ow : Nat → Int32) (n : Nat) : Nat → Int32
  | 0 => nI n - nI (sp_cnt ow (-1) n)
  | i + 1 => sp_inc ow n i - nI (sp_cnt ow (nI i) n)
theorem sl_inconsistencies (h : sp_cv n k v I) (ho : ∀ c, c < n → I 9 c = ow c) : ∀ d i : Nat, i + d = k → bX10_inconsistencies_0_19 K (some (.int (sp_inc ow n k))) I (sp_inc ow n i) (nI i) I := by
  have hk := h.2.2.2.1
  intro d
  induction d with
  | zero =>
    intro i hi
    have e0 : i = k := by omega
    subst e0
    exact tbX10_inconsistencies_0_19 (br_t (by rw [h.2.1]; exact Int32.le_refl _) ⟨rfl, rfl⟩)
  | succ d ih =>
    intro i hi
    refine tbX10_inconsistencies_0_19 (br_f (by rw [h.2.1]; exact fun z => absurd ((nI_leI (by omega) (by omega)).mp z) (by omega)) ⟨_, _, sc_countOwned h ho (nI i), _, _, sc_hasEnvy h ho (show i < k by omega), fun _ => ?_, fun q => absurd (sp_bit1 q) (Nat.lt_irrefl _)⟩)
    rw [nI_1]
    exact ih (i + 1) (by omega)
/-! names -/
theorem sp_6 (s c : Nat) : nI s * 6 + nI c = nI (s * 6 + c) := sp_ix 6 s c
theorem sp_ixn (s : Nat) : 26 + nI s * 31 = nI (26 + s * 31) := by
  rw [show nI s * 31 = nI (s * 31) from sp_mul s 31]
  exact nI_add 26 (s * 31)
theorem sp_ixn2 (s i : Nat) : 26 + nI s * 31 + 1 + nI i = nI (27 + s * 31 + i) := by
  rw [sp_ixn, show nI (26 + s * 31) + 1 = nI (26 + s * 31 + 1) from nI_add _ 1, nI_add]
  congr 1
  omega
end STA
