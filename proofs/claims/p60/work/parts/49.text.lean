/-! ## the texts: append, truncate, findSibling, writeOwners, outputByte; both sides step by step -/
def sp_TL (L : Nat) (I J : cw_M) : Prop := L ≤ 600 ∧ I 1 1 = nI L ∧ J 0 4 = nI L ∧ ∀ j, j < L → I 2 j = J 3 j
section TXT
variable {K : cw_K} {I J : cw_M} {n k u q : Nat} {v : Nat → Nat → Nat} {ow : Nat → Int32} {nl : Nat → Nat} {nb : Nat → Nat → Int32}
theorem sp_upd_same (f : Nat → Int32) (i : Nat) (x : Int32) : upd f i x i = x := by simp only [upd, if_true]
theorem sp_upd_ne (f : Nat → Int32) {i j : Nat} (x : Int32) (h : j ≠ i) : upd f i x j = f j := by simp only [upd, if_neg h]
/-- one more byte of both inputs -/
theorem sp_TL.push {L : Nat} (h : sp_TL L I J) (hL : L < 600) (b : Int32) : sp_TL (L + 1) (cw_st (cw_st I 2 L b) 1 1 (nI (L + 1))) (cw_st (cw_st J 3 L b) 0 4 (nI (L + 1))) := by
  obtain ⟨h1, h2, h3, h4⟩ := h
  refine ⟨by omega, rfl, rfl, fun j hj => ?_⟩
  show upd (I 2) L b j = upd (J 3) L b j
  by_cases z : j = L
  · rw [z, sp_upd_same, sp_upd_same]
  · rw [sp_upd_ne _ _ z, sp_upd_ne _ _ z]; exact h4 j (by omega)
/-! writing -/
end TXT
