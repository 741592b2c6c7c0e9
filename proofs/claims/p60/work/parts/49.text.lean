/-! ## the texts: append, truncate, findSibling, writeOwners, outputByte; both sides step by step -/
def sp_TL (L : Nat) (I J : cw_M) : Prop := L ≤ 600 ∧ I 1 1 = nI L ∧ J 0 4 = nI L ∧ ∀ j, j < L → I 2 j = J 3 j
section TXT
variable {K : cw_K} {I J : cw_M} {n k u q : Nat} {v : Nat → Nat → Nat} {ow : Nat → Int32} {nl : Nat → Nat} {nb : Nat → Nat → Int32}
theorem sp_upd_same (f : Nat → Int32) (i : Nat) (x : Int32) : upd f i x i = x := by simp only [upd, if_true]
theorem sp_upd_ne (f : Nat → Int32) {i j : Nat} (x : Int32) (h : j ≠ i) : upd f i x j = f j := by simp only [upd, if_neg h]
/-! writing -/
end TXT
