/-! ## blocks copied, shares exchanged, enviers, strong envies: the reference -/
/-- block b overwritten by the first m places of block a -/
def sp_cbp (f : Nat → Int32) (a b m : Nat) : Nat → Int32 := fun j => if b * 212 ≤ j ∧ j < b * 212 + m then f (a * 212 + (j - b * 212)) else f j
abbrev sp_cb (f : Nat → Int32) (a b : Nat) : Nat → Int32 := sp_cbp f a b 212
theorem sp_rv.st0 {J : cw_M} {n k : Nat} {v : Nat → Nat → Nat} (h : sp_rv n k v J) (p : Nat) (x : Int32) : sp_rv n k v (cw_st J 0 p x) := h.up (o := 0) (by decide)
theorem sp_upd_upd (f : Nat → Int32) (c : Nat) (x y : Int32) : upd (upd f c x) c y = upd f c y := by
  funext j
  unfold upd
  by_cases z : j = c
  · rw [if_pos z, if_pos z]
  · rw [if_neg z, if_neg z, if_neg z]
theorem sp_upd_self (f : Nat → Int32) (c : Nat) : upd f c (f c) = f := by
  funext j
  unfold upd
  by_cases z : j = c
  · rw [if_pos z, z]
  · rw [if_neg z]
section RMO
variable {K : cw_K} {J : cw_M} {n k : Nat} {v : Nat → Nat → Nat} {ow : Nat → Int32}
end RMO
