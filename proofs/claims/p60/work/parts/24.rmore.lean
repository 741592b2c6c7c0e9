/-! ## blocks copied, shares exchanged, enviers, strong envies: the reference -/
theorem sp_upd_upd (f : Nat → Int32) (c : Nat) (x y : Int32) : upd (upd f c x) c y = upd f c y := by
  funext j
  unfold upd
  by_cases z : j = c
  · rw [if_pos z, if_pos z]
  · rw [if_neg z, if_neg z, if_neg z]
theorem sp_upd_self (f : Nat → Int32) (c : Nat) : upd f c (f c) = f := by
  funext j
  unfold upd
  by_cases z : j = c
  · rw [if_pos z, z]
  · rw [if_neg z]
section RMO
variable {K : cw_K} {J : cw_M} {n k : Nat} {v : Nat → Nat → Nat} {ow : Nat → Int32}
end RMO
