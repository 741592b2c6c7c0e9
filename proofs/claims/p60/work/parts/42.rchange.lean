/-! ## the face: changes, the reference -/
theorem sp_cb_low (f : Nat → Int32) {a b j : Nat} (hb : 1 ≤ b) (hj : j < 212) : sp_cb f a b j = f j := by
  unfold sp_cb sp_cbp
  rw [if_neg (by omega)]
theorem sp_shf_low (f : Nat → Int32) {j : Nat} (hj : j < 212) : ∀ i, sp_shf f i j = f j
  | 0 => rfl
  | i + 1 => by
    show sp_cb (sp_shf f i) (i + 2) (i + 1) j = f j
    rw [sp_cb_low _ (by omega) hj, sp_shf_low f hj i]
/-- the reference's ints with the cake remembered; u: how many could be undone before -/
def sp_rem (J : cw_M) (u : Nat) : cw_M := if u < 6 then cw_up (cw_st J 0 2 (nI (u + 1))) 1 (sp_cb (J 1) 0 (u + 1)) else cw_up (cw_st J 0 2 6) 1 (sp_cb (sp_shf (J 1) 5) 0 6)
theorem sp_rem_low (J : cw_M) (u : Nat) {j : Nat} (hj : j < 212) : (sp_rem J u) 1 j = J 1 j := by
  unfold sp_rem
  by_cases z : u < 6
  · rw [if_pos z]
    show sp_cb (J 1) 0 (u + 1) j = _
    exact sp_cb_low _ (by omega) hj
  · rw [if_neg z]
    show sp_cb (sp_shf (J 1) 5) 0 6 j = _
    rw [sp_cb_low _ (by omega) hj, sp_shf_low _ hj]
section CHGR
variable {K : cw_K} {J : cw_M} {n k u : Nat} {v : Nat → Nat → Nat}
/-- the ints behind 'thrown 0' and 'remember' -/
abbrev sp_R (J : cw_M) (u : Nat) : cw_M := sp_rem (cw_st J 0 9 0) u
end CHGR
