/-! ## earlier states: the reference -/
/-- the blocks 2 .. i + 1 moved one down -/
def sp_shf (f : Nat → Int32) : Nat → Nat → Int32
  | 0 => f
  | i + 1 => sp_cb (sp_shf f i) (i + 2) (i + 1)
section RMEM
variable {K : cw_K} {J : cw_M}
end RMEM
