/-! ## the two worlds as the constructors make them -/
/-- the worlds whose cells begin at S -/
abbrev kn_K (l : Launch) (D : va_G) (cy : Nat → ClassId) (S : Nat) (vd sd sv : Nat → Nat) (F : cw_F) : cw_K := (l, D, cy, fun k => S + k, vd, sd, sv, F)
def kn_I0 : cw_M := fun _ _ => 0
def kn_J0 : cw_M := fun o j => if o = 0 ∧ j = 6 then -1 else 0
set_option maxRecDepth 20000 in
theorem kn_eqC {l : Launch} {D : va_G} {cy : Nat → ClassId} {S : Nat} {vd sd sv : Nat → Nat} {F : cw_F} : kn_full cy S (S + 1) = cw_W (cc_w (kn_K l D cy S vd sd sv F)) kn_I0 := rfl
set_option maxRecDepth 20000 in
theorem kn_eqR {l : Launch} {D : va_G} {cy : Nat → ClassId} {S : Nat} {vd sd sv : Nat → Nat} {F : cw_F} : kn_fullR cy (S + 32) (S + 33) = cw_W (cr_w (kn_K l D cy S vd sd sv F)) kn_J0 := by
  have h : ∀ o j, ¬ (o = 0 ∧ j = 6) → kn_J0 o j = 0 := fun o j h => if_neg h
  rfl
