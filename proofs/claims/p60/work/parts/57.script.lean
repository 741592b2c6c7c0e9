/-! ## reading a script, both sides -/
/-- what reading a script leaves alone -/
def fc (I0 J0 I J : cw_M) : Prop := (∀ o, o ≠ 15 → o ≠ 25 → o ≠ 26 → o ≠ 27 → I o = I0 o) ∧ (∀ o, o ≠ 0 → o ≠ 10 → J o = J0 o) ∧ ∀ p, p < 15 → p ≠ 5 → p ≠ 6 → J 0 p = J0 0 p
theorem fc.refl (I J : cw_M) : fc I J I J := ⟨fun _ _ _ _ _ => rfl, fun _ _ _ => rfl, fun _ _ _ _ => rfl⟩
theorem fc.trans {I0 J0 I J I2 J2 : cw_M} (h : fc I0 J0 I J) (g : fc I J I2 J2) : fc I0 J0 I2 J2 := ⟨fun o h1 h2 h3 h4 => (g.1 o h1 h2 h3 h4).trans (h.1 o h1 h2 h3 h4), fun o h1 h2 => (g.2.1 o h1 h2).trans (h.2.1 o h1 h2), fun p h1 h2 h3 => (g.2.2 p h1 h2 h3).trans (h.2.2 p h1 h2 h3)⟩
theorem kf.fc {I J I2 J2 : cw_M} (h : kf I J I2 J2) : fc I J I2 J2 := ⟨fun o h1 _ _ _ => h.1 o h1, fun o h1 _ => h.2.1 o h1, h.2.2⟩
section SCR
variable {K : cw_K} {I J : cw_M} {L kd a e k : Nat} {va : Int32} {nl : Nat → Nat} {nb : Nat → Nat → Int32}
end SCR
