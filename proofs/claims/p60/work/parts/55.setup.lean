/-! ## reading a setup, load: both sides -/
section SET
variable {K : cw_K} {I J I0 J0 : cw_M} {L n : Nat}
/-- the outcome of reading a setup -/
def set_o (n : Nat) (I0 J0 : cw_M) (b : Int32) (I2 J2 : cw_M) : Prop := (b = 0 ∧ sp_RE I2 J2 ∧ fs I0 J0 I2 J2) ∨ (b = 1 ∧ fs I0 J0 I2 J2 ∧ sp_RE I2 J2 ∧ ∃ k v nl nb, 1 ≤ k ∧ k ≤ 6 ∧ I2 10 1 = nI k ∧ su n k k 0 v nl nb I2 J2)
theorem cu_RE {kd a e : Nat} {va : Int32} (hc : cu L kd a e va I J) : sp_RE I J := hc.2.2.2.2.2.2.2.2.2
/-- the first j places zero -/
def zr (f : Nat → Int32) (i : Nat) : Nat → Int32 := fun j => if j < i then 0 else f j
theorem sr_zero {r : Option Value} {F : cw_M} (hFC : cw_FC K) (h : bY11_parseSetup_0_2 K r F (nI 212) (cw_up J 1 (zr (J 1) 212))) : bY11_parseSetup_0_2 K r F (nI 0) J := by
  have loop : ∀ d i : Nat, i + d = 212 → bY11_parseSetup_0_2 K r F (nI i) (cw_up J 1 (zr (J 1) i)) := by
    intro d
    induction d with
    | zero =>
      intro i hi
      rw [show i = 212 by omega]
      exact h
    | succ d ih =>
      intro i hi
      refine tbY11_parseSetup_0_2 hFC (br_f (fun z => absurd ((nI_leI (a := 212) (by omega) (by omega)).mp z) (by omega)) ⟨vp_in_nI (by omega) (by omega), ?_⟩)
      have h1 := ih (i + 1) (by omega)
      have e1 : upd (zr (J 1) i) i 0 = zr (J 1) (i + 1) := by
        funext j
        simp only [upd, zr]
        by_cases z : j = i
        · rw [if_pos z, if_pos (by omega)]
        · rw [if_neg z]
          by_cases y : j < i
          · rw [if_pos y, if_pos (by omega)]
          · rw [if_neg y, if_neg (by omega)]
      rw [nI_clamp (by omega), nI_1, tp_upst, e1]
      exact h1
  have h1 := loop 212 0 (by omega)
  have e2 : zr (J 1) 0 = J 1 := by
    funext j
    unfold zr
    rw [if_neg (by omega)]
  rw [e2, sp_upself] at h1
  exact h1
theorem fs.refl (I J : cw_M) : fs I J I J := ⟨fun _ _ _ => rfl, fun _ _ _ => rfl, fun _ _ _ _ => rfl, fun _ _ => rfl⟩
end SET
