/-! ## earlier states: the reference -/
/-- the blocks 2 .. i + 1 moved one down -/
def sp_shf (f : Nat → Int32) : Nat → Nat → Int32
  | 0 => f
  | i + 1 => sp_cb (sp_shf f i) (i + 2) (i + 1)
section RMEM
variable {K : cw_K} {J : cw_M}
theorem sr_remember0 {u : Nat} (hu : J 0 2 = nI u) (hu6 : u < 6) : cw_C (cr_w K) mX11_remember [.ref (cw_a (cr_w K) 0), .int (nI 0)] J none (cw_up (cw_st J 0 2 (nI (u + 1))) 1 (sp_cb (J 1) 0 (u + 1))) := by
  have h1 := sr_copyBlock (K := K) (J := cw_st J 0 2 (nI (u + 1))) (a := 0) (b := u + 1) (by omega) (by omega) (by omega)
  refine eX11_remember_0 ⟨fun _ => ⟨_, ?_, rfl, rfl⟩, fun q => ?_⟩
  · rw [sp_st_at, hu, nI_1]
    exact h1
  · rw [hu] at q
    exact absurd ((nI_eq (b := 6) (by omega) (by omega)).mp q) (by omega)
theorem sl_remember (hu : J 0 2 = 6) : ∀ d i : Nat, i + d = 5 → bX11_remember_0_11 K none (cw_up (cw_st J 0 2 6) 1 (sp_cb (sp_shf (J 1) 5) 0 6)) (nI 0) (nI (i + 1)) (cw_up J 1 (sp_shf (J 1) i)) := by
  intro d
  induction d with
  | zero =>
    intro i hi
    have e0 : i = 5 := by omega
    subst e0
    have e1 : (cw_up J 1 (sp_shf (J 1) 5)) 0 2 = 6 := hu
    have e2 : cw_st (cw_st (cw_up J 1 (sp_shf (J 1) 5)) 0 2 5) 0 2 6 = cw_up (cw_st J 0 2 6) 1 (sp_shf (J 1) 5) := by
      funext q j
      by_cases h1 : q = 1
      · subst h1
        rfl
      · by_cases h0 : q = 0
        · subst h0
          show (if j = 2 then 6 else (if j = 2 then 5 else J 0 j)) = (if j = 2 then 6 else J 0 j)
          by_cases z : j = 2
          · rw [if_pos z, if_pos z]
          · rw [if_neg z, if_neg z, if_neg z]
        · simp [cw_st, cw_up, h0, h1]
    have h1 := sr_copyBlock (K := K) (J := cw_up (cw_st J 0 2 6) 1 (sp_shf (J 1) 5)) (a := 0) (b := 6) (by omega) (by omega) (by omega)
    rw [sp_upup, show (cw_up (cw_st J 0 2 6) 1 (sp_shf (J 1) 5)) 1 = sp_shf (J 1) 5 by simp [cw_up]] at h1
    refine tbX11_remember_0_11 (br_t (by decide) ⟨_, ?_, rfl, rfl⟩)
    rw [sp_st_at, sp_st_at, e1, show (6 : Int32) - 1 = 5 by decide, show (5 : Int32) + 1 = 6 by decide, e2]
    exact h1
  | succ d ih =>
    intro i hi
    have h1 := ih (i + 1) (by omega)
    have h2 := sr_copyBlock (K := K) (J := cw_up J 1 (sp_shf (J 1) i)) (a := i + 2) (b := i + 1) (by omega) (by omega) (by omega)
    rw [sp_upup, show (cw_up J 1 (sp_shf (J 1) i)) 1 = sp_shf (J 1) i by simp [cw_up]] at h2
    refine tbX11_remember_0_11 (br_f (fun z => absurd ((nI_leI (a := 6) (by omega) (by omega)).mp z) (by omega)) ?_)
    rw [nI_1]
    exact ⟨_, h2, h1⟩
theorem sr_remember6 (hu : J 0 2 = 6) : cw_C (cr_w K) mX11_remember [.ref (cw_a (cr_w K) 0), .int (nI 0)] J none (cw_up (cw_st J 0 2 6) 1 (sp_cb (sp_shf (J 1) 5) 0 6)) := by
  have h1 := sl_remember (K := K) hu 5 0 (by omega)
  rw [show sp_shf (J 1) 0 = J 1 from rfl, sp_upself] at h1
  exact eX11_remember_0 ⟨fun q => absurd hu q, fun _ => h1⟩
end RMEM
