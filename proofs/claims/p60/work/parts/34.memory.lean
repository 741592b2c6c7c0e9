/-! ## earlier states: the class -/
/-- the ints behind keep at the place p, and behind bringBack from it -/
abbrev sp_kp (I : cw_M) (p : Nat) : cw_M := cw_up (cw_up I 30 (va_cpy (I 9) (I 30) 0 (p * 24) 24)) 31 (va_cpy (I 8) (I 31) 0 (p * 144) 144)
abbrev sp_bb (I : cw_M) (p : Nat) : cw_M := cw_up (cw_up I 9 (va_cpy (I 30) (I 9) (p * 24) 0 24)) 8 (va_cpy (I 31) (I 8) (p * 144) 0 144)
section MEMC
variable {K : cw_K} {I : cw_M} {n k : Nat} {v : Nat → Nat → Nat} {ow : Nat → Int32}
theorem sp_plc {p m : Nat} (hp : p < 8) (hm : m ≤ 144) : nI p * nI m = nI (p * m) ∧ ¬ nI (p * m) < 0 ∧ (nI (p * m)).toNatClampNeg = p * m := by
  have h1 : p * m ≤ 7 * 144 := Nat.mul_le_mul (by omega) hm
  refine ⟨sp_mul p m, fun z => ?_, nI_clamp (by omega)⟩
  exact absurd ((nI_ltI (b := 0) (by omega) (by omega)).mp z) (by omega)
theorem sc_keep {p : Nat} (hp : p < 8) : cw_C (cc_w K) mX4_keep [.ref (cw_a (cc_w K) 28), .int (nI p), .ref (cw_a (cc_w K) 5)] I none (sp_kp I p) := by
  obtain ⟨a1, a2, a3⟩ := sp_plc hp (show 24 ≤ 144 by omega)
  obtain ⟨b1, b2, b3⟩ := sp_plc hp (show 144 ≤ 144 by omega)
  refine eX4_keep_28_5 ?_
  rw [show nI p * 24 = nI (p * 24) from a1, show nI p * 144 = nI (p * 144) from b1, a3, b3]
  refine ⟨⟨by decide, a2, by decide, by decide, ?_⟩, ⟨by decide, b2, by decide, by decide, ?_⟩, rfl, rfl⟩
  · show p * 24 + 24 ≤ 192
    omega
  · show p * 144 + 144 ≤ 1152
    omega
/-- the place behind the place q of the ring, and before it -/
abbrev sp_nq (q : Nat) : Nat := if q + 1 < 6 then q + 1 else 0
theorem sc_remember {q u : Nat} (hq : I 28 2 = nI q) (hq6 : q < 6) (hu : I 28 0 = nI u) (hu6 : u ≤ 6) : cw_C (cc_w K) mX4_rememberForUndo [.ref (cw_a (cc_w K) 28), .ref (cw_a (cc_w K) 5)] I none (cw_st (cw_st (sp_kp I q) 28 2 (nI (sp_nq q))) 28 0 (nI (min (u + 1) 6))) := by
  have e2 : (sp_kp I q) 28 2 = nI q := hq
  have e0 : ∀ y, (cw_st (sp_kp I q) 28 2 y) 28 0 = nI u := fun y => by
    show (if (0 : Nat) = 2 then y else (sp_kp I q) 28 0) = _
    rw [if_neg (by decide)]
    exact hu
  have hm : (if (6 : Int32) < nI (u + 1) then (6 : Int32) else nI (u + 1)) = nI (min (u + 1) 6) := by
    by_cases z : 6 < u + 1
    · rw [if_pos (show (6 : Int32) < nI (u + 1) from nI_lt (a := 6) z (by omega)), Nat.min_eq_right (by omega)]
      rfl
    · rw [if_neg (show ¬ (6 : Int32) < nI (u + 1) from fun y => z ((nI_ltI (a := 6) (by omega) (by omega)).mp y)), Nat.min_eq_left (by omega)]
  refine eX4_rememberForUndo_28_5 ?_
  rw [hq]
  refine ⟨_, sc_keep (show q < 8 by omega), ?_⟩
  rw [e2, nI_1, e0, e0, nI_1, hm]
  refine ⟨fun z => ⟨rfl, ?_⟩, fun z => ⟨rfl, ?_⟩⟩
  · have z2 := (nI_leI (a := 6) (by omega) (by omega)).mp z
    rw [show sp_nq q = 0 from if_neg (by omega)]
    rfl
  · have z2 : ¬ 6 ≤ q + 1 := fun y => z (nI_le (a := 6) y (by omega))
    rw [show sp_nq q = q + 1 from if_pos (by omega)]
theorem sc_forgetAll : cw_C (cc_w K) mX4_forgetAll [.ref (cw_a (cc_w K) 28)] I none (cw_st (cw_st (cw_st I 28 0 0) 29 0 (vp_nar .boolean 0)) 29 1 (vp_nar .boolean 0)) := by
  refine eX4_forgetAll_28 (tbX4_forgetAll_28_7 (br_f (by decide) ⟨vp_in_nI (n := 0) (N := 2) (by omega) (by omega), ?_⟩))
  refine tbX4_forgetAll_28_7 (br_f (by decide) ⟨vp_in_nI (n := 1) (N := 2) (by omega) (by omega), ?_⟩)
  exact tbX4_forgetAll_28_7 (br_t (by decide) ⟨rfl, rfl⟩)
end MEMC
