/-! ## load, both sides -/
section LOA
variable {K : cw_K} {I J : cw_M} {L n : Nat}
abbrev sp_bc (I : cw_M) : cw_M := cw_up (cw_up (cw_up (cw_st (cw_st I 5 0 (I 10 0)) 5 1 (I 10 1)) 6 (va_cpy (I 11) (I 6) 0 0 36)) 7 (va_cpy (I 12) (I 7) 0 0 6)) 8 (va_cpy (I 13) (I 8) 0 0 144)
theorem sc_become (hn : n ≤ 24) (h : I 10 0 = nI n) : cw_C (cc_w K) mX1_become [.ref (cw_a (cc_w K) 5), .ref (cw_a (cc_w K) 10)] I none (cw_up (sp_bc I) 9 (sp_put (I 9) (-1) 0 n)) := by
  have h1 : cw_C (cc_w K) mX1_assign [.ref (cw_a (cc_w K) 5), .ref (cw_a (cc_w K) 9), .int (-1), .int 0, .int ((sp_bc I) 5 0)] (sp_bc I) none (cw_up (sp_bc I) 9 (sp_put (I 9) (-1) 0 n)) := by
    rw [show (sp_bc I) 5 0 = nI n from h]
    exact sc_assign_9 (K := K) (I := sp_bc I) (x := -1) (a := 0) (e := n) (by omega) hn
  refine eX1_become_5_10 ⟨by decide, by decide, by decide, _, ?_, rfl, rfl⟩
  exact h1
theorem sp_RC.rI {k : Nat} {v : Nat → Nat → Nat} {ow : Nat → Int32} {nl : Nat → Nat} {nb : Nat → Nat → Int32} {I2 : cw_M} {m : Nat → Int32} (h : sp_RC n k v ow nl nb I m) (e : ∀ o, 5 ≤ o → o ≤ 9 → I2 o = I o) : sp_RC n k v ow nl nb I2 m := by
  unfold sp_RC
  rw [e 5 (by omega) (by omega), e 6 (by omega) (by omega), e 7 (by omega) (by omega), e 8 (by omega) (by omega), e 9 (by omega) (by omega)]
  exact h
theorem sp_RU.rI {k u q : Nat} {nl : Nat → Nat} {nb : Nat → Nat → Int32} {I2 : cw_M} {ju : Int32} {m js : Nat → Int32} (h : sp_RU n k nl nb u q I ju m js) (e : ∀ o, 28 ≤ o → I2 o = I o) : sp_RU n k nl nb u q I2 ju m js := by
  unfold sp_RU
  rw [e 28 (by omega), e 29 (by omega), e 30 (by omega), e 31 (by omega)]
  exact h
end LOA
