/-! ## the reference's cake, in the same numbers -/
/-- the reference's ints J hold the cake -/
def sp_rv (n k : Nat) (v : Nat → Nat → Nat) (J : cw_M) : Prop := J 1 0 = nI n ∧ J 1 1 = nI k ∧ n ≤ 24 ∧ k ≤ 6 ∧ sp_dig v n k ∧ ∀ s c, s < k → c < n → J 1 (33 + s * 31 + c) = nI (v s c)
section SPR
variable {K : cw_K} {J : cw_M} {n k : Nat} {v : Nat → Nat → Nat}
theorem sr_in {x : Int32} {a b : Int32} : rw_C K mY11_in [.int x, .int a, .int b] J (some (.int (if a ≤ x ∧ x ≤ b then 1 else 0))) J := by
  refine eY11_in ⟨fun q => ?_, fun q => ⟨fun q2 => ?_, fun q2 => ?_⟩⟩
  · rw [if_neg (fun z => Int32.not_lt.mpr z.1 q)]; exact ⟨rfl, rfl⟩
  · rw [if_neg (fun z => Int32.not_lt.mpr z.2 q2)]; exact ⟨rfl, rfl⟩
  · rw [if_pos ⟨Int32.not_lt.mp q, Int32.not_lt.mp q2⟩]; exact ⟨rfl, rfl⟩
theorem sp_bit {p : Prop} {d : Decidable p} : (@ite Int32 p d 1 0) = 0 ∨ (@ite Int32 p d 1 0) = 1 := by
  by_cases h : p
  · rw [if_pos h]; exact Or.inr rfl
  · rw [if_neg h]; exact Or.inl rfl
theorem sp_bit0 {p : Prop} {d : Decidable p} (h : (@ite Int32 p d 1 0) = 0) : ¬ p := fun z => by rw [if_pos z] at h; exact absurd h (by decide)
theorem sp_bit1 {p : Prop} {d : Decidable p} (h : ¬ (@ite Int32 p d 1 0) = 0) : p := by
  by_cases q : p
  · exact q
  · rw [if_neg q] at h; exact absurd rfl h
/-- x ≤ m - 1 is x < m, for a number m -/
theorem sp_pred {x : Int32} {m : Nat} (h : m < 2 ^ 31) : (x ≤ nI m - 1) = (x < nI m) := by
  apply propext
  rw [Int32.le_iff_toInt_le, Int32.lt_iff_toInt_lt, nI_toInt h]
  have h1 : (nI m - 1).toInt = (m : Int) - 1 := by
    cases m with
    | zero => decide
    | succ m =>
      rw [nI_pred, nI_toInt (by omega)]
      omega
  rw [h1]
  omega
theorem sp_ixr (s c : Nat) : 26 + nI s * 31 + 7 + nI c = nI (33 + s * 31 + c) := by
  have h1 : nI s * 31 = nI (s * 31) := sp_mul s 31
  have h2 : (26 : Int32) + nI (s * 31) = nI (26 + s * 31) := nI_add 26 (s * 31)
  have h3 : nI (26 + s * 31) + 7 = nI (26 + s * 31 + 7) := nI_add (26 + s * 31) 7
  rw [h1, h2, h3, nI_add]
  congr 1
  omega
theorem sp_ix2 (c : Nat) : 2 + nI c = nI (2 + c) := nI_add 2 c
end SPR
