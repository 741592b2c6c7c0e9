/-! ## pieces on average; guards, both sides -/
/-- what is asked of a number is a number below -/
theorem sp_inB {x : Int32} {k : Nat} (hk : k < 2 ^ 31) (h : 0 ≤ x ∧ x < nI k) : ∃ s, s < k ∧ x = nI s := by
  obtain ⟨h1, h2⟩ := h
  rw [Int32.le_iff_toInt_le] at h1
  rw [Int32.lt_iff_toInt_lt, nI_toInt hk] at h2
  have h0 : (0 : Int32).toInt = 0 := by decide
  rw [h0] at h1
  refine ⟨x.toInt.toNat, by omega, sp_nat_of (by omega) (by omega)⟩
theorem sp_inB_of {s k : Nat} (hk : k < 2 ^ 31) (hs : s < k) : 0 ≤ nI s ∧ nI s < nI k := ⟨nI_le (a := 0) (Nat.zero_le s) (by omega), nI_lt hs hk⟩
section GUAC
variable {K : cw_K} {I : cw_M} {n k : Nat} {v : Nat → Nat → Nat} {ow : Nat → Int32}
theorem sc_hasRun (h : sp_cv n k v I) {x y : Int32} : cw_C (cc_w K) mX1_hasRun [.ref (cw_a (cc_w K) 5), .int x, .int y] I (some (.int (if (0 ≤ x ∧ x < nI n) ∧ (0 ≤ y ∧ y < nI n) ∧ ¬ y < x then 1 else 0))) I := by
  refine eX1_hasRun_5 ⟨_, _, sc_hasCell h, fun q => ?_, fun q => ⟨_, _, sc_hasCell h, fun q2 => ?_, fun q2 => ⟨fun q3 => ?_, fun q3 => ?_⟩⟩⟩
  · rw [if_neg (fun z => sp_bit0 q z.1)]; exact ⟨rfl, rfl⟩
  · rw [if_neg (fun z => sp_bit0 q2 z.2.1)]; exact ⟨rfl, rfl⟩
  · rw [if_neg (fun z => z.2.2 q3)]; exact ⟨rfl, rfl⟩
  · rw [if_pos ⟨sp_bit1 q, sp_bit1 q2, q3⟩]; exact ⟨rfl, rfl⟩
theorem sc_requireSibling (h : sp_cv n k v I) {x : Int32} (hx : 0 ≤ x ∧ x < nI k) : cw_C (cc_w K) mX10_requireSibling [.ref (cw_a (cc_w K) 0), .int x] I none I :=
  eX10_requireSibling_0 ⟨_, _, sc_hasSibling h, fun _ => ⟨rfl, rfl⟩, fun q => sp_bit0 q hx⟩
theorem sc_requireCell (h : sp_cv n k v I) {x : Int32} (hx : 0 ≤ x ∧ x < nI n) : cw_C (cc_w K) mX10_requireCell [.ref (cw_a (cc_w K) 0), .int x] I none I :=
  eX10_requireCell_0 ⟨_, _, sc_hasCell h, fun _ => ⟨rfl, rfl⟩, fun q => sp_bit0 q hx⟩
theorem sc_requireRun (h : sp_cv n k v I) {x y : Int32} (hx : (0 ≤ x ∧ x < nI n) ∧ (0 ≤ y ∧ y < nI n) ∧ ¬ y < x) : cw_C (cc_w K) mX10_requireRun [.ref (cw_a (cc_w K) 0), .int x, .int y] I none I :=
  eX10_requireRun_0 ⟨_, _, sc_hasRun h, fun _ => ⟨rfl, rfl⟩, fun q => sp_bit0 q hx⟩
end GUAC
section GUAR
variable {K : cw_K} {J : cw_M} {n k : Nat} {v : Nat → Nat → Nat} {ow : Nat → Int32}
theorem sp_st_at (J : cw_M) (o p : Nat) (x : Int32) : (cw_st J o p x) o p = x := by simp [cw_st, cw_up, upd]
end GUAR
