/-! ## the face: setValue, mark, rotate, the cycle's members -/
section CH2
variable {K : cw_K} {I J : cw_M} {n k u q : Nat} {v : Nat → Nat → Nat} {ow : Nat → Int32} {nl : Nat → Nat} {nb : Nat → Nat → Int32}
/-- x is one of the numbers 0 .. m -/
theorem sp_inC {x : Int32} {m : Nat} (hm : m < 2 ^ 30) (h : 0 ≤ x ∧ x ≤ nI m) : ∃ d, d ≤ m ∧ x = nI d := by
  obtain ⟨d, hd, e⟩ := sp_inB (x := x) (k := m + 1) (by omega) ⟨h.1, Int32.lt_of_le_of_lt h.2 (nI_lt (by omega) (by omega))⟩
  exact ⟨d, by omega, e⟩
theorem sc_putValue {s c : Nat} {x : Int32} (hs : s < 6) (hc : c < 24) : cw_C (cc_w K) mX1_putValue [.ref (cw_a (cc_w K) 5), .int (nI s), .int (nI c), .int x] I none (cw_st I 8 (s * 24 + c) x) := by
  refine eX1_putValue_5 ?_
  rw [sp_24]
  exact ⟨vp_in_nI (by omega) (by omega), rfl, by rw [nI_clamp (by omega)]⟩
theorem sp_oi_no : sp_oi none = -1 := rfl
theorem sp_oi_len {w : Nat → Nat → Nat} {st len : Nat} (hk : k ≤ 6) (h : sp_len w k st = some len) : ¬ sp_oi (sp_len w k st) = -1 := by
  have h2 := sp_len_spec h
  rw [h]
  intro z
  have z2 : nI len = -1 := z
  have z3 : (0 : Int32) ≤ nI len := nI_le (a := 0) (by omega) (by omega)
  rw [z2] at z3
  exact absurd z3 (by decide)
/-- a place in a cycle -/
theorem sp_mem_pos {w : Nat → Nat → Nat} {st : Nat} (hk : k ≤ 6) {y : Int32} (h0 : 0 ≤ y) (h : y < sp_oi (sp_len w k st)) : ∃ len p, sp_len w k st = some len ∧ p < len ∧ y = nI p := by
  cases e : sp_len w k st with
  | none =>
    rw [e] at h
    exact absurd (Int32.lt_of_le_of_lt h0 h) (by decide)
  | some len =>
    have h2 := sp_len_spec e
    rw [e] at h
    obtain ⟨p, hp, ep⟩ := sp_inB (x := y) (k := len) (by omega) ⟨h0, h⟩
    exact ⟨len, p, rfl, hp, ep⟩
theorem sp_oi_pred {w : Nat → Nat → Nat} {st : Nat} (hk : k ≤ 6) {y : Int32} (h0 : 0 ≤ y) : (y ≤ sp_oi (sp_len w k st) - 1) = (y < sp_oi (sp_len w k st)) := by
  cases e : sp_len w k st with
  | none =>
    apply propext
    constructor
    · intro z
      exact absurd (Int32.le_trans h0 z) (by decide)
    · intro z
      exact absurd (Int32.lt_of_le_of_lt h0 z) (by decide)
  | some len =>
    have h2 := sp_len_spec e
    exact sp_pred (x := y) (m := len) (by omega)
end CH2
