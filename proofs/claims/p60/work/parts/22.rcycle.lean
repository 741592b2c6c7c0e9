/-! ## envy cycles: the reference -/
section RCY
variable {K : cw_K} {J : cw_M} {n k : Nat} {v : Nat → Nat → Nat} {ow : Nat → Int32}
theorem sp_oi_none {o : Option Nat} (h : ∀ d, o = some d → d < 2 ^ 31) : sp_oi o = -1 ↔ o = none := by
  cases o with
  | none => exact ⟨fun _ => rfl, fun _ => rfl⟩
  | some d => exact ⟨fun z => absurd z (sp_nI_ne d (h d rfl)), fun z => by cases z⟩
theorem sp_oi_some {o : Option Nat} {d : Nat} (hd : d < 2 ^ 31) (h : ∀ e, o = some e → e < 2 ^ 31) : sp_oi o = nI d ↔ o = some d := by
  cases o with
  | none => exact ⟨fun z => absurd z.symm (sp_nI_ne d hd), fun z => by cases z⟩
  | some e => exact ⟨fun z => by rw [(nI_eq (h e rfl) hd).mp z], fun z => by cases z; rfl⟩
end RCY
