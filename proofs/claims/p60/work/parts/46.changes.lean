/-! ## the face: changes, both sides -/
section CH
variable {K : cw_K} {I J : cw_M} {n k u q : Nat} {v : Nat → Nat → Nat} {ow : Nat → Int32} {nl : Nat → Nat} {nb : Nat → Nat → Int32}
theorem sp_RU.uI {ju : Int32} {m js : Nat → Int32} (h : sp_RU n k nl nb u q I ju m js) : I 28 0 = nI u := h.1
theorem sp_RU.qI {ju : Int32} {m js : Nat → Int32} (h : sp_RU n k nl nb u q I ju m js) : I 28 2 = nI q := h.2.1
theorem sp_RU.uJ {ju : Int32} {m js : Nat → Int32} (h : sp_RU n k nl nb u q I ju m js) : ju = nI u := h.2.2.1
theorem sp_RU.u6 {ju : Int32} {m js : Nat → Int32} (h : sp_RU n k nl nb u q I ju m js) : u ≤ 6 := h.2.2.2.1
theorem sp_RU.q6 {ju : Int32} {m js : Nat → Int32} (h : sp_RU n k nl nb u q I ju m js) : q < 6 := h.2.2.2.2.1
theorem sp_shv (g m : Nat → Int32) {c : Nat} (hc : c < 24) : sp_sh g m (2 + c) = g c := by
  unfold sp_sh
  rw [if_pos (by omega), show 2 + c - 2 = c by omega]
theorem sp_sh_el (g m : Nat → Int32) : ∀ j, ¬ (2 ≤ j ∧ j < 26) → sp_sh g m j = m j := fun j hj => by
  unfold sp_sh
  rw [if_neg hj]
theorem sp_cnt_congr {f g : Nat → Int32} {o : Int32} (h : ∀ c, c < n → f c = g c) : sp_cnt f o n = sp_cnt g o n := sp_s_congr fun j hj => by
  show (if f j = o then 1 else 0) = (if g j = o then 1 else 0)
  rw [h j hj]
theorem sp_RC.gI {m : Nat → Int32} (h : sp_RC n k v ow nl nb I m) : ∀ c, c < n → sp_okw k (I 9 c) := fun c hc => by
  rw [h.oI c hc]; exact h.2.2.2.2.1.2 c hc
/-! two siblings -/
theorem sc_requireDifferent {x y : Int32} (h : x ≠ y) : cw_C (cc_w K) mX10_requireDifferent [.ref (cw_a (cc_w K) 0), .int x, .int y] I none I := eX10_requireDifferent_0 ⟨fun _ => ⟨rfl, rfl⟩, fun q => absurd q h⟩
end CH
