/-! ## the face: worth, mildness, the cycle's length -/
section FAC4
variable {K : cw_K} {I J : cw_M} {n k : Nat} {v : Nat → Nat → Nat} {ow : Nat → Int32}
abbrev sp_rng (n : Nat) (x y : Int32) : Prop := (0 ≤ x ∧ x < nI n) ∧ (0 ≤ y ∧ y < nI n) ∧ ¬ y < x
theorem sp_rng_of {n a e : Nat} (hn : n ≤ 24) (ha : a ≤ e) (he : e < n) : sp_rng n (nI a) (nI e) := ⟨sp_inB_of (by omega) (by omega), sp_inB_of (by omega) he, fun z => absurd ((nI_ltI (by omega) (by omega)).mp z) (by omega)⟩
theorem fc_isMild (h : sp_cv n k v I) (ho : ∀ c, c < n → I 9 c = ow c) {s o : Nat} (hs : s < k) (hs2 : o < k) (he : sp_envy v ow n s o) : cw_C (cc_w K) mX10_isMild [.ref (cw_a (cc_w K) 0), .int (nI s), .int (nI o)] I (some (.int (if ¬ sp_strong v ow n s o then 1 else 0))) I := by
  have hk := h.2.2.2.1
  refine eX10_isMild_0 ⟨_, sc_requireSibling h (sp_inB_of (by omega) hs), _, sc_requireSibling h (sp_inB_of (by omega) hs2), _, _, sc_hasEnvy h ho hs, fun _ => ⟨_, _, sc_hasStrongEnvy h ho hs, fun q => ?_, fun q => ?_⟩, fun q => sp_bit0 q he⟩
  · rw [if_neg (fun z => z (sp_bit1 q))]; exact ⟨rfl, rfl⟩
  · rw [if_pos (sp_bit0 q)]; exact ⟨rfl, rfl⟩
theorem fc_envyCycleLength (h : sp_cv n k v I) (ho : ∀ c, c < n → I 9 c = ow c) {s : Nat} (hs : s < k) : ∃ f17 f18 f19, cw_C (cc_w K) mX10_envyCycleLength [.ref (cw_a (cc_w K) 0), .int (nI s)] I (some (.int (sp_oi (sp_len (sp_w v ow n) k s)))) (sp_cyI I f17 f18 f19) := by
  have hk := h.2.2.2.1
  obtain ⟨f17, f18, f19, -, h1⟩ := sc_findCycle (K := K) h ho hs
  exact ⟨f17, f18, f19, eX10_envyCycleLength_0 ⟨_, sc_requireSibling h (sp_inB_of (by omega) hs), _, _, h1, rfl, rfl⟩⟩
end FAC4
