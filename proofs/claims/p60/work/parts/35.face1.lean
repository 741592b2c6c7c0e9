/-! ## the face: questions about one sibling; fc_ class answers, ft_ class throws, fr_ reference answers, fx_ reference fails -/
section FAC1
variable {K : cw_K} {I J : cw_M} {n k : Nat} {v : Nat → Nat → Nat} {ow : Nat → Int32}
theorem fc_isSatisfied (h : sp_cv n k v I) (ho : ∀ c, c < n → I 9 c = ow c) {s : Nat} (hs : s < k) : cw_C (cc_w K) mX10_isSatisfied [.ref (cw_a (cc_w K) 0), .int (nI s)] I (some (.int (if sp_fair v ow n k s then 1 else 0))) I :=
  have hk := h.2.2.2.1
  eX10_isSatisfied_0 ⟨_, sc_requireSibling h (sp_inB_of (by omega) hs), _, _, sc_hasFairShare h ho hs, sp_bit, rfl, rfl⟩
theorem fc_worthOfShare (h : sp_cv n k v I) (ho : ∀ c, c < n → I 9 c = ow c) {s o : Nat} (hs : s < k) (hs2 : o < k) : cw_C (cc_w K) mX10_worthOfShare [.ref (cw_a (cc_w K) 0), .int (nI s), .int (nI o)] I (some (.int (nI (sp_w v ow n s o)))) I :=
  have hk := h.2.2.2.1
  eX10_worthOfShare_0 ⟨_, sc_requireSibling h (sp_inB_of (by omega) hs), _, sc_requireSibling h (sp_inB_of (by omega) hs2), _, _, sc_w h ho hs, rfl, rfl⟩
theorem fc_envies (h : sp_cv n k v I) (ho : ∀ c, c < n → I 9 c = ow c) {s o : Nat} (hs : s < k) (hs2 : o < k) : cw_C (cc_w K) mX10_envies [.ref (cw_a (cc_w K) 0), .int (nI s), .int (nI o)] I (some (.int (if sp_envy v ow n s o then 1 else 0))) I :=
  have hk := h.2.2.2.1
  eX10_envies_0 ⟨_, sc_requireSibling h (sp_inB_of (by omega) hs), _, sc_requireSibling h (sp_inB_of (by omega) hs2), _, _, sc_hasEnvy h ho hs, sp_bit, rfl, rfl⟩
end FAC1
