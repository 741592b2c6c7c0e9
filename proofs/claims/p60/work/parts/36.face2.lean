/-! ## the face: numbers of the whole cake, and more questions -/
section FAC2
variable {K : cw_K} {I J : cw_M} {n k : Nat} {v : Nat → Nat → Nat} {ow : Nat → Int32}
theorem fc_cellCount (h : sp_cv n k v I) : cw_C (cc_w K) mX10_cellCount [.ref (cw_a (cc_w K) 0)] I (some (.int (nI n))) I := eX10_cellCount_0 ⟨by rw [h.1], rfl⟩
theorem fc_siblingCount (h : sp_cv n k v I) : cw_C (cc_w K) mX10_siblingCount [.ref (cw_a (cc_w K) 0)] I (some (.int (nI k))) I := eX10_siblingCount_0 ⟨by rw [h.2.1], rfl⟩
theorem fc_freeCount (h : sp_cv n k v I) (hk1 : 1 ≤ k) (ho : ∀ c, c < n → I 9 c = ow c) : cw_C (cc_w K) mX10_freeCount [.ref (cw_a (cc_w K) 0)] I (some (.int (nI (sp_cnt ow (-1) n)))) I := eX10_freeCount_0 ⟨_, _, sc_countOwned h ho (-1), rfl, rfl⟩
theorem fc_leastWelfare (h : sp_cv n k v I) (hk1 : 1 ≤ k) (ho : ∀ c, c < n → I 9 c = ow c) : cw_C (cc_w K) mX10_leastWelfare [.ref (cw_a (cc_w K) 0)] I (some (.int (nI (sp_min (fun s => sp_own v ow s (nI s) n) (k - 1))))) I := eX10_leastWelfare_0 ⟨_, _, sc_leastWelfareAmong_9 h hk1 ho, rfl, rfl⟩
theorem fc_strongEnvyCount (h : sp_cv n k v I) (ho : ∀ c, c < n → I 9 c = ow c) : cw_C (cc_w K) mX10_strongEnvyCount [.ref (cw_a (cc_w K) 0)] I (some (.int (nI (sp_strongs v ow n k k)))) I := eX10_strongEnvyCount_0 ⟨_, _, sc_countStrongEnvies h ho, rfl, rfl⟩
theorem fc_owner (h : sp_cv n k v I) (ho : ∀ c, c < n → I 9 c = ow c) {c : Nat} (hc : c < n) : cw_C (cc_w K) mX10_owner [.ref (cw_a (cc_w K) 0), .int (nI c)] I (some (.int (ow c))) I := by
  have hn := h.2.2.1
  refine eX10_owner_0 ⟨_, sc_requireCell h (sp_inB_of (by omega) hc), vp_in_nI (by omega) (by omega), ?_, rfl⟩
  rw [nI_clamp (by omega), ho c hc]
end FAC2
