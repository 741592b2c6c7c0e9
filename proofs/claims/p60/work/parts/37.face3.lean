/-! ## the face: value, satisfaction, exchanges wanted -/
section FAC3
variable {K : cw_K} {I J : cw_M} {n k : Nat} {v : Nat → Nat → Nat} {ow : Nat → Int32}
theorem fc_value (h : sp_cv n k v I) {s c : Nat} (hs : s < k) (hc : c < n) : cw_C (cc_w K) mX10_value [.ref (cw_a (cc_w K) 0), .int (nI s), .int (nI c)] I (some (.int (nI (v s c)))) I :=
  have hk := h.2.2.2.1
  have hn := h.2.2.1
  eX10_value_0 ⟨_, sc_requireSibling h (sp_inB_of (by omega) hs), _, sc_requireCell h (sp_inB_of (by omega) hc), _, _, sc_valueOf h hs hc, rfl, rfl⟩
end FAC3
