/-! ## the face: the calls of the class that this claim needs and the other one had for both sides at once -/
section FCN
variable {K : cw_K} {I : cw_M} {n k q u : Nat} {v : Nat → Nat → Nat} {ow : Nat → Int32}
theorem fc_swapShares (h : sp_cv n k v I) (hq : I 28 2 = nI q) (hq6 : q < 6) (hu : I 28 0 = nI u) (hu6 : u ≤ 6) {x y : Nat} (hx : x < k) (hy : y < k) (hxy : x ≠ y) : cw_C (cc_w K) mX10_swapShares [.ref (cw_a (cc_w K) 0), .int (nI x), .int (nI y)] I (some (.int (nI (sp_envies v (sp_x (I 9) (nI x) (nI y) n) n k)))) (cw_up (sp_mem I q u) 9 (sp_x (I 9) (nI x) (nI y) n)) := by
  have hk := h.2.2.2.1
  have hM : sp_cv n k v (sp_mem I q u) := sp_mem_cv h
  have hM2 : sp_cv n k v (cw_up (sp_mem I q u) 9 (sp_x (I 9) (nI x) (nI y) n)) := hM.up (by decide) (by decide)
  have h1 : cw_C (cc_w K) mX1_exchangeShares [.ref (cw_a (cc_w K) 5), .int (nI x), .int (nI y)] (sp_mem I q u) none (cw_up (sp_mem I q u) 9 (sp_x (I 9) (nI x) (nI y) n)) := sc_exchangeShares (K := K) hM (nI x) (nI y)
  have h2 := sc_countEnvies (K := K) hM2 (ow := sp_x (I 9) (nI x) (nI y) n) (fun c _ => by simp [cw_up])
  have hne : nI x ≠ nI y := fun e => hxy ((nI_eq (by omega) (by omega)).mp e)
  exact eX10_swapShares_0 ⟨_, sc_requireSibling h (sp_inB_of (by omega) hx), _, sc_requireSibling h (sp_inB_of (by omega) hy), _, sc_requireDifferent hne, _, sc_remember hq hq6 hu hu6, _, h1, _, _, h2, rfl, rfl⟩
theorem fc_setValue (h : sp_cv n k v I) (hq : I 28 2 = nI q) (hq6 : q < 6) (hu : I 28 0 = nI u) (hu6 : u ≤ 6) {s c d : Nat} (hs : s < k) (hc : c < n) (hd : d ≤ 9) : cw_C (cc_w K) mX10_setValue [.ref (cw_a (cc_w K) 0), .int (nI s), .int (nI c), .int (nI d)] I (some (.int (nI (v s c)))) (cw_st (sp_mem I q u) 8 (s * 24 + c) (nI d)) := by
  have hk := h.2.2.2.1
  have hn := h.2.2.1
  have hM : sp_cv n k v (sp_mem I q u) := sp_mem_cv h
  have h1 : cw_C (cc_w K) mX1_valueOf [.ref (cw_a (cc_w K) 5), .int (nI s), .int (nI c)] (sp_mem I q u) (some (.int (nI (v s c)))) (sp_mem I q u) := sc_valueOf hM hs hc
  have h2 : cw_C (cc_w K) mX1_putValue [.ref (cw_a (cc_w K) 5), .int (nI s), .int (nI c), .int (nI d)] (sp_mem I q u) none (cw_st (sp_mem I q u) 8 (s * 24 + c) (nI d)) := sc_putValue (by omega) (by omega)
  exact eX10_setValue_0 ⟨_, sc_requireSibling h (sp_inB_of (by omega) hs), _, sc_requireCell h (sp_inB_of (by omega) hc), fun q => absurd q (nI_pos (by omega)), fun _ => ⟨fun _ => ⟨_, sc_remember hq hq6 hu hu6, _, _, h1, _, h2, rfl, rfl⟩, fun q => absurd (nI_le hd (by omega)) q⟩⟩
theorem fc_divideAndChoose (h : sp_cv n k v I) (hq : I 28 2 = nI q) (hq6 : q < 6) (hu : I 28 0 = nI u) (hu6 : u ≤ 6) {x y : Nat} (hx : x < k) (hy : y < k) (hxy : x ≠ y) : cw_C (cc_w K) mX10_divideAndChoose [.ref (cw_a (cc_w K) 0), .int (nI x), .int (nI y)] I (some (.int (nI (sp_ct v n x n)))) (cw_up (sp_mem I q u) 9 (sp_dv v n x y (I 9))) := by
  have hk := h.2.2.2.1
  have hM : sp_cv n k v (sp_mem I q u) := sp_mem_cv h
  have h1 : cw_C (cc_w K) mX6_cutAndChoose [.ref (cw_a (cc_w K) 20), .int (nI x), .int (nI y)] (sp_mem I q u) (some (.int (nI (sp_ct v n x n)))) (cw_up (sp_mem I q u) 9 (sp_dv v n x y (I 9))) := sc_cutAndChoose (K := K) hM hx hy
  have hne : nI x ≠ nI y := fun e => hxy ((nI_eq (by omega) (by omega)).mp e)
  exact eX10_divideAndChoose_0 ⟨_, sc_requireSibling h (sp_inB_of (by omega) hx), _, sc_requireSibling h (sp_inB_of (by omega) hy), _, sc_requireDifferent hne, _, sc_remember hq hq6 hu hu6, _, _, h1, rfl, rfl⟩
/-- where the cycle's rows lie, the cake stands -/
theorem sp_cyI_cv {f17 f18 f19 : Nat → Int32} (h : sp_cv n k v I) : sp_cv n k v (sp_cyI I f17 f18 f19) := ((h.up (o := 19) (by decide) (by decide)).up (o := 18) (by decide) (by decide)).up (o := 17) (by decide) (by decide)
theorem fc_rotate (h : sp_cv n k v I) (ho : ∀ c, c < n → I 9 c = ow c) (hq : I 28 2 = nI q) (hq6 : q < 6) (hu : I 28 0 = nI u) (hu6 : u ≤ 6) {s len : Nat} (hs : s < k) (hl : sp_len (sp_w v ow n) k s = some len) : ∃ f17 f18 f19 g17 g18 g19 : Nat → Int32, cw_C (cc_w K) mX10_rotate [.ref (cw_a (cc_w K) 0), .int (nI s)] I (some (.int (nI len))) (cw_up (sp_cyI (sp_mem (sp_cyI I f17 f18 f19) q u) g17 g18 g19) 9 (sp_mp (sp_ro (sp_w v ow n) k s len) (I 9) n)) := by
  have hk := h.2.2.2.1
  obtain ⟨f17, f18, f19, -, h1⟩ := sc_findCycle (K := K) h ho hs
  have hM : sp_cv n k v (sp_mem (sp_cyI I f17 f18 f19) q u) := sp_mem_cv (sp_cyI_cv h)
  obtain ⟨g17, g18, g19, h2⟩ := sc_rotateThrough (K := K) (I := sp_mem (sp_cyI I f17 f18 f19) q u) hM ho hs hl
  have e0 := sp_oi_len hk hl
  exact ⟨f17, f18, f19, g17, g18, g19, eX10_rotate_0 ⟨_, sc_requireSibling h (sp_inB_of (by omega) hs), _, _, h1, fun _ => ⟨_, sc_remember (I := sp_cyI I f17 f18 f19) hq hq6 hu hu6, _, _, h2, rfl, rfl⟩, fun q => absurd q e0⟩⟩
theorem fc_envyCycleMember (h : sp_cv n k v I) (ho : ∀ c, c < n → I 9 c = ow c) {s len p : Nat} (hs : s < k) (hl : sp_len (sp_w v ow n) k s = some len) (hp : p < len) : ∃ f17 f18 f19 : Nat → Int32, cw_C (cc_w K) mX10_envyCycleMember [.ref (cw_a (cc_w K) 0), .int (nI s), .int (nI p)] I (some (.int (nI (sp_cy (sp_w v ow n) k s len p)))) (sp_cyI I f17 f18 f19) := by
  have hk := h.2.2.2.1
  obtain ⟨f17, f18, f19, h0, h1⟩ := sc_findCycle (K := K) h ho hs
  have hl6 := sp_len_spec hl
  have e1 : (sp_cyI I f17 f18 f19) 17 (nI p).toNatClampNeg = nI (sp_cy (sp_w v ow n) k s len p) := by
    rw [nI_clamp (by omega)]
    exact h0 len hl p hp
  have hlt : nI p < sp_oi (sp_len (sp_w v ow n) k s) := by
    rw [hl]
    exact nI_lt hp (by omega)
  exact ⟨f17, f18, f19, eX10_envyCycleMember_0 ⟨_, sc_requireSibling h (sp_inB_of (by omega) hs), fun q => absurd q (nI_pos (by omega)), fun _ => ⟨_, _, h1, fun _ => ⟨vp_in_nI (by omega) (by omega), by rw [e1], rfl⟩, fun q => absurd hlt q⟩⟩⟩
theorem fc_inconsistencies (h : sp_cv n k v I) (ho : ∀ c, c < n → I 9 c = ow c) : cw_C (cc_w K) mX10_inconsistencies [.ref (cw_a (cc_w K) 0)] I (some (.int (sp_inc ow n k))) I := by
  refine eX10_inconsistencies_0 ⟨_, _, sc_countOwned h ho (-1), ?_⟩
  rw [h.1]
  exact sl_inconsistencies (K := K) h ho k 0 (by omega)
end FCN
