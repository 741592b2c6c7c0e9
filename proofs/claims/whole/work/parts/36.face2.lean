/-! ## the face: numbers of the whole cake, and more questions -/
section FAC2
variable {K : cw_K} {I J : cw_M} {n k : Nat} {v : Nat → Nat → Nat} {ow : Nat → Int32}
theorem fc_cellCount (h : sp_cv n k v I) : cw_C (cc_w K) mX10_cellCount [.ref (cw_a (cc_w K) 0)] I (some (.int (nI n))) I := eX10_cellCount_0 ⟨by rw [h.1], rfl⟩
theorem fr_cellCount (h : sp_rv n k v J) : cw_C (cr_w K) mX11_cellCount [.ref (cw_a (cr_w K) 0)] J (some (.int (nI n))) (cw_st J 0 9 0) := eX11_cellCount_0 ⟨_, _, sr_plain, by rw [h.1], rfl⟩
theorem fc_siblingCount (h : sp_cv n k v I) : cw_C (cc_w K) mX10_siblingCount [.ref (cw_a (cc_w K) 0)] I (some (.int (nI k))) I := eX10_siblingCount_0 ⟨by rw [h.2.1], rfl⟩
theorem fr_siblingCount (h : sp_rv n k v J) : cw_C (cr_w K) mX11_siblingCount [.ref (cw_a (cr_w K) 0)] J (some (.int (nI k))) (cw_st J 0 9 0) := eX11_siblingCount_0 ⟨_, _, sr_plain, by rw [h.2.1], rfl⟩
theorem fc_freeCount (h : sp_cv n k v I) (hk1 : 1 ≤ k) (ho : ∀ c, c < n → I 9 c = ow c) : cw_C (cc_w K) mX10_freeCount [.ref (cw_a (cc_w K) 0)] I (some (.int (nI (sp_cnt ow (-1) n)))) I := eX10_freeCount_0 ⟨_, _, sc_countOwned h ho (-1), rfl, rfl⟩
theorem fr_freeCount (h : sp_rv n k v J) (hn1 : 1 ≤ n) (hk1 : 1 ≤ k) (ho : ∀ c, c < n → J 1 (2 + c) = ow c) : cw_C (cr_w K) mX11_freeCount [.ref (cw_a (cr_w K) 0)] J (some (.int (nI (sp_cnt ow (-1) n)))) (cw_st J 0 9 0) := eX11_freeCount_0 ⟨_, _, sr_sizeOf h ho (-1), _, _, sr_plain, rfl, rfl⟩
theorem fc_envyCount (h : sp_cv n k v I) (hk1 : 1 ≤ k) (ho : ∀ c, c < n → I 9 c = ow c) : cw_C (cc_w K) mX10_envyCount [.ref (cw_a (cc_w K) 0)] I (some (.int (nI (sp_envies v ow n k)))) I := eX10_envyCount_0 ⟨_, _, sc_countEnvies h ho, rfl, rfl⟩
theorem fr_envyCount (h : sp_rv n k v J) (hn1 : 1 ≤ n) (hk1 : 1 ≤ k) (ho : ∀ c, c < n → J 1 (2 + c) = ow c) : cw_C (cr_w K) mX11_envyCount [.ref (cw_a (cr_w K) 0)] J (some (.int (nI (sp_envies v ow n k)))) (cw_st J 0 9 0) := eX11_envyCount_0 ⟨_, _, sr_envyTotal h ho, _, _, sr_plain, rfl, rfl⟩
theorem fc_satisfiedCount (h : sp_cv n k v I) (hk1 : 1 ≤ k) (ho : ∀ c, c < n → I 9 c = ow c) : cw_C (cc_w K) mX10_satisfiedCount [.ref (cw_a (cc_w K) 0)] I (some (.int (nI (sp_n (fun s => sp_fair v ow n k s) k)))) I := eX10_satisfiedCount_0 ⟨_, _, sc_countFairShares h ho, rfl, rfl⟩
theorem fr_satisfiedCount (h : sp_rv n k v J) (hn1 : 1 ≤ n) (hk1 : 1 ≤ k) (ho : ∀ c, c < n → J 1 (2 + c) = ow c) : cw_C (cr_w K) mX11_satisfiedCount [.ref (cw_a (cr_w K) 0)] J (some (.int (nI (sp_n (fun s => sp_fair v ow n k s) k)))) (cw_st J 0 9 0) := eX11_satisfiedCount_0 ⟨_, _, sr_contentCount h hn1 ho, _, _, sr_plain, rfl, rfl⟩
theorem fc_leastWelfare (h : sp_cv n k v I) (hk1 : 1 ≤ k) (ho : ∀ c, c < n → I 9 c = ow c) : cw_C (cc_w K) mX10_leastWelfare [.ref (cw_a (cc_w K) 0)] I (some (.int (nI (sp_min (fun s => sp_own v ow s (nI s) n) (k - 1))))) I := eX10_leastWelfare_0 ⟨_, _, sc_leastWelfareAmong_9 h hk1 ho, rfl, rfl⟩
theorem fr_leastWelfare (h : sp_rv n k v J) (hn1 : 1 ≤ n) (hk1 : 1 ≤ k) (ho : ∀ c, c < n → J 1 (2 + c) = ow c) : cw_C (cr_w K) mX11_leastWelfare [.ref (cw_a (cr_w K) 0)] J (some (.int (nI (sp_min (fun s => sp_own v ow s (nI s) n) (k - 1))))) (cw_st J 0 9 0) := eX11_leastWelfare_0 ⟨_, _, sr_least h hk1 ho, _, _, sr_plain, rfl, rfl⟩
theorem fc_strongEnvyCount (h : sp_cv n k v I) (ho : ∀ c, c < n → I 9 c = ow c) : cw_C (cc_w K) mX10_strongEnvyCount [.ref (cw_a (cc_w K) 0)] I (some (.int (nI (sp_strongs v ow n k k)))) I := eX10_strongEnvyCount_0 ⟨_, _, sc_countStrongEnvies h ho, rfl, rfl⟩
theorem fc_mostEnvied (h : sp_cv n k v I) (hk1 : 1 ≤ k) (ho : ∀ c, c < n → I 9 c = ow c) : cw_C (cc_w K) mX10_mostEnvied [.ref (cw_a (cc_w K) 0)] I (some (.int (nI (sp_most v ow n k (k - 1))))) I := eX10_mostEnvied_0 ⟨_, _, sc_findMostEnvied h hk1 ho, rfl, rfl⟩
theorem fc_greatestContiguousWelfare (h : sp_cv n k v I) : ∃ f, cw_C (cc_w K) mX10_greatestContiguousWelfare [.ref (cw_a (cc_w K) 0)] I (some (.int (nI (sp_tb v k (2 ^ k) (2 ^ k - 1) n)))) (cw_up I 23 f) := by
  obtain ⟨f, h1⟩ := sc_findGreatestSum (K := K) h
  exact ⟨f, eX10_greatestContiguousWelfare_0 ⟨_, _, h1, rfl, rfl⟩⟩
theorem fr_greatestContiguousWelfare (h : sp_rv n k v J) (hk1 : 1 ≤ k) : ∃ f, cw_C (cr_w K) mX11_greatestContiguousWelfare [.ref (cw_a (cr_w K) 0)] J (some (.int (nI (sp_tb v k (2 ^ k) (2 ^ k - 1) n)))) (cw_st (cw_up J 8 f) 0 9 0) := by
  obtain ⟨f, h1⟩ := sr_contiguousWelfare (K := K) h hk1
  exact ⟨f, eX11_greatestContiguousWelfare_0 ⟨_, _, h1, _, _, sr_plain, rfl, rfl⟩⟩
theorem fc_bestLeastWelfare (h : sp_cv n k v I) : ∃ f, cw_C (cc_w K) mX10_bestLeastWelfare [.ref (cw_a (cc_w K) 0)] I (some (.int (nI (sp_best v n k)))) (cw_up I 24 f) := by
  obtain ⟨f, h1⟩ := sc_findGreatestLeast (K := K) h
  exact ⟨f, eX10_bestLeastWelfare_0 ⟨_, _, h1, rfl, rfl⟩⟩
theorem fr_bestLeastWelfare (h : sp_rv n k v J) (hk1 : 1 ≤ k) : ∃ f, cw_C (cr_w K) mX11_bestLeastWelfare [.ref (cw_a (cr_w K) 0)] J (some (.int (nI (sp_best v n k)))) (cw_st (cw_up J 9 f) 0 9 0) := by
  obtain ⟨f, h1⟩ := sr_contiguousLeast (K := K) h hk1
  exact ⟨f, eX11_bestLeastWelfare_0 ⟨_, _, h1, _, _, sr_plain, rfl, rfl⟩⟩
theorem fc_bestFirst (h : sp_cv n k v I) (hk1 : 1 ≤ k) : cw_C (cc_w K) mX10_bestFirst [.ref (cw_a (cc_w K) 0)] I (some (.int (nI (sp_arg (sp_rl v n k) (k - 1))))) (cw_up I 21 (sp_t21 v n k (I 21) k)) := eX10_bestFirst_0 ⟨_, _, sc_findBestFirst h hk1, rfl, rfl⟩
theorem fc_cutFor (h : sp_cv n k v I) {s : Nat} (hs : s < k) : cw_C (cc_w K) mX10_cutFor [.ref (cw_a (cc_w K) 0), .int (nI s)] I (some (.int (nI (sp_ct v n s n)))) I :=
  have hk := h.2.2.2.1
  eX10_cutFor_0 ⟨_, sc_requireSibling h (sp_inB_of (by omega) hs), _, _, sc_cutOf h hs, rfl, rfl⟩
theorem ft_cutFor (hFT : cw_FT (cw_f (cc_w K))) (hl : K.1.stackTraces = false) (h : sp_cv n k v I) {x : Int32} (hx : ¬ (0 ≤ x ∧ x < nI k)) : cw_T (cc_w K) mX10_cutFor [.ref (cw_a (cc_w K) 0), .int x] I "java/lang/IndexOutOfBoundsException" I :=
  xX10_cutFor_0 (Or.inr ⟨_, _, st_requireSibling hFT hl h hx, rfl, rfl⟩)
theorem fr_cutFor (h : sp_rv n k v J) (hn1 : 1 ≤ n) {s : Nat} (hs : s < k) : cw_C (cr_w K) mX11_cutFor [.ref (cw_a (cr_w K) 0), .int (nI s)] J (some (.int (nI (sp_ct v n s n)))) (cw_st J 0 9 0) :=
  have hk := h.2.2.2.1
  eX11_cutFor_0 ⟨_, _, sr_isSibling h, fun _ => ⟨_, _, sr_fails0, fun _ => ⟨_, _, sr_cutOf (h.st0 9 0) hn1 hs, rfl, rfl⟩, fun q => absurd rfl q⟩, fun q => fp_no hk hs (sp_bit0 q)⟩
theorem fx_cutFor (h : sp_rv n k v J) {x : Int32} (hx : ¬ (0 ≤ x ∧ x < nI k)) : cw_C (cr_w K) mX11_cutFor [.ref (cw_a (cr_w K) 0), .int x] J (some (.int 0)) (cw_st J 0 9 1) :=
  eX11_cutFor_0 ⟨_, _, sr_isSibling h, fun q => absurd (sp_bit1 q) hx, fun _ => ⟨_, _, sr_fails1, fun q => absurd q (by decide), fun _ => ⟨rfl, rfl⟩⟩⟩
theorem fc_owner (h : sp_cv n k v I) (ho : ∀ c, c < n → I 9 c = ow c) {c : Nat} (hc : c < n) : cw_C (cc_w K) mX10_owner [.ref (cw_a (cc_w K) 0), .int (nI c)] I (some (.int (ow c))) I := by
  have hn := h.2.2.1
  refine eX10_owner_0 ⟨_, sc_requireCell h (sp_inB_of (by omega) hc), vp_in_nI (by omega) (by omega), ?_, rfl⟩
  rw [nI_clamp (by omega), ho c hc]
theorem ft_owner (hFT : cw_FT (cw_f (cc_w K))) (hl : K.1.stackTraces = false) (h : sp_cv n k v I) {x : Int32} (hx : ¬ (0 ≤ x ∧ x < nI n)) : cw_T (cc_w K) mX10_owner [.ref (cw_a (cc_w K) 0), .int x] I "java/lang/IndexOutOfBoundsException" I :=
  xX10_owner_0 (Or.inr ⟨_, _, st_requireCell hFT hl h hx, rfl, rfl⟩)
theorem fr_owner (h : sp_rv n k v J) (ho : ∀ c, c < n → J 1 (2 + c) = ow c) {c : Nat} (hc : c < n) : cw_C (cr_w K) mX11_owner [.ref (cw_a (cr_w K) 0), .int (nI c)] J (some (.int (ow c))) (cw_st J 0 9 0) :=
  have hn := h.2.2.1
  eX11_owner_0 ⟨_, _, sr_isCell h, fun _ => ⟨_, _, sr_fails0, fun _ => ⟨_, _, sr_ownerOf (J := cw_st J 0 9 0) (ow := ow) hn (fun c hc => ho c hc) hc, rfl, rfl⟩, fun q => absurd rfl q⟩, fun q => absurd (sp_inB_of (by omega) hc) (sp_bit0 q)⟩
theorem fx_owner (h : sp_rv n k v J) {x : Int32} (hx : ¬ (0 ≤ x ∧ x < nI n)) : cw_C (cr_w K) mX11_owner [.ref (cw_a (cr_w K) 0), .int x] J (some (.int 0)) (cw_st J 0 9 1) :=
  eX11_owner_0 ⟨_, _, sr_isCell h, fun q => absurd (sp_bit1 q) hx, fun _ => ⟨_, _, sr_fails1, fun q => absurd q (by decide), fun _ => ⟨rfl, rfl⟩⟩⟩
end FAC2
