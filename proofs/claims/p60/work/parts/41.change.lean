/-! ## the face: changes, the class -/
/-- the class's ints with the cake remembered; q: the ring's place, u: how many can be undone -/
abbrev sp_mem (I : cw_M) (q u : Nat) : cw_M := cw_st (cw_st (sp_kp I q) 28 2 (nI (sp_nq q))) 28 0 (nI (min (u + 1) 6))
section CHGC
variable {K : cw_K} {I : cw_M} {n k q u : Nat} {v : Nat → Nat → Nat}
theorem sp_mem_cv (h : sp_cv n k v I) : sp_cv n k v (sp_mem I q u) :=
  (((h.up (o := 30) (by decide) (by decide)).up (o := 31) (by decide) (by decide)).up (o := 28) (by decide) (by decide)).up (o := 28) (by decide) (by decide)
theorem fc_give (h : sp_cv n k v I) (hq : I 28 2 = nI q) (hq6 : q < 6) (hu : I 28 0 = nI u) (hu6 : u ≤ 6) {s a e : Nat} (hs : s < k) (ha : a ≤ e) (he : e < n) : cw_C (cc_w K) mX10_give [.ref (cw_a (cc_w K) 0), .int (nI s), .int (nI a), .int (nI e)] I (some (.int (nI (sp_w v (sp_put (I 9) (nI s) a (e + 1)) n s s)))) (cw_up (sp_mem I q u) 9 (sp_put (I 9) (nI s) a (e + 1))) := by
  have hk := h.2.2.2.1
  have hn := h.2.2.1
  have hM : sp_cv n k v (sp_mem I q u) := sp_mem_cv h
  have hM2 : sp_cv n k v (cw_up (sp_mem I q u) 9 (sp_put (I 9) (nI s) a (e + 1))) := hM.up (by decide) (by decide)
  have h1 : cw_C (cc_w K) mX1_assign [.ref (cw_a (cc_w K) 5), .ref (cw_a (cc_w K) 9), .int (nI s), .int (nI a), .int (nI (e + 1))] (sp_mem I q u) none (cw_up (sp_mem I q u) 9 (sp_put (I 9) (nI s) a (e + 1))) := sc_assign_9 (K := K) (I := sp_mem I q u) (x := nI s) (show a ≤ e + 1 by omega) (show e + 1 ≤ 24 by omega)
  have h2 := sc_wf (K := K) hM2 (ow := sp_put (I 9) (nI s) a (e + 1)) (fun c _ => by simp [cw_up]) hs
  refine eX10_give_0 ⟨_, sc_requireSibling h (sp_inB_of (by omega) hs), _, sc_requireRun h (sp_rng_of hn ha he), _, sc_remember hq hq6 hu hu6, ?_⟩
  rw [nI_1]
  exact ⟨_, h1, _, _, h2, rfl, rfl⟩
theorem fc_release (h : sp_cv n k v I) (hq : I 28 2 = nI q) (hq6 : q < 6) (hu : I 28 0 = nI u) (hu6 : u ≤ 6) {a e : Nat} (ha : a ≤ e) (he : e < n) : cw_C (cc_w K) mX10_release [.ref (cw_a (cc_w K) 0), .int (nI a), .int (nI e)] I (some (.int (nI (sp_cnt (sp_put (I 9) (-1) a (e + 1)) (-1) n)))) (cw_up (sp_mem I q u) 9 (sp_put (I 9) (-1) a (e + 1))) := by
  have hn := h.2.2.1
  have hM : sp_cv n k v (sp_mem I q u) := sp_mem_cv h
  have hM2 : sp_cv n k v (cw_up (sp_mem I q u) 9 (sp_put (I 9) (-1) a (e + 1))) := hM.up (by decide) (by decide)
  have h1 : cw_C (cc_w K) mX1_assign [.ref (cw_a (cc_w K) 5), .ref (cw_a (cc_w K) 9), .int (-1), .int (nI a), .int (nI (e + 1))] (sp_mem I q u) none (cw_up (sp_mem I q u) 9 (sp_put (I 9) (-1) a (e + 1))) := sc_assign_9 (K := K) (I := sp_mem I q u) (x := -1) (show a ≤ e + 1 by omega) (show e + 1 ≤ 24 by omega)
  have h2 := sc_countOwned (K := K) hM2 (ow := sp_put (I 9) (-1) a (e + 1)) (fun c _ => by simp [cw_up]) (-1)
  refine eX10_release_0 ⟨_, sc_requireRun h (sp_rng_of hn ha he), _, sc_remember hq hq6 hu hu6, ?_⟩
  rw [nI_1]
  exact ⟨_, h1, _, _, h2, rfl, rfl⟩
theorem fc_movingKnife (h : sp_cv n k v I) (hk1 : 1 ≤ k) (hq : I 28 2 = nI q) (hq6 : q < 6) (hu : I 28 0 = nI u) (hu6 : u ≤ 6) : cw_C (cc_w K) mX10_movingKnife [.ref (cw_a (cc_w K) 0)] I (some (.int (nI (sp_n (fun s => sp_fair v (sp_kn v n k k 0 0 (I 9)) n k s) k)))) (cw_up (sp_mem I q u) 9 (sp_kn v n k k 0 0 (I 9))) := by
  have hM : sp_cv n k v (sp_mem I q u) := sp_mem_cv h
  have hM2 : sp_cv n k v (cw_up (sp_mem I q u) 9 (sp_kn v n k k 0 0 (I 9))) := hM.up (by decide) (by decide)
  have h1 : cw_C (cc_w K) mX6_divideByKnife [.ref (cw_a (cc_w K) 20), .ref (cw_a (cc_w K) 9)] (sp_mem I q u) none (cw_up (sp_mem I q u) 9 (sp_kn v n k k 0 0 (I 9))) := sc_knife_9 (K := K) hM hk1
  have h2 := sc_countFairShares (K := K) hM2 (ow := sp_kn v n k k 0 0 (I 9)) (fun c _ => by simp [cw_up])
  exact eX10_movingKnife_0 ⟨_, sc_remember hq hq6 hu hu6, _, h1, _, _, h2, rfl, rfl⟩
theorem fc_roundRobin (h : sp_cv n k v I) (hq : I 28 2 = nI q) (hq6 : q < 6) (hu : I 28 0 = nI u) (hu6 : u ≤ 6) {t : Nat} (ht : t < k) : cw_C (cc_w K) mX10_roundRobin [.ref (cw_a (cc_w K) 0), .int (nI t)] I (some (.int (nI (sp_rb v n k n (I 9) t 0).2))) (cw_up (sp_mem I q u) 9 (sp_rb v n k n (I 9) t 0).1) := by
  have hk := h.2.2.2.1
  have hM : sp_cv n k v (sp_mem I q u) := sp_mem_cv h
  have h1 : cw_C (cc_w K) mX6_divideByRobin [.ref (cw_a (cc_w K) 20), .ref (cw_a (cc_w K) 9), .int (nI t)] (sp_mem I q u) (some (.int (nI (sp_rb v n k n (I 9) t 0).2))) (cw_up (sp_mem I q u) 9 (sp_rb v n k n (I 9) t 0).1) := sc_robin_9 (K := K) hM ht
  exact eX10_roundRobin_0 ⟨_, sc_requireSibling h (sp_inB_of (by omega) ht), _, sc_remember hq hq6 hu hu6, _, _, h1, rfl, rfl⟩
end CHGC
