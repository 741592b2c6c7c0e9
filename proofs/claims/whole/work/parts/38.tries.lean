/-! ## the face: what a division would give -/
/-- the welfare of s behind the knife, and behind round robin from t -/
abbrev sp_kw (v : Nat → Nat → Nat) (n k s : Nat) : Nat := sp_w v (sp_kn v n k k 0 0 (fun _ => -1)) n s s
abbrev sp_rw2 (v : Nat → Nat → Nat) (n k s t : Nat) : Nat := sp_w v (sp_tr v n k t (fun _ => -1)) n s s
theorem sp_kw_eq {v : Nat → Nat → Nat} {n k s : Nat} (hk1 : 1 ≤ k) (hk : k ≤ 6) (f : Nat → Int32) : sp_w v (sp_kn v n k k 0 0 f) n s s = sp_kw v n k s := sp_own_congr (sp_kn_congr (by omega) k 0 0 f (fun _ => -1) (by omega) (sp_wt0 k (by omega)) (Or.inl hk1) (fun c hc _ => absurd hc (Nat.not_lt_zero c)))
theorem sp_rw2_eq {v : Nat → Nat → Nat} {n k s t : Nat} (f : Nat → Int32) : sp_w v (sp_tr v n k t f) n s s = sp_rw2 v n k s t := sp_own_congr (sp_tr_congr _ _)
section TRY
variable {K : cw_K} {I J : cw_M} {n k : Nat} {v : Nat → Nat → Nat} {ow : Nat → Int32}
theorem fc_welfareByKnife (h : sp_cv n k v I) (hk1 : 1 ≤ k) {s : Nat} (hs : s < k) : cw_C (cc_w K) mX10_welfareByKnife [.ref (cw_a (cc_w K) 0), .int (nI s)] I (some (.int (nI (sp_kw v n k s)))) (cw_up I 21 (sp_kn v n k k 0 0 (I 21))) := by
  have hk := h.2.2.2.1
  have h1 := sc_tryKnife (K := K) h hk1 hs
  rw [sp_kw_eq hk1 hk] at h1
  exact eX10_welfareByKnife_0 ⟨_, sc_requireSibling h (sp_inB_of (by omega) hs), _, _, h1, rfl, rfl⟩
theorem ft_welfareByKnife (hFT : cw_FT (cw_f (cc_w K))) (hl : K.1.stackTraces = false) (h : sp_cv n k v I) {x : Int32} (hx : ¬ (0 ≤ x ∧ x < nI k)) : cw_T (cc_w K) mX10_welfareByKnife [.ref (cw_a (cc_w K) 0), .int x] I "java/lang/IndexOutOfBoundsException" I :=
  xX10_welfareByKnife_0 (Or.inr ⟨_, _, st_requireSibling hFT hl h hx, rfl, rfl⟩)
theorem fc_welfareByRobin (h : sp_cv n k v I) {s t : Nat} (hs : s < k) (ht : t < k) : cw_C (cc_w K) mX10_welfareByRobin [.ref (cw_a (cc_w K) 0), .int (nI s), .int (nI t)] I (some (.int (nI (sp_rw2 v n k s t)))) (cw_up I 21 (sp_tr v n k t (I 21))) := by
  have hk := h.2.2.2.1
  have h1 := sc_tryRobin (K := K) h hs ht
  rw [sp_rw2_eq] at h1
  exact eX10_welfareByRobin_0 ⟨_, sc_requireSibling h (sp_inB_of (by omega) hs), _, sc_requireSibling h (sp_inB_of (by omega) ht), _, _, h1, rfl, rfl⟩
theorem ft_welfareByRobin (hFT : cw_FT (cw_f (cc_w K))) (hl : K.1.stackTraces = false) (h : sp_cv n k v I) {x y : Int32} (hx : ¬ ((0 ≤ x ∧ x < nI k) ∧ (0 ≤ y ∧ y < nI k))) : cw_T (cc_w K) mX10_welfareByRobin [.ref (cw_a (cc_w K) 0), .int x, .int y] I "java/lang/IndexOutOfBoundsException" I := by
  by_cases z : 0 ≤ x ∧ x < nI k
  · exact xX10_welfareByRobin_0 (Or.inl ⟨_, sc_requireSibling h z, Or.inr ⟨_, _, st_requireSibling hFT hl h (fun y => hx ⟨z, y⟩), rfl, rfl⟩⟩)
  · exact xX10_welfareByRobin_0 (Or.inr ⟨_, _, st_requireSibling hFT hl h z, rfl, rfl⟩)
theorem sr_aside : cw_C (cr_w K) mX11_copyBlock [.ref (cw_a (cr_w K) 0), .int (nI 0), .int (nI 9)] (cw_st J 0 9 0) none (sp_A J) := sr_copyBlock (K := K) (J := cw_st J 0 9 0) (a := 0) (b := 9) (by omega) (by omega) (by omega)
theorem sp_A_rv (h : sp_rv n k v J) : sp_rv n k v (sp_A J) := (h.st0 9 0).cb (a := 0) (b := 9) (by omega)
theorem fr_welfareByRobin (h : sp_rv n k v J) {s t : Nat} (hs : s < k) (ht : t < k) : cw_C (cr_w K) mX11_welfareByRobin [.ref (cw_a (cr_w K) 0), .int (nI s), .int (nI t)] J (some (.int (nI (sp_rw2 v n k s t)))) (sp_A J) := by
  have hk := h.2.2.2.1
  have hn := h.2.2.1
  have hA := sp_A_rv h
  have h2 := sr_clear_sh (K := K) hA (fun c => (sp_A J) 1 (2 + c))
  rw [sp_sh_self] at h2
  have h4 := sr_wf (K := K) (hA.sh (sp_tr v n k t (fun c => (sp_A J) 1 (2 + c)))) (ow := sp_tr v n k t (fun c => (sp_A J) 1 (2 + c))) (fun c hc => sp_sh_at _ _ (by omega)) hs
  rw [sp_rw2_eq] at h4
  have hc2 := sr_copyBlock (K := K) (J := cw_up (sp_A J) 1 (sp_sh (sp_tr v n k t (fun c => (sp_A J) 1 (2 + c))) ((sp_A J) 1))) (a := 9) (b := 0) (by omega) (by omega) (by omega)
  rw [sp_A_back] at hc2
  exact eX11_welfareByRobin_0 ⟨_, _, sr_areSiblings h, fun _ => ⟨_, _, sr_fails0, fun _ => ⟨_, sr_aside, _, h2, _, _, sr_robin_sh hA _ ht, _, _, h4, _, hc2, rfl, rfl⟩, fun q => absurd rfl q⟩, fun q => absurd ⟨sp_inB_of (by omega) hs, sp_inB_of (by omega) ht⟩ (sp_bit0 q)⟩
theorem fx_welfareByRobin (h : sp_rv n k v J) {x y : Int32} (hx : ¬ ((0 ≤ x ∧ x < nI k) ∧ (0 ≤ y ∧ y < nI k))) : cw_C (cr_w K) mX11_welfareByRobin [.ref (cw_a (cr_w K) 0), .int x, .int y] J (some (.int 0)) (cw_st J 0 9 1) :=
  eX11_welfareByRobin_0 ⟨_, _, sr_areSiblings h, fun q => absurd (sp_bit1 q) hx, fun _ => ⟨_, _, sr_fails1, fun q => absurd q (by decide), fun _ => ⟨rfl, rfl⟩⟩⟩
theorem fr_welfareByKnife (h : sp_rv n k v J) (hn1 : 1 ≤ n) (hk1 : 1 ≤ k) {s : Nat} (hs : s < k) : ∃ h9, cw_C (cr_w K) mX11_welfareByKnife [.ref (cw_a (cr_w K) 0), .int (nI s)] J (some (.int (nI (sp_kw v n k s)))) (cw_up (sp_A J) 7 h9) := by
  have hk := h.2.2.2.1
  have hn := h.2.2.1
  have hA := sp_A_rv h
  obtain ⟨h9, h2⟩ := sr_knife (K := K) hA hn1
  have h4 := sr_wf (K := K) (sp_M_rv hA (sp_kn v n k k 0 0 (sp_put (fun c => (sp_A J) 1 (2 + c)) (-1) 0 n)) (o := 7) (by decide) h9) (ow := sp_kn v n k k 0 0 (sp_put (fun c => (sp_A J) 1 (2 + c)) (-1) 0 n)) (fun c hc => sp_M_ow _ _ (by decide) _ (by omega)) hs
  rw [sp_kw_eq hk1 hk] at h4
  have hc2 := sr_copyBlock (K := K) (J := sp_M (sp_A J) (sp_kn v n k k 0 0 (sp_put (fun c => (sp_A J) 1 (2 + c)) (-1) 0 n)) 7 h9) (a := 9) (b := 0) (by omega) (by omega) (by omega)
  have e1 : cw_up (sp_M (sp_A J) (sp_kn v n k k 0 0 (sp_put (fun c => (sp_A J) 1 (2 + c)) (-1) 0 n)) 7 h9) 1 (sp_cb ((sp_M (sp_A J) (sp_kn v n k k 0 0 (sp_put (fun c => (sp_A J) 1 (2 + c)) (-1) 0 n)) 7 h9) 1) 9 0) = cw_up (sp_A J) 7 h9 := by
    rw [sp_M_1 _ _ (by decide) _]
    show cw_up (cw_up (cw_up (sp_A J) 1 _) 7 h9) 1 _ = _
    rw [sp_up_comm _ (show 7 ≠ 1 by decide), sp_upup, sp_A_1, sp_cb_back, sp_upup]
  rw [e1] at hc2
  exact ⟨h9, eX11_welfareByKnife_0 ⟨_, _, sr_isSibling h, fun _ => ⟨_, _, sr_fails0, fun _ => ⟨_, sr_aside, _, _, h2, _, _, h4, _, hc2, rfl, rfl⟩, fun q => absurd rfl q⟩, fun q => fp_no hk hs (sp_bit0 q)⟩⟩
theorem fx_welfareByKnife (h : sp_rv n k v J) {x : Int32} (hx : ¬ (0 ≤ x ∧ x < nI k)) : cw_C (cr_w K) mX11_welfareByKnife [.ref (cw_a (cr_w K) 0), .int x] J (some (.int 0)) (cw_st J 0 9 1) :=
  eX11_welfareByKnife_0 ⟨_, _, sr_isSibling h, fun q => absurd (sp_bit1 q) hx, fun _ => ⟨_, _, sr_fails1, fun q => absurd q (by decide), fun _ => ⟨rfl, rfl⟩⟩⟩
end TRY
