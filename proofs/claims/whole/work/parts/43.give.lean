/-! ## the face: give and release -/
section GIV
variable {K : cw_K} {I J : cw_M} {n k u : Nat} {v : Nat → Nat → Nat}
theorem ft_give1 (hFT : cw_FT (cw_f (cc_w K))) (hl : K.1.stackTraces = false) (h : sp_cv n k v I) {x y z : Int32} (hx : ¬ (0 ≤ x ∧ x < nI k)) : cw_T (cc_w K) mX10_give [.ref (cw_a (cc_w K) 0), .int x, .int y, .int z] I "java/lang/IndexOutOfBoundsException" I :=
  xX10_give_0 (Or.inr ⟨_, _, st_requireSibling hFT hl h hx, rfl, rfl⟩)
theorem ft_give2 (hFT : cw_FT (cw_f (cc_w K))) (hl : K.1.stackTraces = false) (h : sp_cv n k v I) {x y z : Int32} (hx : 0 ≤ x ∧ x < nI k) (hy : ¬ sp_rng n y z) : cw_T (cc_w K) mX10_give [.ref (cw_a (cc_w K) 0), .int x, .int y, .int z] I "java/lang/IllegalArgumentException" I :=
  xX10_give_0 (Or.inl ⟨_, sc_requireSibling h hx, Or.inr ⟨_, _, st_requireRun hFT hl h hy, rfl, rfl⟩⟩)
theorem ft_release (hFT : cw_FT (cw_f (cc_w K))) (hl : K.1.stackTraces = false) (h : sp_cv n k v I) {y z : Int32} (hy : ¬ sp_rng n y z) : cw_T (cc_w K) mX10_release [.ref (cw_a (cc_w K) 0), .int y, .int z] I "java/lang/IllegalArgumentException" I :=
  xX10_release_0 (Or.inr ⟨_, _, st_requireRun hFT hl h hy, rfl, rfl⟩)
theorem sr_own2 {x : Int32} {a e : Nat} (ha : a ≤ e) (he : e < 24) : cw_C (cr_w K) mX11_own [.ref (cw_a (cr_w K) 0), .int x, .int (nI a), .int (nI e)] J none (cw_up J 1 (sp_put (J 1) x (2 + a) (2 + (e + 1)))) := by
  have h1 := sr_own (K := K) (J := J) (x := x) (show a ≤ e + 1 by omega) (show e + 1 ≤ 24 by omega)
  rw [show nI (e + 1) - 1 = nI e from nI_pred e] at h1
  exact h1
/-- the owners behind the change -/
abbrev sp_go (J : cw_M) (x : Int32) (a e : Nat) : Nat → Int32 := fun c => sp_put (J 1) x (2 + a) (2 + (e + 1)) (2 + c)
theorem fr_give (h : sp_rv n k v J) (hu : J 0 2 = nI u) (hu6 : u ≤ 6) {s a e : Nat} (hs : s < k) (ha : a ≤ e) (he : e < n) : cw_C (cr_w K) mX11_give [.ref (cw_a (cr_w K) 0), .int (nI s), .int (nI a), .int (nI e)] J (some (.int (nI (sp_w v (sp_go (sp_R J u) (nI s) a e) n s s)))) (cw_up (sp_R J u) 1 (sp_put ((sp_R J u) 1) (nI s) (2 + a) (2 + (e + 1)))) := by
  have hk := h.2.2.2.1
  have hn := h.2.2.1
  have hR : sp_rv n k v (sp_R J u) := sp_R_rv h
  have h2 := sr_wf (K := K) (hR.put (x := nI s) (a := a) (e := e + 1) (by omega)) (ow := sp_go (sp_R J u) (nI s) a e) (fun c _ => by simp [cw_up]) hs
  exact eX11_give_0 ⟨_, _, sr_isSibling h, fun _ => ⟨_, _, sr_isRange h, fun _ => ⟨_, _, sr_fails0, fun _ => ⟨_, sr_R hu hu6, _, sr_own2 ha (by omega), _, _, h2, rfl, rfl⟩, fun q => absurd rfl q⟩, fun q => absurd (sp_rng_of hn ha he) (sp_bit0 q)⟩, fun q => fp_no hk hs (sp_bit0 q)⟩
theorem fr_release (h : sp_rv n k v J) (hu : J 0 2 = nI u) (hu6 : u ≤ 6) {a e : Nat} (ha : a ≤ e) (he : e < n) : cw_C (cr_w K) mX11_release [.ref (cw_a (cr_w K) 0), .int (nI a), .int (nI e)] J (some (.int (nI (sp_cnt (sp_go (sp_R J u) (-1) a e) (-1) n)))) (cw_up (sp_R J u) 1 (sp_put ((sp_R J u) 1) (-1) (2 + a) (2 + (e + 1)))) := by
  have hn := h.2.2.1
  have hR : sp_rv n k v (sp_R J u) := sp_R_rv h
  have h2 := sr_sizeOf (K := K) (hR.put (x := -1) (a := a) (e := e + 1) (by omega)) (ow := sp_go (sp_R J u) (-1) a e) (fun c _ => by simp [cw_up]) (-1)
  exact eX11_release_0 ⟨_, _, sr_isRange h, fun _ => ⟨_, _, sr_fails0, fun _ => ⟨_, sr_R hu hu6, _, sr_own2 ha (by omega), _, _, h2, rfl, rfl⟩, fun q => absurd rfl q⟩, fun q => absurd (sp_rng_of hn ha he) (sp_bit0 q)⟩
theorem fx_release (h : sp_rv n k v J) {y z : Int32} (hy : ¬ sp_rng n y z) : cw_C (cr_w K) mX11_release [.ref (cw_a (cr_w K) 0), .int y, .int z] J (some (.int 0)) (cw_st J 0 9 1) :=
  eX11_release_0 ⟨_, _, sr_isRange h, fun q => absurd (sp_bit1 q) hy, fun _ => ⟨_, _, sr_fails1, fun q => absurd q (by decide), fun _ => ⟨rfl, rfl⟩⟩⟩
end GIV
