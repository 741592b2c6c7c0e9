/-! ## the face: worth, mildness, the cycle's length -/
section FAC4
variable {K : cw_K} {I J : cw_M} {n k : Nat} {v : Nat → Nat → Nat} {ow : Nat → Int32}
abbrev sp_rng (n : Nat) (x y : Int32) : Prop := (0 ≤ x ∧ x < nI n) ∧ (0 ≤ y ∧ y < nI n) ∧ ¬ y < x
theorem sp_rng_of {n a e : Nat} (hn : n ≤ 24) (ha : a ≤ e) (he : e < n) : sp_rng n (nI a) (nI e) := ⟨sp_inB_of (by omega) (by omega), sp_inB_of (by omega) he, fun z => absurd ((nI_ltI (by omega) (by omega)).mp z) (by omega)⟩
theorem fc_worth (h : sp_cv n k v I) {s a e : Nat} (hs : s < k) (ha : a ≤ e) (he : e < n) : cw_C (cc_w K) mX10_worth [.ref (cw_a (cc_w K) 0), .int (nI s), .int (nI a), .int (nI e)] I (some (.int (nI (sp_run v s a (e + 1 - a))))) I := by
  have hk := h.2.2.2.1
  have hn := h.2.2.1
  refine eX10_worth_0 ⟨_, sc_requireSibling h (sp_inB_of (by omega) hs), _, sc_requireRun h (sp_rng_of hn ha he), ?_⟩
  rw [nI_1]
  exact ⟨_, _, sc_worthOfRun h hs (show a ≤ e + 1 by omega) (show e + 1 ≤ n by omega), rfl, rfl⟩
theorem ft_worth1 (hFT : cw_FT (cw_f (cc_w K))) (hl : K.1.stackTraces = false) (h : sp_cv n k v I) {x y z : Int32} (hx : ¬ (0 ≤ x ∧ x < nI k)) : cw_T (cc_w K) mX10_worth [.ref (cw_a (cc_w K) 0), .int x, .int y, .int z] I "java/lang/IndexOutOfBoundsException" I :=
  xX10_worth_0 (Or.inr ⟨_, _, st_requireSibling hFT hl h hx, rfl, rfl⟩)
theorem ft_worth2 (hFT : cw_FT (cw_f (cc_w K))) (hl : K.1.stackTraces = false) (h : sp_cv n k v I) {x y z : Int32} (hx : 0 ≤ x ∧ x < nI k) (hy : ¬ sp_rng n y z) : cw_T (cc_w K) mX10_worth [.ref (cw_a (cc_w K) 0), .int x, .int y, .int z] I "java/lang/IllegalArgumentException" I :=
  xX10_worth_0 (Or.inl ⟨_, sc_requireSibling h hx, Or.inr ⟨_, _, st_requireRun hFT hl h hy, rfl, rfl⟩⟩)
theorem fr_worth (h : sp_rv n k v J) {s a e : Nat} (hs : s < k) (ha : a ≤ e) (he : e < n) : cw_C (cr_w K) mX11_worth [.ref (cw_a (cr_w K) 0), .int (nI s), .int (nI a), .int (nI e)] J (some (.int (nI (sp_run v s a (e + 1 - a))))) (cw_st J 0 9 0) := by
  have hk := h.2.2.2.1
  have hn := h.2.2.1
  have h1 := sr_worthOf (K := K) (h.st0 9 0) hs (show a ≤ e + 1 by omega) (show e + 1 ≤ n by omega) (by omega)
  exact eX11_worth_0 ⟨_, _, sr_isSibling h, fun _ => ⟨_, _, sr_isRange h, fun _ => ⟨_, _, sr_fails0, fun _ => ⟨_, _, h1, rfl, rfl⟩, fun q => absurd rfl q⟩, fun q => absurd (sp_rng_of hn ha he) (sp_bit0 q)⟩, fun q => fp_no hk hs (sp_bit0 q)⟩
theorem fx_worth1 (h : sp_rv n k v J) {x y z : Int32} (hx : ¬ (0 ≤ x ∧ x < nI k)) : cw_C (cr_w K) mX11_worth [.ref (cw_a (cr_w K) 0), .int x, .int y, .int z] J (some (.int 0)) (cw_st J 0 9 1) :=
  eX11_worth_0 ⟨_, _, sr_isSibling h, fun q => absurd (sp_bit1 q) hx, fun _ => ⟨_, _, sr_isRange h, fun _ => ⟨_, _, sr_fails1, fun q => absurd q (by decide), fun _ => ⟨rfl, rfl⟩⟩, fun _ => ⟨_, _, sr_fails1, fun q => absurd q (by decide), fun _ => ⟨rfl, rfl⟩⟩⟩⟩
theorem fx_worth2 (h : sp_rv n k v J) {x y z : Int32} (hx : 0 ≤ x ∧ x < nI k) (hy : ¬ sp_rng n y z) : cw_C (cr_w K) mX11_worth [.ref (cw_a (cr_w K) 0), .int x, .int y, .int z] J (some (.int 0)) (cw_st J 0 9 2) :=
  eX11_worth_0 ⟨_, _, sr_isSibling h, fun _ => ⟨_, _, sr_isRange h, fun q => absurd (sp_bit1 q) hy, fun _ => ⟨_, _, sr_fails2, fun q => absurd q (by decide), fun _ => ⟨rfl, rfl⟩⟩⟩, fun q => absurd hx (sp_bit0 q)⟩
theorem fc_isMild (h : sp_cv n k v I) (ho : ∀ c, c < n → I 9 c = ow c) {s o : Nat} (hs : s < k) (hs2 : o < k) (he : sp_envy v ow n s o) : cw_C (cc_w K) mX10_isMild [.ref (cw_a (cc_w K) 0), .int (nI s), .int (nI o)] I (some (.int (if ¬ sp_strong v ow n s o then 1 else 0))) I := by
  have hk := h.2.2.2.1
  refine eX10_isMild_0 ⟨_, sc_requireSibling h (sp_inB_of (by omega) hs), _, sc_requireSibling h (sp_inB_of (by omega) hs2), _, _, sc_hasEnvy h ho hs, fun _ => ⟨_, _, sc_hasStrongEnvy h ho hs, fun q => ?_, fun q => ?_⟩, fun q => sp_bit0 q he⟩
  · rw [if_neg (fun z => z (sp_bit1 q))]; exact ⟨rfl, rfl⟩
  · rw [if_pos (sp_bit0 q)]; exact ⟨rfl, rfl⟩
theorem ft_isMild1 (hFT : cw_FT (cw_f (cc_w K))) (hl : K.1.stackTraces = false) (h : sp_cv n k v I) {x y : Int32} (hx : ¬ ((0 ≤ x ∧ x < nI k) ∧ (0 ≤ y ∧ y < nI k))) : cw_T (cc_w K) mX10_isMild [.ref (cw_a (cc_w K) 0), .int x, .int y] I "java/lang/IndexOutOfBoundsException" I := by
  by_cases z : 0 ≤ x ∧ x < nI k
  · exact xX10_isMild_0 hFT hl (Or.inl ⟨_, sc_requireSibling h z, Or.inr ⟨_, _, st_requireSibling hFT hl h (fun y => hx ⟨z, y⟩), rfl, rfl⟩⟩)
  · exact xX10_isMild_0 hFT hl (Or.inr ⟨_, _, st_requireSibling hFT hl h z, rfl, rfl⟩)
theorem ft_isMild2 (hFT : cw_FT (cw_f (cc_w K))) (hl : K.1.stackTraces = false) (h : sp_cv n k v I) (ho : ∀ c, c < n → I 9 c = ow c) {s o : Nat} (hs : s < k) (hs2 : o < k) (he : ¬ sp_envy v ow n s o) : cw_T (cc_w K) mX10_isMild [.ref (cw_a (cc_w K) 0), .int (nI s), .int (nI o)] I "java/lang/IllegalStateException" I :=
  have hk := h.2.2.2.1
  xX10_isMild_0 hFT hl (Or.inl ⟨_, sc_requireSibling h (sp_inB_of (by omega) hs), Or.inl ⟨_, sc_requireSibling h (sp_inB_of (by omega) hs2), _, _, sc_hasEnvy h ho hs, fun q => absurd (sp_bit1 q) he, fun _ => ⟨rfl, rfl⟩⟩⟩)
theorem fr_isMild (h : sp_rv n k v J) (ho : ∀ c, c < n → J 1 (2 + c) = ow c) {s o : Nat} (hs : s < k) (hs2 : o < k) (he : sp_envy v ow n s o) : cw_C (cr_w K) mX11_isMild [.ref (cw_a (cr_w K) 0), .int (nI s), .int (nI o)] J (some (.int (if ¬ sp_strong v ow n s o then 1 else 0))) (cw_st J 0 9 0) :=
  have hk := h.2.2.2.1
  eX11_isMild_0 ⟨_, _, sr_areSiblings h, fun q => ⟨fun q2 => absurd q2 q, fun _ => ⟨_, _, sr_hasEnvy h ho hs, fun _ => ⟨_, _, sr_fails0, fun _ => ⟨_, _, sr_hasMildEnvy (h.st0 9 0) (fun c hc => ho c hc) hs, sp_bit, rfl, rfl⟩, fun q => absurd rfl q⟩, fun q => absurd he (sp_bit0 q)⟩⟩, fun q => absurd ⟨sp_inB_of (by omega) hs, sp_inB_of (by omega) hs2⟩ (sp_bit0 q)⟩
theorem fx_isMild1 (h : sp_rv n k v J) {x y : Int32} (hx : ¬ ((0 ≤ x ∧ x < nI k) ∧ (0 ≤ y ∧ y < nI k))) : cw_C (cr_w K) mX11_isMild [.ref (cw_a (cr_w K) 0), .int x, .int y] J (some (.int 0)) (cw_st J 0 9 1) :=
  eX11_isMild_0 ⟨_, _, sr_areSiblings h, fun q => absurd (sp_bit1 q) hx, fun q => ⟨fun _ => ⟨_, _, sr_fails1, fun q => absurd q (by decide), fun _ => ⟨rfl, rfl⟩⟩, fun q2 => absurd q q2⟩⟩
theorem fx_isMild2 (h : sp_rv n k v J) (ho : ∀ c, c < n → J 1 (2 + c) = ow c) {s o : Nat} (hs : s < k) (hs2 : o < k) (he : ¬ sp_envy v ow n s o) : cw_C (cr_w K) mX11_isMild [.ref (cw_a (cr_w K) 0), .int (nI s), .int (nI o)] J (some (.int 0)) (cw_st J 0 9 2) :=
  have hk := h.2.2.2.1
  eX11_isMild_0 ⟨_, _, sr_areSiblings h, fun q => ⟨fun q2 => absurd q2 q, fun _ => ⟨_, _, sr_hasEnvy h ho hs, fun q => absurd (sp_bit1 q) he, fun _ => ⟨_, _, sr_fails2, fun q => absurd q (by decide), fun _ => ⟨rfl, rfl⟩⟩⟩⟩, fun q => absurd ⟨sp_inB_of (by omega) hs, sp_inB_of (by omega) hs2⟩ (sp_bit0 q)⟩
theorem fc_envyCycleLength (h : sp_cv n k v I) (ho : ∀ c, c < n → I 9 c = ow c) {s : Nat} (hs : s < k) : ∃ f17 f18 f19, cw_C (cc_w K) mX10_envyCycleLength [.ref (cw_a (cc_w K) 0), .int (nI s)] I (some (.int (sp_oi (sp_len (sp_w v ow n) k s)))) (sp_cyI I f17 f18 f19) := by
  have hk := h.2.2.2.1
  obtain ⟨f17, f18, f19, -, h1⟩ := sc_findCycle (K := K) h ho hs
  exact ⟨f17, f18, f19, eX10_envyCycleLength_0 ⟨_, sc_requireSibling h (sp_inB_of (by omega) hs), _, _, h1, rfl, rfl⟩⟩
theorem ft_envyCycleLength (hFT : cw_FT (cw_f (cc_w K))) (hl : K.1.stackTraces = false) (h : sp_cv n k v I) {x : Int32} (hx : ¬ (0 ≤ x ∧ x < nI k)) : cw_T (cc_w K) mX10_envyCycleLength [.ref (cw_a (cc_w K) 0), .int x] I "java/lang/IndexOutOfBoundsException" I :=
  xX10_envyCycleLength_0 (Or.inr ⟨_, _, st_requireSibling hFT hl h hx, rfl, rfl⟩)
theorem fr_envyCycleLength (h : sp_rv n k v J) (ho : ∀ c, c < n → J 1 (2 + c) = ow c) {s : Nat} (hs : s < k) : ∃ f5 f6, cw_C (cr_w K) mX11_envyCycleLength [.ref (cw_a (cr_w K) 0), .int (nI s)] J (some (.int (sp_oi (sp_len (sp_w v ow n) k s)))) (sp_cyJ (cw_st J 0 9 0) f5 f6) := by
  have hk := h.2.2.2.1
  obtain ⟨f5, f6, -, h1⟩ := sr_findCycle (K := K) (h.st0 9 0) (fun c hc => ho c hc) hs
  exact ⟨f5, f6, eX11_envyCycleLength_0 ⟨_, _, sr_isSibling h, fun _ => ⟨_, _, sr_fails0, fun _ => ⟨_, _, h1, rfl, rfl⟩, fun q => absurd rfl q⟩, fun q => fp_no hk hs (sp_bit0 q)⟩⟩
theorem fx_envyCycleLength (h : sp_rv n k v J) {x : Int32} (hx : ¬ (0 ≤ x ∧ x < nI k)) : cw_C (cr_w K) mX11_envyCycleLength [.ref (cw_a (cr_w K) 0), .int x] J (some (.int 0)) (cw_st J 0 9 1) :=
  eX11_envyCycleLength_0 ⟨_, _, sr_isSibling h, fun q => absurd (sp_bit1 q) hx, fun _ => ⟨_, _, sr_fails1, fun q => absurd q (by decide), fun _ => ⟨rfl, rfl⟩⟩⟩
end FAC4
