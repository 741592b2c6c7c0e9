/-! ## the face: questions about one sibling; fc_ class answers, ft_ class throws, fr_ reference answers, fx_ reference fails -/
section FAC1
variable {K : cw_K} {I J : cw_M} {n k : Nat} {v : Nat → Nat → Nat} {ow : Nat → Int32}
theorem fp_no {k s : Nat} (hk : k ≤ 6) (hs : s < k) {P : Prop} (q : ¬ (0 ≤ nI s ∧ nI s < nI k)) : P := absurd (sp_inB_of (by omega) hs) q
theorem fc_total (h : sp_cv n k v I) (ho : ∀ c, c < n → I 9 c = ow c) {s : Nat} (hs : s < k) : cw_C (cc_w K) mX10_total [.ref (cw_a (cc_w K) 0), .int (nI s)] I (some (.int (nI (sp_s (v s) n)))) I :=
  have hk := h.2.2.2.1
  eX10_total_0 ⟨_, sc_requireSibling h (sp_inB_of (by omega) hs), _, _, sc_worthOfAll h hs, rfl, rfl⟩
theorem ft_total (hFT : cw_FT (cw_f (cc_w K))) (hl : K.1.stackTraces = false) (h : sp_cv n k v I) {x : Int32} (hx : ¬ (0 ≤ x ∧ x < nI k)) : cw_T (cc_w K) mX10_total [.ref (cw_a (cc_w K) 0), .int x] I "java/lang/IndexOutOfBoundsException" I :=
  xX10_total_0 (Or.inr ⟨_, _, st_requireSibling hFT hl h hx, rfl, rfl⟩)
theorem fr_total (h : sp_rv n k v J) (hn1 : 1 ≤ n) (ho : ∀ c, c < n → J 1 (2 + c) = ow c) {s : Nat} (hs : s < k) : cw_C (cr_w K) mX11_total [.ref (cw_a (cr_w K) 0), .int (nI s)] J (some (.int (nI (sp_s (v s) n)))) (cw_st J 0 9 0) :=
  have hk := h.2.2.2.1
  eX11_total_0 ⟨_, _, sr_isSibling h, fun _ => ⟨_, _, sr_fails0, fun _ => ⟨_, _, sr_totalOf (h.st0 9 0) hn1 hs, rfl, rfl⟩, fun q => absurd rfl q⟩, fun q => fp_no hk hs (sp_bit0 q)⟩
theorem fx_total (h : sp_rv n k v J) {x : Int32} (hx : ¬ (0 ≤ x ∧ x < nI k)) : cw_C (cr_w K) mX11_total [.ref (cw_a (cr_w K) 0), .int x] J (some (.int 0)) (cw_st J 0 9 1) :=
  eX11_total_0 ⟨_, _, sr_isSibling h, fun q => absurd (sp_bit1 q) hx, fun _ => ⟨_, _, sr_fails1, fun q => absurd q (by decide), fun _ => ⟨rfl, rfl⟩⟩⟩
theorem fc_shareSize (h : sp_cv n k v I) (ho : ∀ c, c < n → I 9 c = ow c) {s : Nat} (hs : s < k) : cw_C (cc_w K) mX10_shareSize [.ref (cw_a (cc_w K) 0), .int (nI s)] I (some (.int (nI (sp_cnt ow (nI s) n)))) I :=
  have hk := h.2.2.2.1
  eX10_shareSize_0 ⟨_, sc_requireSibling h (sp_inB_of (by omega) hs), _, _, sc_countOwned h ho (nI s), rfl, rfl⟩
theorem ft_shareSize (hFT : cw_FT (cw_f (cc_w K))) (hl : K.1.stackTraces = false) (h : sp_cv n k v I) {x : Int32} (hx : ¬ (0 ≤ x ∧ x < nI k)) : cw_T (cc_w K) mX10_shareSize [.ref (cw_a (cc_w K) 0), .int x] I "java/lang/IndexOutOfBoundsException" I :=
  xX10_shareSize_0 (Or.inr ⟨_, _, st_requireSibling hFT hl h hx, rfl, rfl⟩)
theorem fr_shareSize (h : sp_rv n k v J) (hn1 : 1 ≤ n) (ho : ∀ c, c < n → J 1 (2 + c) = ow c) {s : Nat} (hs : s < k) : cw_C (cr_w K) mX11_shareSize [.ref (cw_a (cr_w K) 0), .int (nI s)] J (some (.int (nI (sp_cnt ow (nI s) n)))) (cw_st J 0 9 0) :=
  have hk := h.2.2.2.1
  eX11_shareSize_0 ⟨_, _, sr_isSibling h, fun _ => ⟨_, _, sr_fails0, fun _ => ⟨_, _, sr_sizeOf (h.st0 9 0) (fun c hc => ho c hc) (nI s), rfl, rfl⟩, fun q => absurd rfl q⟩, fun q => fp_no hk hs (sp_bit0 q)⟩
theorem fx_shareSize (h : sp_rv n k v J) {x : Int32} (hx : ¬ (0 ≤ x ∧ x < nI k)) : cw_C (cr_w K) mX11_shareSize [.ref (cw_a (cr_w K) 0), .int x] J (some (.int 0)) (cw_st J 0 9 1) :=
  eX11_shareSize_0 ⟨_, _, sr_isSibling h, fun q => absurd (sp_bit1 q) hx, fun _ => ⟨_, _, sr_fails1, fun q => absurd q (by decide), fun _ => ⟨rfl, rfl⟩⟩⟩
theorem fc_pieceCount (h : sp_cv n k v I) (ho : ∀ c, c < n → I 9 c = ow c) {s : Nat} (hs : s < k) : cw_C (cc_w K) mX10_pieceCount [.ref (cw_a (cc_w K) 0), .int (nI s)] I (some (.int (nI (sp_pcs ow (nI s) n n)))) I :=
  have hk := h.2.2.2.1
  eX10_pieceCount_0 ⟨_, sc_requireSibling h (sp_inB_of (by omega) hs), _, _, sc_countPieces h ho (nI s), rfl, rfl⟩
theorem ft_pieceCount (hFT : cw_FT (cw_f (cc_w K))) (hl : K.1.stackTraces = false) (h : sp_cv n k v I) {x : Int32} (hx : ¬ (0 ≤ x ∧ x < nI k)) : cw_T (cc_w K) mX10_pieceCount [.ref (cw_a (cc_w K) 0), .int x] I "java/lang/IndexOutOfBoundsException" I :=
  xX10_pieceCount_0 (Or.inr ⟨_, _, st_requireSibling hFT hl h hx, rfl, rfl⟩)
theorem fr_pieceCount (h : sp_rv n k v J) (hn1 : 1 ≤ n) (ho : ∀ c, c < n → J 1 (2 + c) = ow c) {s : Nat} (hs : s < k) : cw_C (cr_w K) mX11_pieceCount [.ref (cw_a (cr_w K) 0), .int (nI s)] J (some (.int (nI (sp_pcs ow (nI s) n n)))) (cw_st J 0 9 0) :=
  have hk := h.2.2.2.1
  eX11_pieceCount_0 ⟨_, _, sr_isSibling h, fun _ => ⟨_, _, sr_fails0, fun _ => ⟨_, _, sr_pieces (h.st0 9 0) (fun c hc => ho c hc) (nI s), rfl, rfl⟩, fun q => absurd rfl q⟩, fun q => fp_no hk hs (sp_bit0 q)⟩
theorem fx_pieceCount (h : sp_rv n k v J) {x : Int32} (hx : ¬ (0 ≤ x ∧ x < nI k)) : cw_C (cr_w K) mX11_pieceCount [.ref (cw_a (cr_w K) 0), .int x] J (some (.int 0)) (cw_st J 0 9 1) :=
  eX11_pieceCount_0 ⟨_, _, sr_isSibling h, fun q => absurd (sp_bit1 q) hx, fun _ => ⟨_, _, sr_fails1, fun q => absurd q (by decide), fun _ => ⟨rfl, rfl⟩⟩⟩
theorem fc_favouriteFreeCell (h : sp_cv n k v I) (ho : ∀ c, c < n → I 9 c = ow c) {s : Nat} (hs : s < k) : cw_C (cc_w K) mX10_favouriteFreeCell [.ref (cw_a (cc_w K) 0), .int (nI s)] I (some (.int (sp_oi (sp_fv (v s) ow n)))) I :=
  have hk := h.2.2.2.1
  eX10_favouriteFreeCell_0 ⟨_, sc_requireSibling h (sp_inB_of (by omega) hs), _, _, sc_favouriteOf_9 h ho hs, rfl, rfl⟩
theorem ft_favouriteFreeCell (hFT : cw_FT (cw_f (cc_w K))) (hl : K.1.stackTraces = false) (h : sp_cv n k v I) {x : Int32} (hx : ¬ (0 ≤ x ∧ x < nI k)) : cw_T (cc_w K) mX10_favouriteFreeCell [.ref (cw_a (cc_w K) 0), .int x] I "java/lang/IndexOutOfBoundsException" I :=
  xX10_favouriteFreeCell_0 (Or.inr ⟨_, _, st_requireSibling hFT hl h hx, rfl, rfl⟩)
theorem fr_favouriteFreeCell (h : sp_rv n k v J) (hn1 : 1 ≤ n) (ho : ∀ c, c < n → J 1 (2 + c) = ow c) {s : Nat} (hs : s < k) : cw_C (cr_w K) mX11_favouriteFreeCell [.ref (cw_a (cr_w K) 0), .int (nI s)] J (some (.int (sp_oi (sp_fv (v s) ow n)))) (cw_st J 0 9 0) :=
  have hk := h.2.2.2.1
  eX11_favouriteFreeCell_0 ⟨_, _, sr_isSibling h, fun _ => ⟨_, _, sr_fails0, fun _ => ⟨_, _, sr_favourite (h.st0 9 0) (fun c hc => ho c hc) hs, rfl, rfl⟩, fun q => absurd rfl q⟩, fun q => fp_no hk hs (sp_bit0 q)⟩
theorem fx_favouriteFreeCell (h : sp_rv n k v J) {x : Int32} (hx : ¬ (0 ≤ x ∧ x < nI k)) : cw_C (cr_w K) mX11_favouriteFreeCell [.ref (cw_a (cr_w K) 0), .int x] J (some (.int 0)) (cw_st J 0 9 1) :=
  eX11_favouriteFreeCell_0 ⟨_, _, sr_isSibling h, fun q => absurd (sp_bit1 q) hx, fun _ => ⟨_, _, sr_fails1, fun q => absurd q (by decide), fun _ => ⟨rfl, rfl⟩⟩⟩
theorem fc_isSatisfied (h : sp_cv n k v I) (ho : ∀ c, c < n → I 9 c = ow c) {s : Nat} (hs : s < k) : cw_C (cc_w K) mX10_isSatisfied [.ref (cw_a (cc_w K) 0), .int (nI s)] I (some (.int (if sp_fair v ow n k s then 1 else 0))) I :=
  have hk := h.2.2.2.1
  eX10_isSatisfied_0 ⟨_, sc_requireSibling h (sp_inB_of (by omega) hs), _, _, sc_hasFairShare h ho hs, sp_bit, rfl, rfl⟩
theorem ft_isSatisfied (hFT : cw_FT (cw_f (cc_w K))) (hl : K.1.stackTraces = false) (h : sp_cv n k v I) {x : Int32} (hx : ¬ (0 ≤ x ∧ x < nI k)) : cw_T (cc_w K) mX10_isSatisfied [.ref (cw_a (cc_w K) 0), .int x] I "java/lang/IndexOutOfBoundsException" I :=
  xX10_isSatisfied_0 (Or.inr ⟨_, _, st_requireSibling hFT hl h hx, rfl, rfl⟩)
theorem fr_isSatisfied (h : sp_rv n k v J) (hn1 : 1 ≤ n) (ho : ∀ c, c < n → J 1 (2 + c) = ow c) {s : Nat} (hs : s < k) : cw_C (cr_w K) mX11_isSatisfied [.ref (cw_a (cr_w K) 0), .int (nI s)] J (some (.int (if sp_fair v ow n k s then 1 else 0))) (cw_st J 0 9 0) :=
  have hk := h.2.2.2.1
  eX11_isSatisfied_0 ⟨_, _, sr_isSibling h, fun _ => ⟨_, _, sr_fails0, fun _ => ⟨_, _, sr_isContent (h.st0 9 0) hn1 (fun c hc => ho c hc) hs, sp_bit, rfl, rfl⟩, fun q => absurd rfl q⟩, fun q => fp_no hk hs (sp_bit0 q)⟩
theorem fx_isSatisfied (h : sp_rv n k v J) {x : Int32} (hx : ¬ (0 ≤ x ∧ x < nI k)) : cw_C (cr_w K) mX11_isSatisfied [.ref (cw_a (cr_w K) 0), .int x] J (some (.int 0)) (cw_st J 0 9 1) :=
  eX11_isSatisfied_0 ⟨_, _, sr_isSibling h, fun q => absurd (sp_bit1 q) hx, fun _ => ⟨_, _, sr_fails1, fun q => absurd q (by decide), fun _ => ⟨rfl, rfl⟩⟩⟩
theorem fc_worthOfShare (h : sp_cv n k v I) (ho : ∀ c, c < n → I 9 c = ow c) {s o : Nat} (hs : s < k) (hs2 : o < k) : cw_C (cc_w K) mX10_worthOfShare [.ref (cw_a (cc_w K) 0), .int (nI s), .int (nI o)] I (some (.int (nI (sp_w v ow n s o)))) I :=
  have hk := h.2.2.2.1
  eX10_worthOfShare_0 ⟨_, sc_requireSibling h (sp_inB_of (by omega) hs), _, sc_requireSibling h (sp_inB_of (by omega) hs2), _, _, sc_w h ho hs, rfl, rfl⟩
theorem ft_worthOfShare (hFT : cw_FT (cw_f (cc_w K))) (hl : K.1.stackTraces = false) (h : sp_cv n k v I) {x y : Int32} (hx : ¬ ((0 ≤ x ∧ x < nI k) ∧ (0 ≤ y ∧ y < nI k))) : cw_T (cc_w K) mX10_worthOfShare [.ref (cw_a (cc_w K) 0), .int x, .int y] I "java/lang/IndexOutOfBoundsException" I := by
  by_cases z : 0 ≤ x ∧ x < nI k
  · exact xX10_worthOfShare_0 (Or.inl ⟨_, sc_requireSibling h z, Or.inr ⟨_, _, st_requireSibling hFT hl h (fun y => hx ⟨z, y⟩), rfl, rfl⟩⟩)
  · exact xX10_worthOfShare_0 (Or.inr ⟨_, _, st_requireSibling hFT hl h z, rfl, rfl⟩)
theorem fr_worthOfShare (h : sp_rv n k v J) (hn1 : 1 ≤ n) (ho : ∀ c, c < n → J 1 (2 + c) = ow c) {s o : Nat} (hs : s < k) (hs2 : o < k) : cw_C (cr_w K) mX11_worthOfShare [.ref (cw_a (cr_w K) 0), .int (nI s), .int (nI o)] J (some (.int (nI (sp_w v ow n s o)))) (cw_st J 0 9 0) :=
  have hk := h.2.2.2.1
  eX11_worthOfShare_0 ⟨_, _, sr_areSiblings h, fun _ => ⟨_, _, sr_fails0, fun _ => ⟨_, _, sr_w (h.st0 9 0) (fun c hc => ho c hc) hs, rfl, rfl⟩, fun q => absurd rfl q⟩, fun q => absurd ⟨sp_inB_of (by omega) hs, sp_inB_of (by omega) hs2⟩ (sp_bit0 q)⟩
theorem fx_worthOfShare (h : sp_rv n k v J) {x y : Int32} (hx : ¬ ((0 ≤ x ∧ x < nI k) ∧ (0 ≤ y ∧ y < nI k))) : cw_C (cr_w K) mX11_worthOfShare [.ref (cw_a (cr_w K) 0), .int x, .int y] J (some (.int 0)) (cw_st J 0 9 1) :=
  eX11_worthOfShare_0 ⟨_, _, sr_areSiblings h, fun q => absurd (sp_bit1 q) hx, fun _ => ⟨_, _, sr_fails1, fun q => absurd q (by decide), fun _ => ⟨rfl, rfl⟩⟩⟩
theorem fc_envies (h : sp_cv n k v I) (ho : ∀ c, c < n → I 9 c = ow c) {s o : Nat} (hs : s < k) (hs2 : o < k) : cw_C (cc_w K) mX10_envies [.ref (cw_a (cc_w K) 0), .int (nI s), .int (nI o)] I (some (.int (if sp_envy v ow n s o then 1 else 0))) I :=
  have hk := h.2.2.2.1
  eX10_envies_0 ⟨_, sc_requireSibling h (sp_inB_of (by omega) hs), _, sc_requireSibling h (sp_inB_of (by omega) hs2), _, _, sc_hasEnvy h ho hs, sp_bit, rfl, rfl⟩
theorem ft_envies (hFT : cw_FT (cw_f (cc_w K))) (hl : K.1.stackTraces = false) (h : sp_cv n k v I) {x y : Int32} (hx : ¬ ((0 ≤ x ∧ x < nI k) ∧ (0 ≤ y ∧ y < nI k))) : cw_T (cc_w K) mX10_envies [.ref (cw_a (cc_w K) 0), .int x, .int y] I "java/lang/IndexOutOfBoundsException" I := by
  by_cases z : 0 ≤ x ∧ x < nI k
  · exact xX10_envies_0 (Or.inl ⟨_, sc_requireSibling h z, Or.inr ⟨_, _, st_requireSibling hFT hl h (fun y => hx ⟨z, y⟩), rfl, rfl⟩⟩)
  · exact xX10_envies_0 (Or.inr ⟨_, _, st_requireSibling hFT hl h z, rfl, rfl⟩)
theorem fr_envies (h : sp_rv n k v J) (hn1 : 1 ≤ n) (ho : ∀ c, c < n → J 1 (2 + c) = ow c) {s o : Nat} (hs : s < k) (hs2 : o < k) : cw_C (cr_w K) mX11_envies [.ref (cw_a (cr_w K) 0), .int (nI s), .int (nI o)] J (some (.int (if sp_envy v ow n s o then 1 else 0))) (cw_st J 0 9 0) :=
  have hk := h.2.2.2.1
  eX11_envies_0 ⟨_, _, sr_areSiblings h, fun _ => ⟨_, _, sr_fails0, fun _ => ⟨_, _, sr_hasEnvy (h.st0 9 0) (fun c hc => ho c hc) hs, sp_bit, rfl, rfl⟩, fun q => absurd rfl q⟩, fun q => absurd ⟨sp_inB_of (by omega) hs, sp_inB_of (by omega) hs2⟩ (sp_bit0 q)⟩
theorem fx_envies (h : sp_rv n k v J) {x y : Int32} (hx : ¬ ((0 ≤ x ∧ x < nI k) ∧ (0 ≤ y ∧ y < nI k))) : cw_C (cr_w K) mX11_envies [.ref (cw_a (cr_w K) 0), .int x, .int y] J (some (.int 0)) (cw_st J 0 9 1) :=
  eX11_envies_0 ⟨_, _, sr_areSiblings h, fun q => absurd (sp_bit1 q) hx, fun _ => ⟨_, _, sr_fails1, fun q => absurd q (by decide), fun _ => ⟨rfl, rfl⟩⟩⟩
end FAC1
