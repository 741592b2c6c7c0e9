/-! ## the face: value, satisfaction, exchanges wanted -/
/-- the part of its worth that s has -/
def sp_sat (v : Nat → Nat → Nat) (ow : Nat → Int32) (n s : Nat) : UInt32 := if sp_s (v s) n = 0 then FP.fconst0 else FP.fdiv (FP.i2f (nI (sp_w v ow n s s))) (FP.i2f (nI (sp_s (v s) n)))
section FAC3
variable {K : cw_K} {I J : cw_M} {n k : Nat} {v : Nat → Nat → Nat} {ow : Nat → Int32}
theorem fc_value (h : sp_cv n k v I) {s c : Nat} (hs : s < k) (hc : c < n) : cw_C (cc_w K) mX10_value [.ref (cw_a (cc_w K) 0), .int (nI s), .int (nI c)] I (some (.int (nI (v s c)))) I :=
  have hk := h.2.2.2.1
  have hn := h.2.2.1
  eX10_value_0 ⟨_, sc_requireSibling h (sp_inB_of (by omega) hs), _, sc_requireCell h (sp_inB_of (by omega) hc), _, _, sc_valueOf h hs hc, rfl, rfl⟩
theorem ft_value (hFT : cw_FT (cw_f (cc_w K))) (hl : K.1.stackTraces = false) (h : sp_cv n k v I) {x y : Int32} (hx : ¬ ((0 ≤ x ∧ x < nI k) ∧ (0 ≤ y ∧ y < nI n))) : cw_T (cc_w K) mX10_value [.ref (cw_a (cc_w K) 0), .int x, .int y] I "java/lang/IndexOutOfBoundsException" I := by
  by_cases z : 0 ≤ x ∧ x < nI k
  · exact xX10_value_0 (Or.inl ⟨_, sc_requireSibling h z, Or.inr ⟨_, _, st_requireCell hFT hl h (fun y => hx ⟨z, y⟩), rfl, rfl⟩⟩)
  · exact xX10_value_0 (Or.inr ⟨_, _, st_requireSibling hFT hl h z, rfl, rfl⟩)
theorem fr_value (h : sp_rv n k v J) {s c : Nat} (hs : s < k) (hc : c < n) : cw_C (cr_w K) mX11_value [.ref (cw_a (cr_w K) 0), .int (nI s), .int (nI c)] J (some (.int (nI (v s c)))) (cw_st J 0 9 0) :=
  have hk := h.2.2.2.1
  have hn := h.2.2.1
  eX11_value_0 ⟨_, _, sr_isSibling h, fun q => fp_no hk hs (sp_bit0 q), fun _ => ⟨_, _, sr_isCell h, fun _ => ⟨_, _, sr_fails0, fun _ => ⟨_, _, sr_valueOf (h.st0 9 0) hs hc, rfl, rfl⟩, fun q => absurd rfl q⟩, fun q => absurd (sp_inB_of (by omega) hc) (sp_bit0 q)⟩⟩
theorem fx_value (h : sp_rv n k v J) {x y : Int32} (hx : ¬ ((0 ≤ x ∧ x < nI k) ∧ (0 ≤ y ∧ y < nI n))) : cw_C (cr_w K) mX11_value [.ref (cw_a (cr_w K) 0), .int x, .int y] J (some (.int 0)) (cw_st J 0 9 1) :=
  eX11_value_0 ⟨_, _, sr_isSibling h, fun _ => ⟨_, _, sr_fails1, fun q => absurd q (by decide), fun _ => ⟨rfl, rfl⟩⟩, fun q => ⟨_, _, sr_isCell h, fun q2 => absurd ⟨sp_bit1 q, sp_bit1 q2⟩ hx, fun _ => ⟨_, _, sr_fails1, fun q => absurd q (by decide), fun _ => ⟨rfl, rfl⟩⟩⟩⟩
theorem fc_wouldSwap (h : sp_cv n k v I) (ho : ∀ c, c < n → I 9 c = ow c) {s o : Nat} (hs : s < k) (hs2 : o < k) : cw_C (cc_w K) mX10_wouldSwap [.ref (cw_a (cc_w K) 0), .int (nI s), .int (nI o)] I (some (.int (if sp_envy v ow n s o ∧ sp_envy v ow n o s then 1 else 0))) I := by
  have hk := h.2.2.2.1
  refine eX10_wouldSwap_0 ⟨_, sc_requireSibling h (sp_inB_of (by omega) hs), _, sc_requireSibling h (sp_inB_of (by omega) hs2), _, _, sc_hasEnvy h ho hs, fun q => ?_, fun q => ⟨_, _, sc_hasEnvy h ho hs2, fun q2 => ?_, fun q2 => ?_⟩⟩
  · rw [if_neg (fun z => sp_bit0 q z.1)]; exact ⟨rfl, rfl⟩
  · rw [if_neg (fun z => sp_bit0 q2 z.2)]; exact ⟨rfl, rfl⟩
  · rw [if_pos ⟨sp_bit1 q, sp_bit1 q2⟩]; exact ⟨rfl, rfl⟩
theorem ft_wouldSwap (hFT : cw_FT (cw_f (cc_w K))) (hl : K.1.stackTraces = false) (h : sp_cv n k v I) {x y : Int32} (hx : ¬ ((0 ≤ x ∧ x < nI k) ∧ (0 ≤ y ∧ y < nI k))) : cw_T (cc_w K) mX10_wouldSwap [.ref (cw_a (cc_w K) 0), .int x, .int y] I "java/lang/IndexOutOfBoundsException" I := by
  by_cases z : 0 ≤ x ∧ x < nI k
  · exact xX10_wouldSwap_0 (Or.inl ⟨_, sc_requireSibling h z, Or.inr ⟨_, _, st_requireSibling hFT hl h (fun y => hx ⟨z, y⟩), rfl, rfl⟩⟩)
  · exact xX10_wouldSwap_0 (Or.inr ⟨_, _, st_requireSibling hFT hl h z, rfl, rfl⟩)
theorem fr_wouldSwap (h : sp_rv n k v J) (ho : ∀ c, c < n → J 1 (2 + c) = ow c) {s o : Nat} (hs : s < k) (hs2 : o < k) : cw_C (cr_w K) mX11_wouldSwap [.ref (cw_a (cr_w K) 0), .int (nI s), .int (nI o)] J (some (.int (if sp_envy v ow n s o ∧ sp_envy v ow n o s then 1 else 0))) (cw_st J 0 9 0) := by
  have hk := h.2.2.2.1
  refine eX11_wouldSwap_0 ⟨_, _, sr_areSiblings h, fun _ => ⟨_, _, sr_fails0, fun _ => ⟨_, _, sr_hasEnvy (h.st0 9 0) (fun c hc => ho c hc) hs, fun q => ?_, fun q => ⟨_, _, sr_hasEnvy (h.st0 9 0) (fun c hc => ho c hc) hs2, fun q2 => ?_, fun q2 => ?_⟩⟩, fun q => absurd rfl q⟩, fun q => absurd ⟨sp_inB_of (by omega) hs, sp_inB_of (by omega) hs2⟩ (sp_bit0 q)⟩
  · rw [if_neg (fun z => sp_bit0 q z.1)]; exact ⟨rfl, rfl⟩
  · rw [if_neg (fun z => sp_bit0 q2 z.2)]; exact ⟨rfl, rfl⟩
  · rw [if_pos ⟨sp_bit1 q, sp_bit1 q2⟩]; exact ⟨rfl, rfl⟩
theorem fx_wouldSwap (h : sp_rv n k v J) {x y : Int32} (hx : ¬ ((0 ≤ x ∧ x < nI k) ∧ (0 ≤ y ∧ y < nI k))) : cw_C (cr_w K) mX11_wouldSwap [.ref (cw_a (cr_w K) 0), .int x, .int y] J (some (.int 0)) (cw_st J 0 9 1) :=
  eX11_wouldSwap_0 ⟨_, _, sr_areSiblings h, fun q => absurd (sp_bit1 q) hx, fun _ => ⟨_, _, sr_fails1, fun q => absurd q (by decide), fun _ => ⟨rfl, rfl⟩⟩⟩
theorem fc_satisfaction (h : sp_cv n k v I) (ho : ∀ c, c < n → I 9 c = ow c) {s : Nat} (hs : s < k) : cw_C (cc_w K) mX10_satisfaction [.ref (cw_a (cc_w K) 0), .int (nI s)] I (some (.float (sp_sat v ow n s))) I := by
  have hk := h.2.2.2.1
  have b1 := sp_w_le (ow := ow) (o := s) h.2.2.2.2.1 h.2.2.1 hs
  have b2 := sp_t_le h.2.2.2.2.1 h.2.2.1 hs
  refine eX10_satisfaction_0 ⟨_, sc_requireSibling h (sp_inB_of (by omega) hs), _, _, sc_worthOfAll h hs, fun q => ⟨_, _, sc_wf h ho hs, ?_⟩, fun q => ?_⟩
  · have q2 : ¬ sp_s (v s) n = 0 := fun z => q (by rw [z]; rfl)
    unfold sp_sat
    rw [if_neg q2]
    exact ⟨sp_n32 (by omega) (by omega) (by omega), rfl, rfl⟩
  · have q2 : sp_s (v s) n = 0 := (nI_eq (b := 0) (by omega) (by omega)).mp q
    unfold sp_sat
    rw [if_pos q2]
    exact ⟨rfl, rfl⟩
theorem ft_satisfaction (hFT : cw_FT (cw_f (cc_w K))) (hl : K.1.stackTraces = false) (h : sp_cv n k v I) {x : Int32} (hx : ¬ (0 ≤ x ∧ x < nI k)) : cw_T (cc_w K) mX10_satisfaction [.ref (cw_a (cc_w K) 0), .int x] I "java/lang/IndexOutOfBoundsException" I :=
  xX10_satisfaction_0 (Or.inr ⟨_, _, st_requireSibling hFT hl h hx, rfl, rfl⟩)
theorem fr_satisfaction (h : sp_rv n k v J) (hn1 : 1 ≤ n) (ho : ∀ c, c < n → J 1 (2 + c) = ow c) {s : Nat} (hs : s < k) : cw_C (cr_w K) mX11_satisfaction [.ref (cw_a (cr_w K) 0), .int (nI s)] J (some (.float (sp_sat v ow n s))) (cw_st J 0 9 0) := by
  have hk := h.2.2.2.1
  have b1 := sp_w_le (ow := ow) (o := s) h.2.2.2.2.1 h.2.2.1 hs
  have b2 := sp_t_le h.2.2.2.2.1 h.2.2.1 hs
  refine eX11_satisfaction_0 ⟨_, _, sr_isSibling h, fun _ => ⟨_, _, sr_fails0, fun _ => ⟨_, _, sr_totalOf (h.st0 9 0) hn1 hs, fun q => ⟨_, _, sr_wf (h.st0 9 0) (fun c hc => ho c hc) hs, _, _, sr_totalOf (h.st0 9 0) hn1 hs, ?_⟩, fun q => ?_⟩, fun q => absurd rfl q⟩, fun q => fp_no hk hs (sp_bit0 q)⟩
  · have q2 : ¬ sp_s (v s) n = 0 := fun z => q (by rw [z]; rfl)
    unfold sp_sat
    rw [if_neg q2]
    exact ⟨sp_n32 (by omega) (by omega) (by omega), rfl, rfl⟩
  · have q2 : sp_s (v s) n = 0 := (nI_eq (b := 0) (by omega) (by omega)).mp q
    unfold sp_sat
    rw [if_pos q2]
    exact ⟨rfl, rfl⟩
theorem fx_satisfaction (h : sp_rv n k v J) {x : Int32} (hx : ¬ (0 ≤ x ∧ x < nI k)) : cw_C (cr_w K) mX11_satisfaction [.ref (cw_a (cr_w K) 0), .int x] J (some (.float FP.fconst0)) (cw_st J 0 9 1) :=
  eX11_satisfaction_0 ⟨_, _, sr_isSibling h, fun q => absurd (sp_bit1 q) hx, fun _ => ⟨_, _, sr_fails1, fun q => absurd q (by decide), fun _ => ⟨rfl, rfl⟩⟩⟩
end FAC3
