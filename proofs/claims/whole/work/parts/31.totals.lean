/-! ## totals, both sides -/
/-- the total welfare of the first m -/
abbrev sp_tw (v : Nat → Nat → Nat) (ow : Nat → Int32) (n m : Nat) : Nat := sp_s (fun s => sp_w v ow n s s) m
/-- the product of the welfares of the first m -/
def sp_pw (v : Nat → Nat → Nat) (ow : Nat → Int32) (n : Nat) : Nat → Int64
  | 0 => 1
  | m + 1 => sp_pw v ow n m * (nI (sp_w v ow n m m)).toInt64
/-- the greatest total: each cell to who values it most -/
abbrev sp_gt (v : Nat → Nat → Nat) (k m : Nat) : Nat := sp_s (fun c => sp_max (fun s => v s c) k) m
/-- how many cuts there are between the first m + 1 cells -/
abbrev sp_cuts (ow : Nat → Int32) (m : Nat) : Nat := sp_s (fun c => if ow (c + 1) = ow c then 0 else 1) m
section TOTC
variable {K : cw_K} {I : cw_M} {n k : Nat} {v : Nat → Nat → Nat} {ow : Nat → Int32}
theorem sl_totalWelfare (h : sp_cv n k v I) (ho : ∀ c, c < n → I 9 c = ow c) : ∀ d i : Nat, i + d = k → bX10_totalWelfare_0_4 K (some (.int (nI (sp_tw v ow n k)))) I (nI (sp_tw v ow n i)) (nI i) I := by
  have hk := h.2.2.2.1
  intro d
  induction d with
  | zero =>
    intro i hi
    have : i = k := by omega
    subst this
    exact tbX10_totalWelfare_0_4 (br_t (by rw [h.2.1]; exact nI_le (Nat.le_refl _) (by omega)) ⟨rfl, rfl⟩)
  | succ d ih =>
    intro i hi
    have h1 := ih (i + 1) (by omega)
    refine tbX10_totalWelfare_0_4 (br_f (by rw [h.2.1]; exact nI_ge (by omega) (by omega)) ⟨_, _, sc_wf h ho (show i < k by omega), ?_⟩)
    rw [nI_add, nI_1]
    exact h1
theorem sc_totalWelfare (h : sp_cv n k v I) (ho : ∀ c, c < n → I 9 c = ow c) : cw_C (cc_w K) mX10_totalWelfare [.ref (cw_a (cc_w K) 0)] I (some (.int (nI (sp_tw v ow n k)))) I :=
  eX10_totalWelfare_0 (sl_totalWelfare h ho k 0 (by omega))
theorem sl_welfareProduct (h : sp_cv n k v I) (ho : ∀ c, c < n → I 9 c = ow c) : ∀ d i : Nat, i + d = k → bX10_welfareProduct_0_4 K (some (.long (sp_pw v ow n k))) I (sp_pw v ow n i) (nI i) I := by
  have hk := h.2.2.2.1
  intro d
  induction d with
  | zero =>
    intro i hi
    have : i = k := by omega
    subst this
    exact tbX10_welfareProduct_0_4 (br_t (by rw [h.2.1]; exact nI_le (Nat.le_refl _) (by omega)) ⟨rfl, rfl⟩)
  | succ d ih =>
    intro i hi
    have h1 := ih (i + 1) (by omega)
    refine tbX10_welfareProduct_0_4 (br_f (by rw [h.2.1]; exact nI_ge (by omega) (by omega)) ⟨_, _, sc_wf h ho (show i < k by omega), ?_⟩)
    rw [nI_1]
    exact h1
theorem sc_welfareProduct (h : sp_cv n k v I) (ho : ∀ c, c < n → I 9 c = ow c) : cw_C (cc_w K) mX10_welfareProduct [.ref (cw_a (cc_w K) 0)] I (some (.long (sp_pw v ow n k))) I :=
  eX10_welfareProduct_0 (sl_welfareProduct h ho k 0 (by omega))
theorem sl_greatestTotal (h : sp_cv n k v I) : ∀ d i : Nat, i + d = n → bX10_greatestTotalWelfare_0_4 K (some (.int (nI (sp_gt v k n)))) I (nI (sp_gt v k i)) (nI i) I := by
  have hn := h.2.2.1
  intro d
  induction d with
  | zero =>
    intro i hi
    have : i = n := by omega
    subst this
    exact tbX10_greatestTotalWelfare_0_4 (br_t (by rw [h.1]; exact nI_le (Nat.le_refl _) (by omega)) ⟨rfl, rfl⟩)
  | succ d ih =>
    intro i hi
    have h1 := ih (i + 1) (by omega)
    refine tbX10_greatestTotalWelfare_0_4 (br_f (by rw [h.1]; exact nI_ge (by omega) (by omega)) ⟨_, _, sc_greatestValueOf h (show i < n by omega), ?_⟩)
    rw [nI_add, nI_1]
    exact h1
theorem sc_greatestTotalWelfare (h : sp_cv n k v I) : cw_C (cc_w K) mX10_greatestTotalWelfare [.ref (cw_a (cc_w K) 0)] I (some (.int (nI (sp_gt v k n)))) I :=
  eX10_greatestTotalWelfare_0 (sl_greatestTotal h n 0 (by omega))
theorem sl_cutCount (h : sp_cv n k v I) (hn1 : 1 ≤ n) (ho : ∀ c, c < n → I 9 c = ow c) : ∀ d i : Nat, i + d = n - 1 → bX10_cutCount_0_4 K (some (.int (nI (sp_cuts ow (n - 1))))) I (nI (sp_cuts ow i)) (nI i) I := by
  have hn := h.2.2.1
  have e0 : I 5 0 - 1 = nI (n - 1) := by rw [h.1]; exact sp_sub (b := 1) hn1
  intro d
  induction d with
  | zero =>
    intro i hi
    have : i = n - 1 := by omega
    rw [this]
    exact tbX10_cutCount_0_4 (br_t (by rw [e0]; exact nI_le (Nat.le_refl _) (by omega)) ⟨rfl, rfl⟩)
  | succ d ih =>
    intro i hi
    have h1 := ih (i + 1) (by omega)
    have e1 : sp_cuts ow (i + 1) = sp_cuts ow i + (if ow (i + 1) = ow i then 0 else 1) := rfl
    have e2 : sp_end ow n i = decide (ow i ≠ ow (i + 1)) := by
      unfold sp_end
      rw [decide_eq_false (show ¬ n ≤ i + 1 by omega), Bool.false_or]
    refine tbX10_cutCount_0_4 (br_f (by rw [e0]; exact nI_ge (by omega) (by omega)) ⟨_, _, sc_endsPiece h ho (show i < n by omega), fun q => ?_, fun q => ?_⟩)
    · have q2 := sp_bit0 q
      rw [e2, decide_eq_true_eq, Decidable.not_not] at q2
      rw [e1, if_pos q2.symm, Nat.add_zero] at h1
      rw [nI_1]
      exact h1
    · have q2 := sp_bit1 q
      rw [e2, decide_eq_true_eq] at q2
      rw [e1, if_neg (fun z => q2 z.symm)] at h1
      rw [nI_1, nI_1]
      exact h1
theorem sc_cutCount (h : sp_cv n k v I) (hn1 : 1 ≤ n) (ho : ∀ c, c < n → I 9 c = ow c) : cw_C (cc_w K) mX10_cutCount [.ref (cw_a (cc_w K) 0)] I (some (.int (nI (sp_cuts ow (n - 1))))) I :=
  eX10_cutCount_0 (sl_cutCount h hn1 ho (n - 1) 0 (by omega))
end TOTC
section TOTR
variable {K : cw_K} {J : cw_M} {n k : Nat} {v : Nat → Nat → Nat} {ow : Nat → Int32}
theorem sl_rtotalWelfare (h : sp_rv n k v J) (ho : ∀ c, c < n → J 1 (2 + c) = ow c) : ∀ d i : Nat, i + d = k → bX11_totalWelfare_0_9 K (some (.int (nI (sp_tw v ow n k)))) J (nI (sp_tw v ow n i)) (nI i) J := by
  have hk := h.2.2.2.1
  intro d
  induction d with
  | zero =>
    intro i hi
    have : i = k := by omega
    subst this
    exact tbX11_totalWelfare_0_9 (br_t (by rw [h.2.1]; exact nI_le (Nat.le_refl _) (by omega)) ⟨rfl, rfl⟩)
  | succ d ih =>
    intro i hi
    have h1 := ih (i + 1) (by omega)
    refine tbX11_totalWelfare_0_9 (br_f (by rw [h.2.1]; exact nI_ge (by omega) (by omega)) ⟨_, _, sr_wf h ho (show i < k by omega), ?_⟩)
    rw [nI_add, nI_1]
    exact h1
theorem sr_totalWelfare (h : sp_rv n k v J) (ho : ∀ c, c < n → J 1 (2 + c) = ow c) : cw_C (cr_w K) mX11_totalWelfare [.ref (cw_a (cr_w K) 0)] J (some (.int (nI (sp_tw v ow n k)))) (cw_st J 0 9 0) :=
  eX11_totalWelfare_0 (sl_rtotalWelfare (h.st0 9 0) (fun c hc => ho c hc) k 0 (by omega))
theorem sl_rwelfareProduct (h : sp_rv n k v J) (ho : ∀ c, c < n → J 1 (2 + c) = ow c) : ∀ d i : Nat, i + d = k → bX11_welfareProduct_0_9 K (some (.long (sp_pw v ow n k))) J (sp_pw v ow n i) (nI i) J := by
  have hk := h.2.2.2.1
  intro d
  induction d with
  | zero =>
    intro i hi
    have : i = k := by omega
    subst this
    exact tbX11_welfareProduct_0_9 (br_t (by rw [h.2.1]; exact nI_le (Nat.le_refl _) (by omega)) ⟨rfl, rfl⟩)
  | succ d ih =>
    intro i hi
    have h1 := ih (i + 1) (by omega)
    refine tbX11_welfareProduct_0_9 (br_f (by rw [h.2.1]; exact nI_ge (by omega) (by omega)) ⟨_, _, sr_wf h ho (show i < k by omega), ?_⟩)
    rw [nI_1]
    exact h1
theorem sr_welfareProduct (h : sp_rv n k v J) (ho : ∀ c, c < n → J 1 (2 + c) = ow c) : cw_C (cr_w K) mX11_welfareProduct [.ref (cw_a (cr_w K) 0)] J (some (.long (sp_pw v ow n k))) (cw_st J 0 9 0) :=
  eX11_welfareProduct_0 (sl_rwelfareProduct (h.st0 9 0) (fun c hc => ho c hc) k 0 (by omega))
theorem sl_rgreatest24 (h : sp_rv n k v J) {r : Option Value} {t c : Nat} (hc : c < n) (hout : bX11_greatestTotalWelfare_0_9 K r J (nI (t + sp_max (fun s => v s c) k)) (nI (c + 1)) J) : ∀ d i : Nat, i + d = k → bX11_greatestTotalWelfare_0_24 K r J (nI t) (nI c) (nI (sp_max (fun s => v s c) i)) (nI i) J := by
  have hk := h.2.2.2.1
  intro d
  induction d with
  | zero =>
    intro i hi
    have : i = k := by omega
    subst this
    refine tbX11_greatestTotalWelfare_0_24 (br_t (by rw [h.2.1]; exact nI_le (Nat.le_refl _) (by omega)) ?_)
    rw [nI_add, nI_1]
    exact hout
  | succ d ih =>
    intro i hi
    have h1 := ih (i + 1) (by omega)
    have e0 : sp_max (fun s => v s c) (i + 1) = max (sp_max (fun s => v s c) i) (v i c) := rfl
    have b1 := h.2.2.2.2.1 i c (by omega) hc
    have b2 : sp_max (fun s => v s c) i ≤ 9 := sp_max_le fun j hj => h.2.2.2.2.1 j c (by omega) hc
    refine tbX11_greatestTotalWelfare_0_24 (br_f (by rw [h.2.1]; exact nI_ge (by omega) (by omega)) ⟨_, _, sr_valueOf h (show i < k by omega) hc, fun q => ?_, fun q => ⟨_, _, sr_valueOf h (show i < k by omega) hc, ?_⟩⟩)
    · have q2 := (nI_leI (by omega) (by omega)).mp q
      rw [e0, Nat.max_eq_left q2] at h1
      rw [nI_1]
      exact h1
    · have q2 : ¬ v i c ≤ sp_max (fun s => v s c) i := fun z => q (nI_le z (by omega))
      rw [e0, Nat.max_eq_right (by omega)] at h1
      rw [nI_1]
      exact h1
theorem sl_rgreatest (h : sp_rv n k v J) : ∀ d i : Nat, i + d = n → bX11_greatestTotalWelfare_0_9 K (some (.int (nI (sp_gt v k n)))) J (nI (sp_gt v k i)) (nI i) J := by
  have hn := h.2.2.1
  intro d
  induction d with
  | zero =>
    intro i hi
    have : i = n := by omega
    subst this
    exact tbX11_greatestTotalWelfare_0_9 (br_t (by rw [h.1]; exact nI_le (Nat.le_refl _) (by omega)) ⟨rfl, rfl⟩)
  | succ d ih =>
    intro i hi
    refine tbX11_greatestTotalWelfare_0_9 (br_f (by rw [h.1]; exact nI_ge (by omega) (by omega)) ?_)
    exact sl_rgreatest24 (K := K) (r := some (.int (nI (sp_gt v k n)))) (t := sp_gt v k i) h (show i < n by omega) (ih (i + 1) (by omega)) k 0 (by omega)
theorem sr_greatestTotalWelfare (h : sp_rv n k v J) : cw_C (cr_w K) mX11_greatestTotalWelfare [.ref (cw_a (cr_w K) 0)] J (some (.int (nI (sp_gt v k n)))) (cw_st J 0 9 0) :=
  eX11_greatestTotalWelfare_0 (sl_rgreatest (h.st0 9 0) n 0 (by omega))
theorem sl_rcutCount (h : sp_rv n k v J) (hn1 : 1 ≤ n) (ho : ∀ c, c < n → J 1 (2 + c) = ow c) : ∀ d i : Nat, i + 1 + d = n → bX11_cutCount_0_9 K (some (.int (nI (sp_cuts ow (n - 1))))) J (nI (sp_cuts ow i)) (nI (i + 1)) J := by
  have hn := h.2.2.1
  intro d
  induction d with
  | zero =>
    intro i hi
    have : i = n - 1 := by omega
    rw [this]
    exact tbX11_cutCount_0_9 (br_t (by rw [h.1]; exact nI_le (by omega) (by omega)) ⟨rfl, rfl⟩)
  | succ d ih =>
    intro i hi
    have h1 := ih (i + 1) (by omega)
    have e1 : sp_cuts ow (i + 1) = sp_cuts ow i + (if ow (i + 1) = ow i then 0 else 1) := rfl
    refine tbX11_cutCount_0_9 (br_f (by rw [h.1]; exact nI_ge (by omega) (by omega)) ?_)
    rw [show nI (i + 1) - 1 = nI i from nI_pred i]
    refine ⟨_, _, sr_ownerOf hn ho (show i + 1 < n by omega), _, _, sr_ownerOf hn ho (show i < n by omega), fun q => ?_, fun q => ?_⟩
    · rw [e1, if_pos q, Nat.add_zero] at h1
      rw [nI_1, Int32.add_zero]
      exact h1
    · rw [e1, if_neg q] at h1
      rw [nI_1, nI_1]
      exact h1
theorem sr_cutCount (h : sp_rv n k v J) (hn1 : 1 ≤ n) (ho : ∀ c, c < n → J 1 (2 + c) = ow c) : cw_C (cr_w K) mX11_cutCount [.ref (cw_a (cr_w K) 0)] J (some (.int (nI (sp_cuts ow (n - 1))))) (cw_st J 0 9 0) :=
  eX11_cutCount_0 (sl_rcutCount (h.st0 9 0) hn1 (fun c hc => ho c hc) (n - 1) 0 (by omega))
end TOTR
