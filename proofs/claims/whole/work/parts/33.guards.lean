/-! ## pieces on average; guards, both sides -/
abbrev sp_apc (ow : Nat → Int32) (n m : Nat) : Nat := sp_s (fun s => sp_pcs ow (nI s) n n) m
theorem sp_pcs_le {ow : Nat → Int32} {o : Int32} {n m : Nat} : sp_pcs ow o n m ≤ 1 * m := sp_s_le fun j _ => by split <;> omega
theorem sp_apc_le {ow : Nat → Int32} {n m : Nat} : sp_apc ow n m ≤ n * m := sp_s_le fun j _ => by
  have := sp_pcs_le (ow := ow) (o := nI j) (n := n) (m := n)
  show sp_pcs ow (nI j) n n ≤ n
  omega
theorem sp_apc_lt {ow : Nat → Int32} {n k m : Nat} (hn : n ≤ 24) (hk : k ≤ 6) (hm : m ≤ k) : sp_apc ow n m < 145 := by
  have h1 := sp_apc_le (ow := ow) (n := n) (m := m)
  have h2 : n * m ≤ 24 * 6 := Nat.mul_le_mul hn (by omega)
  omega
/-- what is asked of a number is a number below -/
theorem sp_inB {x : Int32} {k : Nat} (hk : k < 2 ^ 31) (h : 0 ≤ x ∧ x < nI k) : ∃ s, s < k ∧ x = nI s := by
  obtain ⟨h1, h2⟩ := h
  rw [Int32.le_iff_toInt_le] at h1
  rw [Int32.lt_iff_toInt_lt, nI_toInt hk] at h2
  have h0 : (0 : Int32).toInt = 0 := by decide
  rw [h0] at h1
  refine ⟨x.toInt.toNat, by omega, sp_nat_of (by omega) (by omega)⟩
theorem sp_inB_of {s k : Nat} (hk : k < 2 ^ 31) (hs : s < k) : 0 ≤ nI s ∧ nI s < nI k := ⟨nI_le (a := 0) (Nat.zero_le s) (by omega), nI_lt hs hk⟩
section GUAC
variable {K : cw_K} {I : cw_M} {n k : Nat} {v : Nat → Nat → Nat} {ow : Nat → Int32}
theorem sl_meanPieces (h : sp_cv n k v I) (hk1 : 1 ≤ k) (ho : ∀ c, c < n → I 9 c = ow c) : ∀ d i : Nat, i + d = k → bX10_meanPieces_0_4 K (some (.double (FP.ddiv (FP.i2d (nI (sp_apc ow n k))) (FP.i2d (nI k))))) I (nI (sp_apc ow n i)) (nI i) I := by
  have hk := h.2.2.2.1
  intro d
  induction d with
  | zero =>
    intro i hi
    have : i = k := by omega
    subst this
    refine tbX10_meanPieces_0_4 (br_t (by rw [h.2.1]; exact nI_le (Nat.le_refl _) (by omega)) ?_)
    rw [h.2.1]
    exact ⟨sp_n64 i (by omega) hk1 _ (sp_apc_lt h.2.2.1 hk (Nat.le_refl _)), rfl, rfl⟩
  | succ d ih =>
    intro i hi
    have h1 := ih (i + 1) (by omega)
    refine tbX10_meanPieces_0_4 (br_f (by rw [h.2.1]; exact nI_ge (by omega) (by omega)) ⟨_, _, sc_countPieces h ho (nI i), ?_⟩)
    rw [nI_add, nI_1]
    exact h1
theorem sc_meanPieces (h : sp_cv n k v I) (hk1 : 1 ≤ k) (ho : ∀ c, c < n → I 9 c = ow c) : cw_C (cc_w K) mX10_meanPieces [.ref (cw_a (cc_w K) 0)] I (some (.double (FP.ddiv (FP.i2d (nI (sp_apc ow n k))) (FP.i2d (nI k))))) I :=
  eX10_meanPieces_0 (sl_meanPieces h hk1 ho k 0 (by omega))
theorem sc_hasRun (h : sp_cv n k v I) {x y : Int32} : cw_C (cc_w K) mX1_hasRun [.ref (cw_a (cc_w K) 5), .int x, .int y] I (some (.int (if (0 ≤ x ∧ x < nI n) ∧ (0 ≤ y ∧ y < nI n) ∧ ¬ y < x then 1 else 0))) I := by
  refine eX1_hasRun_5 ⟨_, _, sc_hasCell h, fun q => ?_, fun q => ⟨_, _, sc_hasCell h, fun q2 => ?_, fun q2 => ⟨fun q3 => ?_, fun q3 => ?_⟩⟩⟩
  · rw [if_neg (fun z => sp_bit0 q z.1)]; exact ⟨rfl, rfl⟩
  · rw [if_neg (fun z => sp_bit0 q2 z.2.1)]; exact ⟨rfl, rfl⟩
  · rw [if_neg (fun z => z.2.2 q3)]; exact ⟨rfl, rfl⟩
  · rw [if_pos ⟨sp_bit1 q, sp_bit1 q2, q3⟩]; exact ⟨rfl, rfl⟩
theorem sc_requireSibling (h : sp_cv n k v I) {x : Int32} (hx : 0 ≤ x ∧ x < nI k) : cw_C (cc_w K) mX10_requireSibling [.ref (cw_a (cc_w K) 0), .int x] I none I :=
  eX10_requireSibling_0 ⟨_, _, sc_hasSibling h, fun _ => ⟨rfl, rfl⟩, fun q => sp_bit0 q hx⟩
theorem sc_requireCell (h : sp_cv n k v I) {x : Int32} (hx : 0 ≤ x ∧ x < nI n) : cw_C (cc_w K) mX10_requireCell [.ref (cw_a (cc_w K) 0), .int x] I none I :=
  eX10_requireCell_0 ⟨_, _, sc_hasCell h, fun _ => ⟨rfl, rfl⟩, fun q => sp_bit0 q hx⟩
theorem sc_requireRun (h : sp_cv n k v I) {x y : Int32} (hx : (0 ≤ x ∧ x < nI n) ∧ (0 ≤ y ∧ y < nI n) ∧ ¬ y < x) : cw_C (cc_w K) mX10_requireRun [.ref (cw_a (cc_w K) 0), .int x, .int y] I none I :=
  eX10_requireRun_0 ⟨_, _, sc_hasRun h, fun _ => ⟨rfl, rfl⟩, fun q => sp_bit0 q hx⟩
theorem st_requireSibling (hFT : cw_FT (cw_f (cc_w K))) (hl : K.1.stackTraces = false) (h : sp_cv n k v I) {x : Int32} (hx : ¬ (0 ≤ x ∧ x < nI k)) : cw_T (cc_w K) mX10_requireSibling [.ref (cw_a (cc_w K) 0), .int x] I "java/lang/IndexOutOfBoundsException" I :=
  xX10_requireSibling_0 hFT hl ⟨_, _, sc_hasSibling h, fun q => hx (sp_bit1 q), fun _ => ⟨rfl, rfl⟩⟩
theorem st_requireCell (hFT : cw_FT (cw_f (cc_w K))) (hl : K.1.stackTraces = false) (h : sp_cv n k v I) {x : Int32} (hx : ¬ (0 ≤ x ∧ x < nI n)) : cw_T (cc_w K) mX10_requireCell [.ref (cw_a (cc_w K) 0), .int x] I "java/lang/IndexOutOfBoundsException" I :=
  xX10_requireCell_0 hFT hl ⟨_, _, sc_hasCell h, fun q => hx (sp_bit1 q), fun _ => ⟨rfl, rfl⟩⟩
theorem st_requireRun (hFT : cw_FT (cw_f (cc_w K))) (hl : K.1.stackTraces = false) (h : sp_cv n k v I) {x y : Int32} (hx : ¬ ((0 ≤ x ∧ x < nI n) ∧ (0 ≤ y ∧ y < nI n) ∧ ¬ y < x)) : cw_T (cc_w K) mX10_requireRun [.ref (cw_a (cc_w K) 0), .int x, .int y] I "java/lang/IllegalArgumentException" I :=
  xX10_requireRun_0 hFT hl ⟨_, _, sc_hasRun h, fun q => hx (sp_bit1 q), fun _ => ⟨rfl, rfl⟩⟩
end GUAC
section GUAR
variable {K : cw_K} {J : cw_M} {n k : Nat} {v : Nat → Nat → Nat} {ow : Nat → Int32}
theorem sl_rmeanPieces (h : sp_rv n k v J) (hk1 : 1 ≤ k) (ho : ∀ c, c < n → J 1 (2 + c) = ow c) : ∀ d i : Nat, i + d = k → bX11_meanPieces_0_9 K (some (.double (FP.ddiv (FP.i2d (nI (sp_apc ow n k))) (FP.i2d (nI k))))) J (nI (sp_apc ow n i)) (nI i) J := by
  have hk := h.2.2.2.1
  intro d
  induction d with
  | zero =>
    intro i hi
    have : i = k := by omega
    subst this
    refine tbX11_meanPieces_0_9 (br_t (by rw [h.2.1]; exact nI_le (Nat.le_refl _) (by omega)) ?_)
    rw [h.2.1]
    exact ⟨sp_n64 i (by omega) hk1 _ (sp_apc_lt h.2.2.1 hk (Nat.le_refl _)), rfl, rfl⟩
  | succ d ih =>
    intro i hi
    have h1 := ih (i + 1) (by omega)
    refine tbX11_meanPieces_0_9 (br_f (by rw [h.2.1]; exact nI_ge (by omega) (by omega)) ⟨_, _, sr_pieces h ho (nI i), ?_⟩)
    rw [nI_add, nI_1]
    exact h1
theorem sr_meanPieces (h : sp_rv n k v J) (hk1 : 1 ≤ k) (ho : ∀ c, c < n → J 1 (2 + c) = ow c) : cw_C (cr_w K) mX11_meanPieces [.ref (cw_a (cr_w K) 0)] J (some (.double (FP.ddiv (FP.i2d (nI (sp_apc ow n k))) (FP.i2d (nI k))))) (cw_st J 0 9 0) :=
  eX11_meanPieces_0 (sl_rmeanPieces (h.st0 9 0) hk1 (fun c hc => ho c hc) k 0 (by omega))
theorem sr_isRange (h : sp_rv n k v J) {x y : Int32} : cw_C (cr_w K) mX11_isRange [.ref (cw_a (cr_w K) 0), .int x, .int y] J (some (.int (if (0 ≤ x ∧ x < nI n) ∧ (0 ≤ y ∧ y < nI n) ∧ ¬ y < x then 1 else 0))) J := by
  refine eX11_isRange_0 ⟨_, _, sr_isCell h, fun q => ?_, fun q => ⟨_, _, sr_isCell h, fun q2 => ?_, fun q2 => ⟨fun q3 => ?_, fun q3 => ?_⟩⟩⟩
  · rw [if_neg (fun z => sp_bit0 q z.1)]; exact ⟨rfl, rfl⟩
  · rw [if_neg (fun z => sp_bit0 q2 z.2.1)]; exact ⟨rfl, rfl⟩
  · rw [if_neg (fun z => z.2.2 q3)]; exact ⟨rfl, rfl⟩
  · rw [if_pos ⟨sp_bit1 q, sp_bit1 q2, q3⟩]; exact ⟨rfl, rfl⟩
theorem sr_areSiblings (h : sp_rv n k v J) {x y : Int32} : cw_C (cr_w K) mX11_areSiblings [.ref (cw_a (cr_w K) 0), .int x, .int y] J (some (.int (if (0 ≤ x ∧ x < nI k) ∧ (0 ≤ y ∧ y < nI k) then 1 else 0))) J := by
  refine eX11_areSiblings_0 ⟨_, _, sr_isSibling h, fun q => ?_, fun q => ⟨_, _, sr_isSibling h, fun q2 => ?_, fun q2 => ?_⟩⟩
  · rw [if_neg (fun z => sp_bit0 q z.1)]; exact ⟨rfl, rfl⟩
  · rw [if_neg (fun z => sp_bit0 q2 z.2)]; exact ⟨rfl, rfl⟩
  · rw [if_pos ⟨sp_bit1 q, sp_bit1 q2⟩]; exact ⟨rfl, rfl⟩
theorem sp_st_at (J : cw_M) (o p : Nat) (x : Int32) : (cw_st J o p x) o p = x := by simp [cw_st, cw_up, upd]
theorem sr_fails0 : cw_C (cr_w K) mX11_fails [.ref (cw_a (cr_w K) 0), .int 0, .int 0, .int 0] J (some (.int 0)) (cw_st J 0 9 0) := by
  refine eX11_fails_0 ⟨fun _ => ⟨fun _ => ⟨fun _ => ⟨fun _ => ⟨rfl, rfl⟩, fun q => ?_⟩, fun q => absurd rfl q⟩, fun q => absurd rfl q⟩, fun q => absurd rfl q⟩
  rw [sp_st_at] at q
  exact absurd (by decide) q
theorem sr_fails1 {y z : Int32} : cw_C (cr_w K) mX11_fails [.ref (cw_a (cr_w K) 0), .int 1, .int y, .int z] J (some (.int 1)) (cw_st J 0 9 1) := by
  refine eX11_fails_0 ⟨fun q => absurd q (by decide), fun _ => ⟨fun q => ?_, fun _ => ⟨rfl, rfl⟩⟩⟩
  rw [sp_st_at] at q
  exact absurd q (by decide)
theorem sr_fails2 {z : Int32} : cw_C (cr_w K) mX11_fails [.ref (cw_a (cr_w K) 0), .int 0, .int 1, .int z] J (some (.int 1)) (cw_st J 0 9 2) := by
  refine eX11_fails_0 ⟨fun _ => ⟨fun q => absurd q (by decide), fun _ => ⟨fun q => ?_, fun _ => ⟨rfl, rfl⟩⟩⟩, fun q => absurd rfl q⟩
  rw [sp_st_at] at q
  exact absurd q (by decide)
theorem sr_fails3 : cw_C (cr_w K) mX11_fails [.ref (cw_a (cr_w K) 0), .int 0, .int 0, .int 1] J (some (.int 1)) (cw_st J 0 9 3) := by
  refine eX11_fails_0 ⟨fun _ => ⟨fun _ => ⟨fun q => absurd q (by decide), fun _ => ⟨fun q => ?_, fun _ => ⟨rfl, rfl⟩⟩⟩, fun q => absurd rfl q⟩, fun q => absurd rfl q⟩
  rw [sp_st_at] at q
  exact absurd q (by decide)
theorem sr_plain {x : Int32} : cw_C (cr_w K) mX11_plain [.ref (cw_a (cr_w K) 0), .int x] J (some (.int x)) (cw_st J 0 9 0) := eX11_plain_0 ⟨rfl, rfl⟩
end GUAR
