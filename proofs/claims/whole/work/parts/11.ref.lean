/-! ## the reference's cake, in the same numbers -/
/-- the reference's ints J hold the cake -/
def sp_rv (n k : Nat) (v : Nat → Nat → Nat) (J : cw_M) : Prop := J 1 0 = nI n ∧ J 1 1 = nI k ∧ n ≤ 24 ∧ k ≤ 6 ∧ sp_dig v n k ∧ ∀ s c, s < k → c < n → J 1 (33 + s * 31 + c) = nI (v s c)
section SPR
variable {K : cw_K} {J : cw_M} {n k : Nat} {v : Nat → Nat → Nat}
theorem sr_in {x : Int32} {a b : Int32} : cw_C (cr_w K) mX11_in [.int x, .int a, .int b] J (some (.int (if a ≤ x ∧ x ≤ b then 1 else 0))) J := by
  refine eX11_in ⟨fun q => ?_, fun q => ⟨fun q2 => ?_, fun q2 => ?_⟩⟩
  · rw [if_neg (fun z => Int32.not_lt.mpr z.1 q)]; exact ⟨rfl, rfl⟩
  · rw [if_neg (fun z => Int32.not_lt.mpr z.2 q2)]; exact ⟨rfl, rfl⟩
  · rw [if_pos ⟨Int32.not_lt.mp q, Int32.not_lt.mp q2⟩]; exact ⟨rfl, rfl⟩
theorem sp_bit {p : Prop} {d : Decidable p} : (@ite Int32 p d 1 0) = 0 ∨ (@ite Int32 p d 1 0) = 1 := by
  by_cases h : p
  · rw [if_pos h]; exact Or.inr rfl
  · rw [if_neg h]; exact Or.inl rfl
theorem sp_bit0 {p : Prop} {d : Decidable p} (h : (@ite Int32 p d 1 0) = 0) : ¬ p := fun z => by rw [if_pos z] at h; exact absurd h (by decide)
theorem sp_bit1 {p : Prop} {d : Decidable p} (h : ¬ (@ite Int32 p d 1 0) = 0) : p := by
  by_cases q : p
  · exact q
  · rw [if_neg q] at h; exact absurd rfl h
/-- x ≤ m - 1 is x < m, for a number m -/
theorem sp_pred {x : Int32} {m : Nat} (h : m < 2 ^ 31) : (x ≤ nI m - 1) = (x < nI m) := by
  apply propext
  rw [Int32.le_iff_toInt_le, Int32.lt_iff_toInt_lt, nI_toInt h]
  have h1 : (nI m - 1).toInt = (m : Int) - 1 := by
    cases m with
    | zero => decide
    | succ m =>
      rw [nI_pred, nI_toInt (by omega)]
      omega
  rw [h1]
  omega
theorem sr_isSibling (h : sp_rv n k v J) {x : Int32} : cw_C (cr_w K) mX11_isSibling [.ref (cw_a (cr_w K) 0), .int x] J (some (.int (if 0 ≤ x ∧ x < nI k then 1 else 0))) J := by
  have hk := h.2.2.2.1
  refine eX11_isSibling_0 ⟨_, _, sr_in, sp_bit, ?_, rfl⟩
  simp only [h.2.1, sp_pred (show k < 2 ^ 31 by omega)]
theorem sr_isCell (h : sp_rv n k v J) {x : Int32} : cw_C (cr_w K) mX11_isCell [.ref (cw_a (cr_w K) 0), .int x] J (some (.int (if 0 ≤ x ∧ x < nI n then 1 else 0))) J := by
  have hn := h.2.2.1
  refine eX11_isCell_0 ⟨_, _, sr_in, sp_bit, ?_, rfl⟩
  simp only [h.1, sp_pred (show n < 2 ^ 31 by omega)]
theorem sp_ixr (s c : Nat) : 26 + nI s * 31 + 7 + nI c = nI (33 + s * 31 + c) := by
  have h1 : nI s * 31 = nI (s * 31) := sp_mul s 31
  have h2 : (26 : Int32) + nI (s * 31) = nI (26 + s * 31) := nI_add 26 (s * 31)
  have h3 : nI (26 + s * 31) + 7 = nI (26 + s * 31 + 7) := nI_add (26 + s * 31) 7
  rw [h1, h2, h3, nI_add]
  congr 1
  omega
theorem sr_valueOf (h : sp_rv n k v J) {s c : Nat} (hs : s < k) (hc : c < n) : cw_C (cr_w K) mX11_valueOf [.ref (cw_a (cr_w K) 0), .int (nI s), .int (nI c)] J (some (.int (nI (v s c)))) J := by
  have hn := h.2.2.1
  have hk := h.2.2.2.1
  refine eX11_valueOf_0 ?_
  rw [sp_ixr]
  refine ⟨vp_in_nI (by omega) (by omega), ?_, rfl⟩
  rw [nI_clamp (by omega), h.2.2.2.2.2 s c hs hc]
theorem sp_ix2 (c : Nat) : 2 + nI c = nI (2 + c) := nI_add 2 c
theorem sr_ownerOf {ow : Nat → Int32} (hn : n ≤ 24) (ho : ∀ c, c < n → J 1 (2 + c) = ow c) {c : Nat} (hc : c < n) : cw_C (cr_w K) mX11_ownerOf [.ref (cw_a (cr_w K) 0), .int (nI c)] J (some (.int (ow c))) J := by
  refine eX11_ownerOf_0 ?_
  rw [sp_ix2]
  refine ⟨vp_in_nI (by omega) (by omega), ?_, rfl⟩
  rw [nI_clamp (by omega), ho c hc]
theorem sl_worthOf (h : sp_rv n k v J) {s a e : Nat} (hs : s < k) (he : e ≤ n) (he1 : 1 ≤ e) : ∀ d i : Nat, i + d = e → a ≤ i → bX11_worthOf_0_6 K (some (.int (nI (sp_run v s a (e - a))))) J (nI s) (nI (e - 1)) (nI (sp_run v s a (i - a))) (nI i) J := by
  have hn := h.2.2.1
  intro d
  induction d with
  | zero =>
    intro i hi ha
    have : i = e := by omega
    subst this
    exact tbX11_worthOf_0_6 (br_t (nI_lt (by omega) (by omega)) ⟨rfl, rfl⟩)
  | succ d ih =>
    intro i hi ha
    refine tbX11_worthOf_0_6 (br_f (fun z => absurd ((nI_ltI (by omega) (by omega)).mp z) (by omega)) ⟨_, _, sr_valueOf h hs (show i < n by omega), ?_⟩)
    rw [nI_add, nI_1]
    have h1 := ih (i + 1) (by omega) (by omega)
    have e1 : i + 1 - a = (i - a) + 1 := by omega
    have e2 : a + (i - a) = i := by omega
    rw [e1] at h1
    have e3 : sp_run v s a ((i - a) + 1) = sp_run v s a (i - a) + v s i := by
      show sp_run v s a (i - a) + v s (a + (i - a)) = _
      rw [e2]
    rw [e3] at h1
    exact h1
theorem sr_worthOf (h : sp_rv n k v J) {s a e : Nat} (hs : s < k) (ha : a ≤ e) (he : e ≤ n) (he1 : 1 ≤ e) : cw_C (cr_w K) mX11_worthOf [.ref (cw_a (cr_w K) 0), .int (nI s), .int (nI a), .int (nI (e - 1))] J (some (.int (nI (sp_run v s a (e - a))))) J := by
  refine eX11_worthOf_0 ?_
  have h1 := sl_worthOf (K := K) h hs he he1 (e - a) a (by omega) (Nat.le_refl a)
  rw [Nat.sub_self] at h1
  exact h1
theorem sr_totalOf (h : sp_rv n k v J) (hn1 : 1 ≤ n) {s : Nat} (hs : s < k) : cw_C (cr_w K) mX11_totalOf [.ref (cw_a (cr_w K) 0), .int (nI s)] J (some (.int (nI (sp_s (v s) n)))) J := by
  refine eX11_totalOf_0 ⟨_, _, ?_, rfl, rfl⟩
  have h1 := sr_worthOf (K := K) h hs (Nat.zero_le n) (Nat.le_refl n) hn1
  have e1 : sp_run v s 0 (n - 0) = sp_s (v s) n := sp_s_congr fun j _ => by rw [Nat.zero_add]
  rw [e1] at h1
  rw [h.1, show nI n - 1 = nI (n - 1) from sp_sub hn1]
  exact h1
theorem sl_worthShare (h : sp_rv n k v J) {ow : Nat → Int32} (ho : ∀ c, c < n → J 1 (2 + c) = ow c) {s : Nat} (hs : s < k) (o : Int32) : ∀ d i : Nat, i + d = n → bX11_worthShare_0_5 K (some (.int (nI (sp_own v ow s o n)))) J (nI s) o (nI (sp_own v ow s o i)) (nI i) J := by
  have hn := h.2.2.1
  intro d
  induction d with
  | zero =>
    intro i hi
    have : i = n := by omega
    subst this
    exact tbX11_worthShare_0_5 (br_t (by rw [h.1]; exact nI_le (Nat.le_refl _) (by omega)) ⟨rfl, rfl⟩)
  | succ d ih =>
    intro i hi
    refine tbX11_worthShare_0_5 (br_f (by rw [h.1]; exact nI_ge (by omega) (by omega)) ⟨_, _, sr_ownerOf hn ho (show i < n by omega), fun q => ?_, fun q => ⟨_, _, sr_valueOf h hs (show i < n by omega), ?_⟩⟩)
    · have h1 := ih (i + 1) (by omega)
      have e3 : sp_own v ow s o (i + 1) = sp_own v ow s o i := by
        show sp_own v ow s o i + sp_o v ow s o i = _
        rw [sp_o, if_neg q, Nat.add_zero]
      rw [e3] at h1
      rw [nI_1, Int32.add_zero]
      exact h1
    · have h1 := ih (i + 1) (by omega)
      have e3 : sp_own v ow s o (i + 1) = sp_own v ow s o i + v s i := by
        show sp_own v ow s o i + sp_o v ow s o i = _
        rw [sp_o, if_pos q]
      rw [e3] at h1
      rw [nI_1, nI_add]
      exact h1
theorem sr_worthShare (h : sp_rv n k v J) {ow : Nat → Int32} (ho : ∀ c, c < n → J 1 (2 + c) = ow c) {s : Nat} (hs : s < k) (o : Int32) : cw_C (cr_w K) mX11_worthShare [.ref (cw_a (cr_w K) 0), .int (nI s), .int o] J (some (.int (nI (sp_own v ow s o n)))) J :=
  eX11_worthShare_0 (sl_worthShare h ho hs o n 0 (by omega))
theorem sr_welfareOf (h : sp_rv n k v J) {ow : Nat → Int32} (ho : ∀ c, c < n → J 1 (2 + c) = ow c) {s : Nat} (hs : s < k) : cw_C (cr_w K) mX11_welfareOf [.ref (cw_a (cr_w K) 0), .int (nI s)] J (some (.int (nI (sp_own v ow s (nI s) n)))) J :=
  eX11_welfareOf_0 ⟨_, _, sr_worthShare h ho hs (nI s), rfl, rfl⟩
theorem sl_sizeOf (h : sp_rv n k v J) {ow : Nat → Int32} (ho : ∀ c, c < n → J 1 (2 + c) = ow c) (o : Int32) : ∀ d i : Nat, i + d = n → bX11_sizeOf_0_4 K (some (.int (nI (sp_cnt ow o n)))) J o (nI (sp_cnt ow o i)) (nI i) J := by
  have hn := h.2.2.1
  intro d
  induction d with
  | zero =>
    intro i hi
    have : i = n := by omega
    subst this
    exact tbX11_sizeOf_0_4 (br_t (by rw [h.1]; exact nI_le (Nat.le_refl _) (by omega)) ⟨rfl, rfl⟩)
  | succ d ih =>
    intro i hi
    have h1 := ih (i + 1) (by omega)
    have e0 : sp_cnt ow o (i + 1) = sp_cnt ow o i + (if ow i = o then 1 else 0) := rfl
    refine tbX11_sizeOf_0_4 (br_f (by rw [h.1]; exact nI_ge (by omega) (by omega)) ⟨_, _, sr_ownerOf hn ho (show i < n by omega), fun q => ?_, fun q => ?_⟩)
    · rw [e0, if_neg q, Nat.add_zero] at h1
      rw [nI_1, Int32.add_zero]
      exact h1
    · rw [e0, if_pos q] at h1
      rw [nI_1, nI_1]
      exact h1
theorem sr_sizeOf (h : sp_rv n k v J) {ow : Nat → Int32} (ho : ∀ c, c < n → J 1 (2 + c) = ow c) (o : Int32) : cw_C (cr_w K) mX11_sizeOf [.ref (cw_a (cr_w K) 0), .int o] J (some (.int (nI (sp_cnt ow o n)))) J :=
  eX11_sizeOf_0 (sl_sizeOf h ho o n 0 (by omega))
/-- the pieces of o by their first cells -/
def sp_beg (ow : Nat → Int32) (c : Nat) : Bool := decide (c = 0) || decide (ow c ≠ ow (c - 1))
abbrev sp_pcb (ow : Nat → Int32) (o : Int32) (m : Nat) : Nat := sp_s (fun c => if ow c = o ∧ sp_beg ow c = true then 1 else 0) m
/-- as many pieces begin as end -/
theorem sp_beg_end (ow : Nat → Int32) (o : Int32) (n : Nat) : ∀ m : Nat, m ≤ n → sp_pcb ow o m = sp_pcs ow o n m + (if 1 ≤ m ∧ m < n ∧ ow (m - 1) = o ∧ ow m = o then 1 else 0) := by
  intro m
  induction m with
  | zero =>
    intro _
    rw [if_neg (by omega)]
    rfl
  | succ m ih =>
    intro hm
    have h1 := ih (by omega)
    show sp_pcb ow o m + (if ow m = o ∧ sp_beg ow m = true then 1 else 0) = sp_pcs ow o n m + (if ow m = o ∧ sp_end ow n m = true then 1 else 0) + _
    rw [h1]
    have hb : sp_beg ow m = true ↔ (m = 0 ∨ ow m ≠ ow (m - 1)) := by simp [sp_beg]
    have he : sp_end ow n m = true ↔ (n ≤ m + 1 ∨ ow m ≠ ow (m + 1)) := by simp [sp_end]
    rw [Nat.add_sub_cancel]
    by_cases q : ow m = o
    · by_cases q1 : m = 0
      · subst q1
        rw [if_neg (show ¬ (1 ≤ 0 ∧ 0 < n ∧ ow (0 - 1) = o ∧ ow 0 = o) by omega), if_pos ⟨q, hb.mpr (Or.inl rfl)⟩]
        by_cases q2 : n ≤ 0 + 1
        · rw [if_pos ⟨q, he.mpr (Or.inl q2)⟩, if_neg (by omega)]
        · by_cases q3 : ow (0 + 1) = o
          · rw [if_neg (fun z => (he.mp z.2).elim q2 (fun y => y (q.trans q3.symm))), if_pos ⟨by omega, by omega, q, q3⟩]
          · rw [if_pos ⟨q, he.mpr (Or.inr (fun y => q3 (y ▸ q)))⟩, if_neg (fun z => q3 z.2.2.2)]
      · by_cases q4 : ow (m - 1) = o
        · rw [if_pos ⟨by omega, by omega, q4, q⟩, if_neg (fun z => (hb.mp z.2).elim q1 (fun y => y (q.trans q4.symm)))]
          by_cases q2 : n ≤ m + 1
          · rw [if_pos ⟨q, he.mpr (Or.inl q2)⟩, if_neg (by omega)]
          · by_cases q3 : ow (m + 1) = o
            · rw [if_neg (fun z => (he.mp z.2).elim q2 (fun y => y (q.trans q3.symm))), if_pos ⟨by omega, by omega, q, q3⟩]
            · rw [if_pos ⟨q, he.mpr (Or.inr (fun y => q3 (y ▸ q)))⟩, if_neg (fun z => q3 z.2.2.2)]
        · rw [if_neg (fun z => q4 z.2.2.1), if_pos ⟨q, hb.mpr (Or.inr (fun y => q4 (y ▸ q)))⟩]
          by_cases q2 : n ≤ m + 1
          · rw [if_pos ⟨q, he.mpr (Or.inl q2)⟩, if_neg (by omega)]
          · by_cases q3 : ow (m + 1) = o
            · rw [if_neg (fun z => (he.mp z.2).elim q2 (fun y => y (q.trans q3.symm))), if_pos ⟨by omega, by omega, q, q3⟩]
            · rw [if_pos ⟨q, he.mpr (Or.inr (fun y => q3 (y ▸ q)))⟩, if_neg (fun z => q3 z.2.2.2)]
    · rw [if_neg (show ¬ (1 ≤ m ∧ m < n ∧ ow (m - 1) = o ∧ ow m = o) from fun z => q z.2.2.2), if_neg (fun z => q z.1), if_neg (fun z => q z.1), if_neg (fun z => q z.2.2.1)]
theorem sp_pcb_eq (ow : Nat → Int32) (o : Int32) (n : Nat) : sp_pcb ow o n = sp_pcs ow o n n := by
  have h := sp_beg_end ow o n n (Nat.le_refl n)
  rw [if_neg (by omega)] at h
  exact h
theorem sl_pieces (h : sp_rv n k v J) {ow : Nat → Int32} (ho : ∀ c, c < n → J 1 (2 + c) = ow c) (o : Int32) : ∀ d i : Nat, i + d = n → bX11_pieces_0_4 K (some (.int (nI (sp_pcb ow o n)))) J o (nI (sp_pcb ow o i)) (nI i) J := by
  have hn := h.2.2.1
  intro d
  induction d with
  | zero =>
    intro i hi
    have : i = n := by omega
    subst this
    exact tbX11_pieces_0_4 (br_t (by rw [h.1]; exact nI_le (Nat.le_refl _) (by omega)) ⟨rfl, rfl⟩)
  | succ d ih =>
    intro i hi
    have h1 := ih (i + 1) (by omega)
    have e0 : sp_pcb ow o (i + 1) = sp_pcb ow o i + (if ow i = o ∧ sp_beg ow i = true then 1 else 0) := rfl
    have hb : sp_beg ow i = true ↔ (i = 0 ∨ ow i ≠ ow (i - 1)) := by simp [sp_beg]
    refine tbX11_pieces_0_4 (br_f (by rw [h.1]; exact nI_ge (by omega) (by omega)) ⟨_, _, sr_ownerOf hn ho (show i < n by omega), fun q => ?_, fun q => ⟨fun q2 => ?_, fun q2 => ?_⟩⟩)
    · rw [e0, if_neg (fun z => q z.1), Nat.add_zero] at h1
      rw [nI_1, Int32.add_zero]
      exact h1
    · have q3 : i = 0 := (nI_eq (by omega) (by omega)).mp q2
      rw [e0, if_pos ⟨q, hb.mpr (Or.inl q3)⟩] at h1
      rw [nI_1, nI_1]
      exact h1
    · have q3 : ¬ i = 0 := fun z => q2 (by rw [z]; rfl)
      rw [show nI i - 1 = nI (i - 1) from sp_sub (b := 1) (by omega)]
      refine ⟨_, _, sr_ownerOf hn ho (show i - 1 < n by omega), fun q4 => ?_, fun q4 => ?_⟩
      · rw [e0, if_neg (fun z => (hb.mp z.2).elim q3 (fun y => y (q.trans q4.symm))), Nat.add_zero] at h1
        rw [nI_1, Int32.add_zero]
        exact h1
      · rw [e0, if_pos ⟨q, hb.mpr (Or.inr (fun y => q4 (y ▸ q)))⟩] at h1
        rw [nI_1, nI_1]
        exact h1
theorem sr_pieces (h : sp_rv n k v J) {ow : Nat → Int32} (ho : ∀ c, c < n → J 1 (2 + c) = ow c) (o : Int32) : cw_C (cr_w K) mX11_pieces [.ref (cw_a (cr_w K) 0), .int o] J (some (.int (nI (sp_pcs ow o n n)))) J := by
  rw [← sp_pcb_eq]
  exact eX11_pieces_0 (sl_pieces h ho o n 0 (by omega))
theorem sl_least (h : sp_rv n k v J) {ow : Nat → Int32} (ho : ∀ c, c < n → J 1 (2 + c) = ow c) : ∀ d i : Nat, i + 1 + d = k → bX11_least_0_8 K (some (.int (nI (sp_min (fun s => sp_own v ow s (nI s) n) (k - 1))))) J (nI (sp_min (fun s => sp_own v ow s (nI s) n) i)) (nI (i + 1)) J := by
  have hn := h.2.2.1
  have hk := h.2.2.2.1
  intro d
  induction d with
  | zero =>
    intro i hi
    have : k = i + 1 := by omega
    subst this
    exact tbX11_least_0_8 (br_t (by rw [h.2.1]; exact nI_le (Nat.le_refl _) (by omega)) ⟨rfl, rfl⟩)
  | succ d ih =>
    intro i hi
    have h1 := ih (i + 1) (by omega)
    have b1 := sp_own_le (ow := ow) (o := nI (i + 1)) h.2.2.2.2.1 (show i + 1 < k by omega) (Nat.le_refl n)
    have b3 := sp_own_le (ow := ow) (o := nI 0) h.2.2.2.2.1 (show 0 < k by omega) (Nat.le_refl n)
    have b4 : sp_min (fun s => sp_own v ow s (nI s) n) i ≤ sp_own v ow 0 (nI 0) n := sp_min_le (f := fun s => sp_own v ow s (nI s) n) (i := i) (j := 0) (Nat.zero_le _)
    have e0 : sp_min (fun s => sp_own v ow s (nI s) n) (i + 1) = min (sp_min (fun s => sp_own v ow s (nI s) n) i) (sp_own v ow (i + 1) (nI (i + 1)) n) := rfl
    refine tbX11_least_0_8 (br_f (by rw [h.2.1]; exact nI_ge (by omega) (by omega)) ⟨_, _, sr_welfareOf h ho (show i + 1 < k by omega), fun q => ?_, fun q => ⟨_, _, sr_welfareOf h ho (show i + 1 < k by omega), ?_⟩⟩)
    · have q2 := (nI_leI (by omega) (by omega)).mp q
      rw [e0, Nat.min_eq_left q2] at h1
      rw [nI_1]
      exact h1
    · have q2 : ¬ sp_min (fun s => sp_own v ow s (nI s) n) i ≤ sp_own v ow (i + 1) (nI (i + 1)) n := fun z => q (nI_le z (by omega))
      rw [e0, Nat.min_eq_right (by omega)] at h1
      rw [nI_1]
      exact h1
theorem sr_least (h : sp_rv n k v J) (hk1 : 1 ≤ k) {ow : Nat → Int32} (ho : ∀ c, c < n → J 1 (2 + c) = ow c) : cw_C (cr_w K) mX11_least [.ref (cw_a (cr_w K) 0)] J (some (.int (nI (sp_min (fun s => sp_own v ow s (nI s) n) (k - 1))))) J :=
  eX11_least_0 ⟨_, _, sr_welfareOf h ho (show 0 < k by omega), sl_least h ho (k - 1) 0 (by omega)⟩
end SPR
