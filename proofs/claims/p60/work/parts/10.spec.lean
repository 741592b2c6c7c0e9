/-! WHAT A CAKE SAYS, in numbers: n cells, k siblings, v s c the value of cell c for s, ow c the owner of c; what both sides answer of it. -/
theorem sp_mul (a b : Nat) : nI a * nI b = nI (a * b) := (Int32.ofNat_mul a b).symm
theorem sp_ix (m s c : Nat) : nI s * nI m + nI c = nI (s * m + c) := by rw [sp_mul, nI_add]
theorem sp_24 (s c : Nat) : nI s * 24 + nI c = nI (s * 24 + c) := sp_ix 24 s c
theorem sp_m24 (s : Nat) : nI s * 24 = nI (s * 24) := sp_mul s 24
theorem sp_sub {a b : Nat} (h : b ≤ a) : nI a - nI b = nI (a - b) := by
  have h1 : nI a = nI (a - b) + nI b := by rw [nI_add, Nat.sub_add_cancel h]
  rw [h1, Int32.add_sub_cancel]
/-- a sum over the first places -/
def sp_s (f : Nat → Nat) : Nat → Nat
  | 0 => 0
  | n + 1 => sp_s f n + f n
theorem sp_s_congr {f g : Nat → Nat} : ∀ {n : Nat}, (∀ j, j < n → f j = g j) → sp_s f n = sp_s g n
  | 0, _ => rfl
  | n + 1, h => by rw [sp_s, sp_s, sp_s_congr (fun j hj => h j (by omega)), h n (by omega)]
theorem sp_s_le {f : Nat → Nat} {m : Nat} : ∀ {n : Nat}, (∀ j, j < n → f j ≤ m) → sp_s f n ≤ m * n
  | 0, _ => Nat.zero_le _
  | n + 1, h => by
    have h1 := sp_s_le (n := n) (fun j hj => h j (by omega))
    have h2 := h n (by omega)
    rw [sp_s, Nat.mul_succ]
    omega
/-- the worth of the cells from a, d many -/
abbrev sp_run (v : Nat → Nat → Nat) (s a d : Nat) : Nat := sp_s (fun j => v s (a + j)) d
/-- the worth for s of what o owns, of the first n cells -/
def sp_o (v : Nat → Nat → Nat) (ow : Nat → Int32) (s : Nat) (o : Int32) (c : Nat) : Nat := if ow c = o then v s c else 0
abbrev sp_own (v : Nat → Nat → Nat) (ow : Nat → Int32) (s : Nat) (o : Int32) (n : Nat) : Nat := sp_s (sp_o v ow s o) n
/-- how many cells o owns -/
abbrev sp_cnt (ow : Nat → Int32) (o : Int32) (n : Nat) : Nat := sp_s (fun c => if ow c = o then 1 else 0) n
/-- the values are digits -/
def sp_dig (v : Nat → Nat → Nat) (n k : Nat) : Prop := ∀ s c, s < k → c < n → v s c ≤ 9
theorem sp_run_le {v : Nat → Nat → Nat} {n k s a d : Nat} (h : sp_dig v n k) (hs : s < k) (hd : a + d ≤ n) : sp_run v s a d ≤ 9 * d := sp_s_le fun j hj => h s (a + j) hs (by omega)
theorem sp_own_le {v : Nat → Nat → Nat} {ow : Nat → Int32} {n k s m : Nat} {o : Int32} (h : sp_dig v n k) (hs : s < k) (hm : m ≤ n) : sp_own v ow s o m ≤ 9 * m := sp_s_le fun j hj => by
  unfold sp_o
  split
  · exact h s j hs (by omega)
  · omega
/-- the least of f 0 .. f i -/
def sp_min (f : Nat → Nat) : Nat → Nat
  | 0 => f 0
  | i + 1 => min (sp_min f i) (f (i + 1))
theorem sp_min_le {f : Nat → Nat} : ∀ {i j : Nat}, j ≤ i → sp_min f i ≤ f j
  | 0, j, h => by rw [Nat.le_zero.mp h]; exact Nat.le_refl _
  | i + 1, j, h => by
    show min (sp_min f i) (f (i + 1)) ≤ f j
    by_cases q : j = i + 1
    · subst q; exact Nat.min_le_right _ _
    · exact Nat.le_trans (Nat.min_le_left _ _) (sp_min_le (by omega))
/-- the greatest of 0, f 0 .. f (i - 1) -/
def sp_max (f : Nat → Nat) : Nat → Nat
  | 0 => 0
  | i + 1 => max (sp_max f i) (f i)
theorem sp_max_le {f : Nat → Nat} {m : Nat} : ∀ {i : Nat}, (∀ j, j < i → f j ≤ m) → sp_max f i ≤ m
  | 0, _ => Nat.zero_le _
  | i + 1, h => Nat.max_le.mpr ⟨sp_max_le fun j hj => h j (by omega), h i (by omega)⟩
/-- a row with x put into the places from a up to e -/
def sp_put (f : Nat → Int32) (x : Int32) (a e : Nat) : Nat → Int32 := fun j => if a ≤ j ∧ j < e then x else f j
/-! ## the class's cake -/
/-- the class's ints I hold the cake (the owners apart: 'a' is the array that holds them) -/
def sp_cv (n k : Nat) (v : Nat → Nat → Nat) (I : cw_M) : Prop := I 5 0 = nI n ∧ I 5 1 = nI k ∧ n ≤ 24 ∧ k ≤ 6 ∧ sp_dig v n k ∧ ∀ s c, s < k → c < n → I 8 (s * 24 + c) = nI (v s c)
section SPC
variable {K : cw_K} {I : cw_M} {n k : Nat} {v : Nat → Nat → Nat}
theorem sp_cv.val (h : sp_cv n k v I) {s c : Nat} (hs : s < k) (hc : c < n) : I 8 (nI (s * 24 + c)).toNatClampNeg = nI (v s c) := by
  have h1 := h.2.2.1
  have h2 := h.2.2.2.1
  rw [nI_clamp (by omega)]
  exact h.2.2.2.2.2 s c hs hc
theorem sp_cv.in (h : sp_cv n k v I) {s c : Nat} (hs : s < k) (hc : c < n) : vp_in (nI (s * 24 + c)) 144 := by
  have h1 := h.2.2.1
  have h2 := h.2.2.2.1
  exact vp_in_nI (by omega) (by omega)
theorem sc_valueOf (h : sp_cv n k v I) {s c : Nat} (hs : s < k) (hc : c < n) : cw_C (cc_w K) mX1_valueOf [.ref (cw_a (cc_w K) 5), .int (nI s), .int (nI c)] I (some (.int (nI (v s c)))) I := by
  refine eX1_valueOf_5 ?_
  rw [sp_24]
  exact ⟨h.in hs hc, by rw [h.val hs hc], rfl⟩
theorem sc_hasCell (h : sp_cv n k v I) {x : Int32} : cw_C (cc_w K) mX1_hasCell [.ref (cw_a (cc_w K) 5), .int x] I (some (.int (if 0 ≤ x ∧ x < nI n then 1 else 0))) I := by
  refine eX1_hasCell_5 ⟨fun q => ?_, fun q => ⟨fun q2 => ?_, fun q2 => ?_⟩⟩
  · rw [if_neg (fun z => Int32.not_lt.mpr z.1 q)]; exact ⟨rfl, rfl⟩
  · rw [h.1] at q2
    rw [if_neg (fun z => Int32.not_lt.mpr q2 z.2)]; exact ⟨rfl, rfl⟩
  · rw [h.1] at q2
    rw [if_pos ⟨Int32.not_lt.mp q, Int32.not_le.mp q2⟩]; exact ⟨rfl, rfl⟩
theorem sc_hasSibling (h : sp_cv n k v I) {x : Int32} : cw_C (cc_w K) mX1_hasSibling [.ref (cw_a (cc_w K) 5), .int x] I (some (.int (if 0 ≤ x ∧ x < nI k then 1 else 0))) I := by
  refine eX1_hasSibling_5 ⟨fun q => ?_, fun q => ⟨fun q2 => ?_, fun q2 => ?_⟩⟩
  · rw [if_neg (fun z => Int32.not_lt.mpr z.1 q)]; exact ⟨rfl, rfl⟩
  · rw [h.2.1] at q2
    rw [if_neg (fun z => Int32.not_lt.mpr q2 z.2)]; exact ⟨rfl, rfl⟩
  · rw [h.2.1] at q2
    rw [if_pos ⟨Int32.not_lt.mp q, Int32.not_le.mp q2⟩]; exact ⟨rfl, rfl⟩
theorem sl_worthOfRun (h : sp_cv n k v I) {s a e : Nat} (hs : s < k) (he : e ≤ n) : ∀ d i : Nat, i + d = e → a ≤ i → bX1_worthOfRun_5_12 K (some (.int (nI (sp_run v s a (e - a))))) I (nI e) (nI (s * 24)) (nI (sp_run v s a (i - a))) (nI i) I := by
  have hn := h.2.2.1
  have hk := h.2.2.2.1
  intro d
  induction d with
  | zero =>
    intro i hi ha
    have : i = e := by omega
    subst this
    exact tbX1_worthOfRun_5_12 (br_t (nI_le (Nat.le_refl _) (by omega)) ⟨rfl, rfl⟩)
  | succ d ih =>
    intro i hi ha
    refine tbX1_worthOfRun_5_12 (br_f (nI_ge (by omega) (by omega)) ?_)
    rw [nI_add, h.val hs (by omega), nI_add, nI_1]
    refine ⟨h.in hs (by omega), ?_⟩
    have h1 := ih (i + 1) (by omega) (by omega)
    have e1 : i + 1 - a = (i - a) + 1 := by omega
    have e2 : a + (i - a) = i := by omega
    rw [e1] at h1
    have e3 : sp_run v s a ((i - a) + 1) = sp_run v s a (i - a) + v s i := by
      show sp_run v s a (i - a) + v s (a + (i - a)) = _
      rw [e2]
    rw [e3] at h1
    exact h1
theorem sc_worthOfRun (h : sp_cv n k v I) {s a e : Nat} (hs : s < k) (ha : a ≤ e) (he : e ≤ n) : cw_C (cc_w K) mX1_worthOfRun [.ref (cw_a (cc_w K) 5), .int (nI s), .int (nI a), .int (nI e)] I (some (.int (nI (sp_run v s a (e - a))))) I := by
  refine eX1_worthOfRun_5 ?_
  rw [sp_m24]
  have h1 := sl_worthOfRun (K := K) h hs he (e - a) a (by omega) (Nat.le_refl a)
  rw [Nat.sub_self] at h1
  exact h1
theorem sc_worthOfAll (h : sp_cv n k v I) {s : Nat} (hs : s < k) : cw_C (cc_w K) mX1_worthOfAll [.ref (cw_a (cc_w K) 5), .int (nI s)] I (some (.int (nI (sp_s (v s) n)))) I := by
  refine eX1_worthOfAll_5 ⟨_, _, ?_, rfl, rfl⟩
  rw [h.1]
  have h1 := sc_worthOfRun (K := K) h hs (Nat.zero_le n) (Nat.le_refl n)
  have e1 : sp_run v s 0 (n - 0) = sp_s (v s) n := sp_s_congr fun j _ => by rw [Nat.zero_add]
  rw [e1] at h1
  exact h1

theorem sl_worthOfOwned_9 (h : sp_cv n k v I) {ow : Nat → Int32} (ho : ∀ c, c < n → I 9 c = ow c) {s : Nat} (hs : s < k) (o : Int32) : ∀ d i : Nat, i + d = n → bX1_worthOfOwned_5_9_12 K (some (.int (nI (sp_own v ow s o n)))) I o (nI (s * 24)) (nI (sp_own v ow s o i)) (nI i) I := by
  have hn := h.2.2.1
  have hk := h.2.2.2.1
  intro d
  induction d with
  | zero =>
    intro i hi
    have : i = n := by omega
    subst this
    exact tbX1_worthOfOwned_5_9_12 (br_t (by rw [h.1]; exact nI_le (Nat.le_refl _) (by omega)) ⟨rfl, rfl⟩)
  | succ d ih =>
    intro i hi
    refine tbX1_worthOfOwned_5_9_12 (br_f (by rw [h.1]; exact nI_ge (by omega) (by omega)) ⟨vp_in_nI (by omega) (by omega), ?_⟩)
    have h1 := ih (i + 1) (by omega)
    rw [nI_clamp (by omega), ho i (by omega), nI_1, nI_add]
    refine ⟨fun q => ?_, fun q => ⟨h.in hs (by omega), ?_⟩⟩
    · have e3 : sp_own v ow s o (i + 1) = sp_own v ow s o i := by
        show sp_own v ow s o i + sp_o v ow s o i = _
        rw [sp_o, if_neg q, Nat.add_zero]
      rw [e3] at h1
      exact h1
    · have e3 : sp_own v ow s o (i + 1) = sp_own v ow s o i + v s i := by
        show sp_own v ow s o i + sp_o v ow s o i = _
        rw [sp_o, if_pos q]
      rw [h.val hs (by omega), nI_add]
      rw [e3] at h1
      exact h1
theorem sc_worthOfOwned_9 (h : sp_cv n k v I) {ow : Nat → Int32} (ho : ∀ c, c < n → I 9 c = ow c) {s : Nat} (hs : s < k) (o : Int32) : cw_C (cc_w K) mX1_worthOfOwned [.ref (cw_a (cc_w K) 5), .ref (cw_a (cc_w K) 9), .int (nI s), .int o] I (some (.int (nI (sp_own v ow s o n)))) I := by
  refine eX1_worthOfOwned_5_9 ?_
  rw [sp_m24]
  exact sl_worthOfOwned_9 h ho hs o n 0 (by omega)
theorem sl_leastWelfareAmong_9 (h : sp_cv n k v I) {ow : Nat → Int32} (ho : ∀ c, c < n → I 9 c = ow c) : ∀ d i : Nat, i + 1 + d = k → bX1_leastWelfareAmong_5_9_10 K (some (.int (nI (sp_min (fun s => sp_own v ow s (nI s) n) (k - 1))))) I (nI (sp_min (fun s => sp_own v ow s (nI s) n) i)) (nI (i + 1)) I := by
  have hn := h.2.2.1
  have hk := h.2.2.2.1
  intro d
  induction d with
  | zero =>
    intro i hi
    have : k = i + 1 := by omega
    subst this
    exact tbX1_leastWelfareAmong_5_9_10 (br_t (by rw [h.2.1]; exact nI_le (Nat.le_refl _) (by omega)) ⟨rfl, rfl⟩)
  | succ d ih =>
    intro i hi
    refine tbX1_leastWelfareAmong_5_9_10 (br_f (by rw [h.2.1]; exact nI_ge (by omega) (by omega)) ⟨_, _, sc_worthOfOwned_9 h ho (by omega) _, ?_⟩)
    have h1 := ih (i + 1) (by omega)
    rw [nI_1]
    have e3 : (if nI (sp_own v ow (i + 1) (nI (i + 1)) n) < nI (sp_min (fun s => sp_own v ow s (nI s) n) i) then nI (sp_own v ow (i + 1) (nI (i + 1)) n) else nI (sp_min (fun s => sp_own v ow s (nI s) n) i)) = nI (sp_min (fun s => sp_own v ow s (nI s) n) (i + 1)) := by
      have b1 := sp_own_le (ow := ow) (o := nI (i + 1)) h.2.2.2.2.1 (show i + 1 < k by omega) (Nat.le_refl n)
      have b2 := sp_min_le (f := fun s => sp_own v ow s (nI s) n) (i := i) (j := 0) (Nat.zero_le _)
      have b3 := sp_own_le (ow := ow) (o := nI 0) h.2.2.2.2.1 (show 0 < k by omega) (Nat.le_refl n)
      have b4 : sp_min (fun s => sp_own v ow s (nI s) n) i ≤ sp_own v ow 0 (nI 0) n := b2
      show _ = nI (min (sp_min (fun s => sp_own v ow s (nI s) n) i) (sp_own v ow (i + 1) (nI (i + 1)) n))
      by_cases q : sp_own v ow (i + 1) (nI (i + 1)) n < sp_min (fun s => sp_own v ow s (nI s) n) i
      · rw [if_pos (nI_lt q (by omega)), Nat.min_eq_right (by omega)]
      · rw [if_neg (fun z => q ((nI_ltI (by omega) (by omega)).mp z)), Nat.min_eq_left (by omega)]
    rw [e3]
    exact h1
theorem sc_leastWelfareAmong_9 (h : sp_cv n k v I) (hk1 : 1 ≤ k) {ow : Nat → Int32} (ho : ∀ c, c < n → I 9 c = ow c) : cw_C (cc_w K) mX1_leastWelfareAmong [.ref (cw_a (cc_w K) 5), .ref (cw_a (cc_w K) 9)] I (some (.int (nI (sp_min (fun s => sp_own v ow s (nI s) n) (k - 1))))) I := by
  exact eX1_leastWelfareAmong_5_9 ⟨_, _, sc_worthOfOwned_9 h ho (show 0 < k by omega) (nI 0), sl_leastWelfareAmong_9 h ho (k - 1) 0 (by omega)⟩
/-- what 'assign' makes of a row -/
theorem sl_assign_9 {x : Int32} {e : Nat} (he : e ≤ 24) (I0 : cw_M) {a : Nat} : ∀ d i : Nat, i + d = e → a ≤ i → bX1_assign_5_9_3 K none (cw_up I0 9 (sp_put (I0 9) x a e)) x (nI e) (nI i) (cw_up I0 9 (sp_put (I0 9) x a i)) := by
  intro d
  induction d with
  | zero =>
    intro i hi ha
    have : i = e := by omega
    subst this
    exact tbX1_assign_5_9_3 (br_t (nI_le (Nat.le_refl _) (by omega)) ⟨rfl, rfl⟩)
  | succ d ih =>
    intro i hi ha
    refine tbX1_assign_5_9_3 (br_f (nI_ge (by omega) (by omega)) ⟨vp_in_nI (by omega) (by omega), ?_⟩)
    have h1 := ih (i + 1) (by omega) (by omega)
    rw [nI_1, nI_clamp (by omega)]
    have e1 : cw_st (cw_up I0 9 (sp_put (I0 9) x a i)) 9 i x = cw_up I0 9 (sp_put (I0 9) x a (i + 1)) := by
      funext q j
      by_cases hq : q = 9
      · subst hq
        simp only [cw_st, cw_up, if_true, sp_put, upd]
        by_cases hj : j = i
        · subst hj
          rw [if_pos rfl, if_pos ⟨ha, by omega⟩]
        · rw [if_neg hj]
          by_cases hj2 : a ≤ j ∧ j < i
          · rw [if_pos hj2, if_pos ⟨hj2.1, by omega⟩]
          · rw [if_neg hj2, if_neg (fun z => hj2 ⟨z.1, by omega⟩)]
      · simp only [cw_st, cw_up, if_neg hq]
    rw [e1]
    exact h1
theorem sc_assign_9 {x : Int32} {a e : Nat} (ha : a ≤ e) (he : e ≤ 24) : cw_C (cc_w K) mX1_assign [.ref (cw_a (cc_w K) 5), .ref (cw_a (cc_w K) 9), .int x, .int (nI a), .int (nI e)] I none (cw_up I 9 (sp_put (I 9) x a e)) := by
  refine eX1_assign_5_9 ?_
  have h1 := sl_assign_9 (K := K) (x := x) he I (a := a) (e - a) a (by omega) (Nat.le_refl a)
  have e1 : cw_up I 9 (sp_put (I 9) x a a) = I := by
    funext q j
    by_cases hq : q = 9
    · subst hq
      simp only [cw_up, if_true, sp_put]
      rw [if_neg (by omega)]
    · simp only [cw_up, if_neg hq]
  rw [e1] at h1
  exact h1

theorem sc_welfareOf (h : sp_cv n k v I) {ow : Nat → Int32} (ho : ∀ c, c < n → I 9 c = ow c) {s : Nat} (hs : s < k) : cw_C (cc_w K) mX1_welfareOf [.ref (cw_a (cc_w K) 5), .int (nI s)] I (some (.int (nI (sp_own v ow s (nI s) n)))) I :=
  eX1_welfareOf_5 ⟨_, _, sc_worthOfOwned_9 h ho hs (nI s), rfl, rfl⟩
theorem sl_countOwned (h : sp_cv n k v I) {ow : Nat → Int32} (ho : ∀ c, c < n → I 9 c = ow c) (o : Int32) : ∀ d i : Nat, i + d = n → bX1_countOwned_5_4 K (some (.int (nI (sp_cnt ow o n)))) I o (nI (sp_cnt ow o i)) (nI i) I := by
  have hn := h.2.2.1
  intro d
  induction d with
  | zero =>
    intro i hi
    have : i = n := by omega
    subst this
    exact tbX1_countOwned_5_4 (br_t (by rw [h.1]; exact nI_le (Nat.le_refl _) (by omega)) ⟨rfl, rfl⟩)
  | succ d ih =>
    intro i hi
    refine tbX1_countOwned_5_4 (br_f (by rw [h.1]; exact nI_ge (by omega) (by omega)) ⟨vp_in_nI (by omega) (by omega), ?_⟩)
    have h1 := ih (i + 1) (by omega)
    rw [nI_clamp (by omega), ho i (by omega), nI_1, nI_1]
    refine ⟨fun q => ?_, fun q => ?_⟩
    · have e3 : sp_cnt ow o (i + 1) = sp_cnt ow o i := by
        show sp_cnt ow o i + (if ow i = o then 1 else 0) = _
        rw [if_neg q, Nat.add_zero]
      rw [e3] at h1
      exact h1
    · have e3 : sp_cnt ow o (i + 1) = sp_cnt ow o i + 1 := by
        show sp_cnt ow o i + (if ow i = o then 1 else 0) = _
        rw [if_pos q]
      rw [e3] at h1
      exact h1
theorem sc_countOwned (h : sp_cv n k v I) {ow : Nat → Int32} (ho : ∀ c, c < n → I 9 c = ow c) (o : Int32) : cw_C (cc_w K) mX1_countOwned [.ref (cw_a (cc_w K) 5), .int o] I (some (.int (nI (sp_cnt ow o n)))) I :=
  eX1_countOwned_5 (sl_countOwned h ho o n 0 (by omega))
/-- two shares exchanged -/
def sp_x (f : Nat → Int32) (a b : Int32) (m : Nat) : Nat → Int32 := fun j => if j < m then (if f j = a then b else if f j = b then a else f j) else f j
theorem sl_exchange (hn : n ≤ 24) (a b : Int32) (I0 : cw_M) (h0 : I0 5 0 = nI n) : ∀ d i : Nat, i + d = n → bX1_exchangeShares_5_2 K none (cw_up I0 9 (sp_x (I0 9) a b n)) a b (nI i) (cw_up I0 9 (sp_x (I0 9) a b i)) := by
  intro d
  induction d with
  | zero =>
    intro i hi
    have : i = n := by omega
    subst this
    exact tbX1_exchangeShares_5_2 (br_t (by show I0 5 0 ≤ _; rw [h0]; exact nI_le (Nat.le_refl _) (by omega)) ⟨rfl, rfl⟩)
  | succ d ih =>
    intro i hi
    have hin : vp_in (nI i) 24 := vp_in_nI (by omega) (by omega)
    refine tbX1_exchangeShares_5_2 (br_f (by show ¬ I0 5 0 ≤ _; rw [h0]; exact nI_ge (by omega) (by omega)) ⟨hin, ?_⟩)
    have h1 := ih (i + 1) (by omega)
    rw [nI_1, nI_clamp (by omega)]
    have hv : (cw_up I0 9 (sp_x (I0 9) a b i)) 9 i = I0 9 i := by
      simp [cw_up, sp_x]
    have key : ∀ y : Int32, y = (if I0 9 i = a then b else if I0 9 i = b then a else I0 9 i) → cw_st (cw_up I0 9 (sp_x (I0 9) a b i)) 9 i y = cw_up I0 9 (sp_x (I0 9) a b (i + 1)) := by
      intro y hy
      funext q j
      by_cases hq : q = 9
      · subst hq
        simp only [cw_st, cw_up, if_true, sp_x, upd]
        by_cases hj : j = i
        · subst hj
          rw [if_pos rfl, if_pos (by omega), hy]
        · rw [if_neg hj]
          by_cases hj2 : j < i
          · rw [if_pos hj2, if_pos (show j < i + 1 by omega)]
          · rw [if_neg hj2, if_neg (show ¬ j < i + 1 by omega)]
      · simp only [cw_st, cw_up, if_neg hq]
    rw [hv]
    refine ⟨fun q => ⟨hin, fun q2 => ?_, fun q2 => ⟨hin, ?_⟩⟩, fun q => ⟨hin, ?_⟩⟩
    · have e1 : cw_up I0 9 (sp_x (I0 9) a b (i + 1)) = cw_up I0 9 (sp_x (I0 9) a b i) := by
        rw [← key (I0 9 i) (by rw [if_neg q, if_neg q2])]
        funext x j
        by_cases hq : x = 9
        · subst hq
          simp only [cw_st, cw_up, if_true, upd]
          by_cases hj : j = i
          · subst hj
            rw [if_pos rfl]
            simp [sp_x]
          · rw [if_neg hj]
        · simp only [cw_st, cw_up, if_neg hq]
      rw [e1] at h1
      exact h1
    · rw [key a (by rw [if_neg q, if_pos q2])]
      exact h1
    · rw [key b (by rw [if_pos q])]
      exact h1
theorem sc_exchangeShares (h : sp_cv n k v I) (a b : Int32) : cw_C (cc_w K) mX1_exchangeShares [.ref (cw_a (cc_w K) 5), .int a, .int b] I none (cw_up I 9 (sp_x (I 9) a b n)) := by
  refine eX1_exchangeShares_5 ?_
  have h1 := sl_exchange (K := K) h.2.2.1 a b I h.1 n 0 (by omega)
  have e1 : cw_up I 9 (sp_x (I 9) a b 0) = I := by
    funext q j
    by_cases hq : q = 9
    · subst hq
      simp [cw_up, sp_x]
    · simp only [cw_up, if_neg hq]
  rw [e1] at h1
  exact h1
end SPC
