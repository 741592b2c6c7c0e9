/-! ## the best least: the reference -/
theorem sp_drop : ∀ (l : List Nat) (i : Nat), i < l.length → l.drop i = l.getD i 0 :: l.drop (i + 1)
  | [], i, h => absurd h (Nat.not_lt_zero i)
  | a :: l, 0, _ => rfl
  | a :: l, i + 1, h => sp_drop l i (Nat.lt_of_succ_lt_succ h)
theorem sp_getD_lt {k : Nat} : ∀ (l : List Nat), (∀ s ∈ l, s < k) → ∀ j, j < l.length → l.getD j 0 < k
  | [], _, j, h => absurd h (Nat.not_lt_zero j)
  | a :: l, h, 0, _ => h a List.mem_cons_self
  | a :: l, h, j + 1, hj => sp_getD_lt l (fun s hs => h s (List.mem_cons_of_mem _ hs)) j (Nat.lt_of_succ_lt_succ hj)
theorem sp_getD_set : ∀ (l : List Nat) (a x j : Nat), a < l.length → (l.set a x).getD j 0 = if j = a then x else l.getD j 0
  | [], a, x, j, h => absurd h (Nat.not_lt_zero a)
  | b :: l, 0, x, 0, _ => rfl
  | b :: l, 0, x, j + 1, _ => (if_neg (Nat.succ_ne_zero j)).symm
  | b :: l, a + 1, x, 0, _ => (if_neg (Nat.succ_ne_zero a).symm).symm
  | b :: l, a + 1, x, j + 1, h => by
    have h1 := sp_getD_set l a x j (Nat.lt_of_succ_lt_succ h)
    show (l.set a x).getD j 0 = if j + 1 = a + 1 then x else l.getD j 0
    rw [h1]
    by_cases z : j = a
    · rw [if_pos z, if_pos (by omega)]
    · rw [if_neg z, if_neg (by omega)]
theorem sp_sw_len (l : List Nat) (a b : Nat) : (sp_sw l a b).length = l.length := by
  unfold sp_sw
  rw [List.length_set, List.length_set]
/-- the row f holds the order l -/
def sp_hl (f : Nat → Int32) (l : List Nat) : Prop := ∀ j, j < l.length → f j = nI (l.getD j 0)
theorem sp_hl_sw {f : Nat → Int32} {l : List Nat} (h : sp_hl f l) {a b : Nat} (ha : a < l.length) (hb : b < l.length) : sp_hl (upd (upd f a (f b)) b (f a)) (sp_sw l a b) := by
  intro j hj
  rw [sp_sw_len] at hj
  unfold sp_sw
  rw [sp_getD_set _ b _ j (by rw [List.length_set]; exact hb), sp_getD_set l a _ j ha]
  unfold upd
  by_cases z : j = b
  · rw [if_pos z, if_pos z, h a ha]
  · rw [if_neg z, if_neg z]
    by_cases y : j = a
    · rw [if_pos y, if_pos y, h b hb]
    · rw [if_neg y, if_neg y, h j hj]
section LEAR
variable {K : cw_K} {J : cw_M} {n k : Nat} {v : Nat → Nat → Nat}
theorem sr_swapSequence {f : Nat → Int32} {a b : Nat} (ha : a < 6) (hb : b < 6) : cw_C (cr_w K) mX11_swapSequence [.ref (cw_a (cr_w K) 0), .int (nI a), .int (nI b)] (cw_up J 9 f) none (cw_up J 9 (upd (upd f a (f b)) b (f a))) := by
  refine eX11_swapSequence_0 ?_
  rw [nI_clamp (by omega), nI_clamp (by omega)]
  refine ⟨vp_in_nI (by omega) (by omega), vp_in_nI (by omega) (by omega), vp_in_nI (by omega) (by omega), vp_in_nI (by omega) (by omega), rfl, ?_⟩
  have hf : (cw_up J 9 f) 9 = f := by simp [cw_up]
  have e9 : ∀ (g : Nat → Int32) (i : Nat) (y : Int32), cw_st (cw_up J 9 g) 9 i y = cw_up J 9 (upd g i y) := fun g i y => by
    show cw_up (cw_up J 9 g) 9 (upd ((cw_up J 9 g) 9) i y) = _
    rw [sp_upup, show (cw_up J 9 g) 9 = g by simp [cw_up]]
  rw [hf, e9, e9]
theorem sl_adv92 (h : sp_rv n k v J) : ∀ (m a b : Nat) (l : List Nat) (f : Nat → Int32), l.length = k → a ≤ k → b < k → b ≤ a + 2 * m → sp_hl f l → ∃ f2, sp_hl f2 (sp_rv2 m l a b) ∧ bX11_advanceSequence_0_92 K (some (.int 1)) (cw_up J 9 f2) (nI a) (nI b) (cw_up J 9 f) := by
  have hk := h.2.2.2.1
  intro m
  induction m with
  | zero =>
    intro a b l f hl ha hb hab hf
    exact ⟨f, hf, tbX11_advanceSequence_0_92 (br_t (nI_le (by omega) (by omega)) ⟨rfl, rfl⟩)⟩
  | succ m ih =>
    intro a b l f hl ha hb hab hf
    by_cases z : b ≤ a
    · have e : sp_rv2 (m + 1) l a b = l := if_pos z
      rw [e]
      exact ⟨f, hf, tbX11_advanceSequence_0_92 (br_t (nI_le z (by omega)) ⟨rfl, rfl⟩)⟩
    · have e : sp_rv2 (m + 1) l a b = sp_rv2 m (sp_sw l a b) (a + 1) (b - 1) := if_neg z
      obtain ⟨f2, h1, h2⟩ := ih (a + 1) (b - 1) (sp_sw l a b) (upd (upd f a (f b)) b (f a)) (by rw [sp_sw_len]; exact hl) (by omega) (by omega) (by omega) (sp_hl_sw hf (by omega) (by omega))
      rw [e]
      obtain ⟨c, hc⟩ : ∃ c, b = c + 1 := ⟨b - 1, by omega⟩
      subst hc
      refine ⟨f2, h1, tbX11_advanceSequence_0_92 (br_f (nI_ge (by omega) (by omega)) ⟨_, sr_swapSequence (show a < 6 by omega) (show c + 1 < 6 by omega), ?_⟩)⟩
      rw [nI_1, sp_dec]
      exact h2
theorem sl_adv51 (h : sp_rv n k v J) {l : List Nat} {f : Nat → Int32} (hl : l.length = k) (hd : ∀ s ∈ l, s < k) (hf : sp_hl f l) {j : Nat} (hj : j < k) {r : Option Value} {J9 : cw_M} (hout : bX11_advanceSequence_0_92 K r J9 (nI (j + 1)) (nI (k - 1)) (cw_up J 9 (upd (upd f j (f (sp_hi l (l.getD j 0) (k - 1)))) (sp_hi l (l.getD j 0) (k - 1)) (f j)))) : ∀ d i : Nat, i = j + d → i < k → sp_hi l (l.getD j 0) i = sp_hi l (l.getD j 0) (k - 1) → bX11_advanceSequence_0_51 K r J9 (nI j) (nI i) (cw_up J 9 f) := by
  have hk := h.2.2.2.1
  have hb : ∀ j, j < k → l.getD j 0 < 2 ^ 31 := fun j hj => by
    have := sp_getD_lt l hd j (by omega)
    omega
  have h9 : ∀ j, j < k → (cw_up J 9 f) 9 j = nI (l.getD j 0) := fun j hj => by
    show f j = _
    exact hf j (by omega)
  have hfound : ∀ i, i < k → i = sp_hi l (l.getD j 0) (k - 1) → ∃ J_75 : cw_M, cw_C (cr_w K) mX11_swapSequence [.ref (cw_a (cr_w K) 0), .int (nI j), .int (nI i)] (cw_up J 9 f) none J_75 ∧ bX11_advanceSequence_0_92 K r J9 (nI j + 1) ((J_75 1 1) - 1) J_75 := fun i hi e => by
    refine ⟨_, sr_swapSequence (show j < 6 by omega) (show i < 6 by omega), ?_⟩
    have hJ2 : sp_rv n k v (cw_up J 9 (upd (upd f j (f i)) i (f j))) := h.up (by decide)
    rw [hJ2.2.1, nI_1, show nI k - 1 = nI (k - 1) from sp_sub (b := 1) (by omega), e]
    exact hout
  intro d
  induction d with
  | zero =>
    intro i hi hik he
    have e0 : i = j := hi
    subst e0
    refine tbX11_advanceSequence_0_51 ⟨vp_in_nI (by omega) (by omega), vp_in_nI (by omega) (by omega), ?_⟩
    rw [nI_clamp (by omega), h9 i hik]
    refine br_t (nI_le (Nat.le_refl _) (hb i hik)) (hfound i hik ?_)
    rw [← he]
    cases i with
    | zero => rfl
    | succ i => exact (if_pos (Nat.le_refl _)).symm
  | succ d ih =>
    intro i hi hik he
    obtain ⟨c, hc⟩ : ∃ c, i = c + 1 := ⟨i - 1, by omega⟩
    subst hc
    have e1 : sp_hi l (l.getD j 0) (c + 1) = if l.getD j 0 ≤ l.getD (c + 1) 0 then c + 1 else sp_hi l (l.getD j 0) c := rfl
    refine tbX11_advanceSequence_0_51 ⟨vp_in_nI (by omega) (by omega), vp_in_nI (by omega) (by omega), ?_⟩
    rw [nI_clamp (by omega), nI_clamp (by omega), h9 j hj, h9 (c + 1) hik]
    refine ⟨fun q => hfound (c + 1) hik ?_, fun q => ?_⟩
    · have q2 := (nI_leI (hb j hj) (hb (c + 1) hik)).mp q
      rw [← he, e1, if_pos q2]
    · have q2 : ¬ l.getD j 0 ≤ l.getD (c + 1) 0 := fun z => q (nI_le z (hb (c + 1) hik))
      rw [sp_dec]
      refine ih c (by omega) (by omega) ?_
      rw [← he, e1, if_neg q2]
theorem sl_adv9 (h : sp_rv n k v J) {l : List Nat} {f : Nat → Int32} (hl : l.length = k) (hd : ∀ s ∈ l, s < k) (hf : sp_hl f l) {r : Option Value} {J9 : cw_M} (hfound : ∀ j, sp_dn l (k - 1) = some j → bX11_advanceSequence_0_51 K r J9 (nI j) (nI (k - 1)) (cw_up J 9 f)) (hnone : sp_dn l (k - 1) = none → r = some (.int 0) ∧ J9 = cw_up J 9 f) : ∀ m : Nat, m + 1 ≤ k → sp_dn l m = sp_dn l (k - 1) → bX11_advanceSequence_0_9 K r J9 (nI m - 1) (cw_up J 9 f) := by
  have hk := h.2.2.2.1
  have hJ : sp_rv n k v (cw_up J 9 f) := h.up (by decide)
  have hb : ∀ j, j < k → l.getD j 0 < 2 ^ 31 := fun j hj => by
    have := sp_getD_lt l hd j (by omega)
    omega
  have h9 : ∀ j, j < k → (cw_up J 9 f) 9 j = nI (l.getD j 0) := fun j hj => by
    show f j = _
    exact hf j (by omega)
  intro m
  induction m with
  | zero =>
    intro hm he
    refine tbX11_advanceSequence_0_9 (br_t (by decide) ⟨fun y => absurd y (by decide), fun _ => hnone he.symm⟩)
  | succ m ih =>
    intro hm he
    have e1 : sp_dn l (m + 1) = if l.getD m 0 ≤ l.getD (m + 1) 0 then some m else sp_dn l m := rfl
    rw [show nI (m + 1) - 1 = nI m from nI_pred m]
    refine tbX11_advanceSequence_0_9 (br_f (fun z => absurd ((nI_ltI (b := 0) (by omega) (by omega)).mp z) (by omega)) ⟨vp_in_nI (by omega) (by omega), ?_⟩)
    rw [nI_1, nI_clamp (by omega), nI_clamp (by omega), h9 m (by omega), h9 (m + 1) (by omega)]
    refine ⟨vp_in_nI (by omega) (by omega), fun q => ?_, fun q => ?_⟩
    · have q2 := (nI_leI (hb m (by omega)) (hb (m + 1) (by omega))).mp q
      rw [hJ.2.1, show nI k - 1 = nI (k - 1) from sp_sub (b := 1) (by omega)]
      exact br_t (show (0 : Int32) ≤ nI m from nI_le (a := 0) (Nat.zero_le m) (by omega)) (hfound m (by rw [← he, e1, if_pos q2]))
    · have q2 : ¬ l.getD m 0 ≤ l.getD (m + 1) 0 := fun z => q (nI_le z (hb (m + 1) (by omega)))
      rw [← Int32.sub_eq_add_neg]
      exact ih (by omega) (by rw [← he, e1, if_neg q2])
theorem sr_advance (h : sp_rv n k v J) (hk1 : 1 ≤ k) {l : List Nat} {f : Nat → Int32} (hl : l.length = k) (hd : ∀ s ∈ l, s < k) (hf : sp_hl f l) : (sp_nxl k l = none → cw_C (cr_w K) mX11_advanceSequence [.ref (cw_a (cr_w K) 0)] (cw_up J 9 f) (some (.int 0)) (cw_up J 9 f)) ∧ ∀ l2, sp_nxl k l = some l2 → ∃ f2, sp_hl f2 l2 ∧ cw_C (cr_w K) mX11_advanceSequence [.ref (cw_a (cr_w K) 0)] (cw_up J 9 f) (some (.int 1)) (cw_up J 9 f2) := by
  have hk := h.2.2.2.1
  have hJ : sp_rv n k v (cw_up J 9 f) := h.up (by decide)
  have e2 : nI k - 2 = nI (k - 1) - 1 := by
    have e3 : nI (k - 1) = nI k - 1 := (sp_sub (b := 1) hk1).symm
    rw [e3, Int32.sub_sub]
    rfl
  cases hdn : sp_dn l (k - 1) with
  | none =>
    have en : sp_nxl k l = none := by unfold sp_nxl; rw [hdn]
    refine ⟨fun _ => ?_, fun l2 z => (by rw [en] at z; cases z)⟩
    refine eX11_advanceSequence_0 ?_
    rw [hJ.2.1, e2]
    exact sl_adv9 h hl hd hf (fun j z => by rw [hdn] at z; cases z) (fun _ => ⟨rfl, rfl⟩) (k - 1) (by omega) rfl
  | some j =>
    have es : sp_nxl k l = some (sp_rv2 k (sp_sw l j (sp_hi l (l.getD j 0) (k - 1))) (j + 1) (k - 1)) := by unfold sp_nxl; rw [hdn]
    have hjk : ∀ m j, sp_dn l m = some j → j < m := by
      intro m
      induction m with
      | zero => intro j z; cases z
      | succ m ih =>
        intro j z
        have z2 : (if l.getD m 0 ≤ l.getD (m + 1) 0 then some m else sp_dn l m) = some j := z
        split at z2
        · cases z2; omega
        · have := ih j z2; omega
    have hj := hjk _ _ hdn
    have hhi : ∀ i, sp_hi l (l.getD j 0) i ≤ i := by
      intro i
      induction i with
      | zero => exact Nat.le_refl _
      | succ i ih =>
        show (if l.getD j 0 ≤ l.getD (i + 1) 0 then i + 1 else sp_hi l (l.getD j 0) i) ≤ i + 1
        split <;> omega
    have hi := hhi (k - 1)
    refine ⟨fun z => (by rw [es] at z; cases z), fun l2 z => ?_⟩
    rw [es] at z
    cases z
    obtain ⟨f2, h1, h2⟩ := sl_adv92 (K := K) h k (j + 1) (k - 1) (sp_sw l j (sp_hi l (l.getD j 0) (k - 1))) (upd (upd f j (f (sp_hi l (l.getD j 0) (k - 1)))) (sp_hi l (l.getD j 0) (k - 1)) (f j)) (by rw [sp_sw_len]; exact hl) (by omega) (by omega) (by omega) (sp_hl_sw hf (by omega) (by omega))
    refine ⟨f2, h1, eX11_advanceSequence_0 ?_⟩
    rw [hJ.2.1, e2]
    refine sl_adv9 h hl hd hf (fun j2 z => ?_) (fun z => by rw [hdn] at z; cases z) (k - 1) (by omega) rfl
    have : j = j2 := Option.some.inj (hdn.symm.trans z)
    subst this
    exact sl_adv51 h hl hd hf (by omega) h2 (k - 1 - j) (k - 1) (by omega) (by omega) rfl
theorem sl_reach17 (h : sp_rv n k v J) {s idx t : Nat} (hidx : idx < k) (hs : s < k) (h9 : J 9 idx = nI s) (ht : t < 2 ^ 31) {r : Option Value} : ∀ d c a : Nat, c + d = n → a < t → a ≤ 9 * c → (sp_ep (v s) t d c a ≤ n → bX11_reaches_0_4 K r J (nI t) (nI (sp_ep (v s) t d c a)) (nI (idx + 1)) J) → (n < sp_ep (v s) t d c a → r = some (.int 0)) → bX11_reaches_0_17 K r J (nI t) (nI c) (nI idx) (nI a) J := by
  have hn := h.2.2.1
  have hk := h.2.2.2.1
  intro d
  induction d with
  | zero =>
    intro c a hc ha ha9 h1 h2
    have e0 : c = n := by omega
    subst e0
    have hq : ¬ nI t ≤ nI a := nI_ge ha (by omega)
    exact tbX11_reaches_0_17 (br_f hq (br_t (by rw [h.1]; exact nI_le (Nat.le_refl _) (by omega)) (br_f hq ⟨h2 (by show c < c + 1; omega), rfl⟩)))
  | succ d ih =>
    intro c a hc ha ha9 h1 h2
    have hq : ¬ nI t ≤ nI a := nI_ge ha (by omega)
    have b1 := h.2.2.2.2.1 s c hs (by omega)
    have e : sp_ep (v s) t (d + 1) c a = if t ≤ a + v s c then c + 1 else sp_ep (v s) t d (c + 1) (a + v s c) := rfl
    rw [e] at h1 h2
    refine tbX11_reaches_0_17 (br_f hq (br_f (by rw [h.1]; exact nI_ge (by omega) (by omega)) ⟨vp_in_nI (by omega) (by omega), ?_⟩))
    rw [nI_clamp (by omega), h9]
    refine ⟨_, _, sr_valueOf h hs (show c < n by omega), ?_⟩
    rw [nI_add, nI_1]
    by_cases z : t ≤ a + v s c
    · rw [if_pos z] at h1
      have hq2 : nI t ≤ nI (a + v s c) := nI_le z (by omega)
      refine tbX11_reaches_0_17 (br_t hq2 (br_t hq2 ?_))
      rw [nI_1]
      exact h1 (by omega)
    · rw [if_neg z] at h1 h2
      exact ih (c + 1) (a + v s c) (by omega) (by omega) (by omega) h1 h2
theorem sl_reach4 (h : sp_rv n k v J) {l : List Nat} {t : Nat} (hl : l.length = k) (hd : ∀ s ∈ l, s < k) (hf : sp_hl (J 9) l) (ht1 : 1 ≤ t) (ht : t < 2 ^ 31) : ∀ m idx c : Nat, idx + m = k → c ≤ n → bX11_reaches_0_4 K (some (.int (if sp_gr v n t (l.drop idx) c ≤ n then 1 else 0))) J (nI t) (nI c) (nI idx) J := by
  have hn := h.2.2.1
  have hk := h.2.2.2.1
  intro m
  induction m with
  | zero =>
    intro idx c hi hc
    have e0 : idx = k := by omega
    rw [e0]
    refine tbX11_reaches_0_4 (br_t (by rw [h.2.1]; exact nI_le (Nat.le_refl _) (by omega)) ⟨?_, rfl⟩)
    rw [List.drop_of_length_le (by omega)]
    show some (Value.int (if c ≤ n then 1 else 0)) = _
    rw [if_pos hc]
  | succ m ih =>
    intro idx c hi hc
    have e1 := sp_drop l idx (by omega)
    have e2 : sp_E2 v n t (l.getD idx 0) c = sp_ep (v (l.getD idx 0)) t (n - c) c 0 := if_neg (by omega)
    refine tbX11_reaches_0_4 (br_f (by rw [h.2.1]; exact nI_ge (by omega) (by omega)) ?_)
    rw [e1]
    show bX11_reaches_0_17 K (some (Value.int (if sp_gr v n t (l.drop (idx + 1)) (sp_E2 v n t (l.getD idx 0) c) ≤ n then 1 else 0))) J (nI t) (nI c) (nI idx) (nI 0) J
    rw [e2]
    refine sl_reach17 h (show idx < k by omega) (sp_getD_lt l hd idx (by omega)) (hf idx (by omega)) ht (n - c) c 0 (by omega) (by omega) (Nat.zero_le _) (fun z => ih (idx + 1) _ (by omega) z) (fun z => ?_)
    have := sp_gr_gt (v := v) (n := n) (t := t) (l.drop (idx + 1)) _ z
    rw [if_neg (by omega)]
theorem sr_reaches (h : sp_rv n k v J) {l : List Nat} {f : Nat → Int32} {t : Nat} (hl : l.length = k) (hd : ∀ s ∈ l, s < k) (hf : sp_hl f l) (ht1 : 1 ≤ t) (ht : t < 2 ^ 31) : cw_C (cr_w K) mX11_reaches [.ref (cw_a (cr_w K) 0), .int (nI t)] (cw_up J 9 f) (some (.int (if sp_gr v n t l 0 ≤ n then 1 else 0))) (cw_up J 9 f) := by
  have hJ : sp_rv n k v (cw_up J 9 f) := h.up (by decide)
  exact eX11_reaches_0 (sl_reach4 hJ hl hd (fun j hj => hf j hj) ht1 ht k 0 0 (by omega) (Nat.zero_le n))
theorem sl_least33 (h : sp_rv n k v J) (hk1 : 1 ≤ k) {l : List Nat} {f : Nat → Int32} (hm : l ∈ sp_en k 720 (List.range k)) (hf : sp_hl f l) : ∀ d w : Nat, w + d = 216 → (w = 0 ∨ sp_can v n k w = true) → ∃ w2, w ≤ w2 ∧ w2 ≤ 216 ∧ (w2 = 0 ∨ sp_can v n k w2 = true) ∧ n < sp_gr v n (w2 + 1) l 0 ∧ ∀ (r : Option Value) (J9 : cw_M), (∃ (x : Int32) (J2 : cw_M), cw_C (cr_w K) mX11_advanceSequence [.ref (cw_a (cr_w K) 0)] (cw_up J 9 f) (some (.int x)) J2 ∧ bX11_contiguousLeast_0_29 K r J9 (nI w2) x J2) → bX11_contiguousLeast_0_33 K r J9 (nI w) (cw_up J 9 f) := by
  have hn := h.2.2.1
  have hk := h.2.2.2.1
  obtain ⟨hl, hd⟩ := sp_en_mem (show k < 7 by omega) hm
  have stop : ∀ w, w ≤ 216 → n < sp_gr v n (w + 1) l 0 → ∀ (r : Option Value) (J9 : cw_M), (∃ (x : Int32) (J2 : cw_M), cw_C (cr_w K) mX11_advanceSequence [.ref (cw_a (cr_w K) 0)] (cw_up J 9 f) (some (.int x)) J2 ∧ bX11_contiguousLeast_0_29 K r J9 (nI w) x J2) → bX11_contiguousLeast_0_33 K r J9 (nI w) (cw_up J 9 f) := by
    intro w hw hg r J9 hx
    have hc := sr_reaches (K := K) h hl hd hf (show 1 ≤ w + 1 by omega) (by omega)
    rw [if_neg (by omega)] at hc
    refine tbX11_contiguousLeast_0_33 ⟨_, _, ?_, fun _ => hx, fun z => absurd rfl z⟩
    rw [nI_1]
    exact hc
  intro d
  induction d with
  | zero =>
    intro w hw hcan
    have hg := sp_gr_big (v := v) h.2.2.2.2.1 hn hk1 (show k < 7 by omega) (show 217 ≤ w + 1 by omega) hm
    exact ⟨w, Nat.le_refl _, by omega, hcan, hg, stop w (by omega) hg⟩
  | succ d ih =>
    intro w hw hcan
    by_cases z : sp_gr v n (w + 1) l 0 ≤ n
    · obtain ⟨w2, h1, h2, h3, h4, h5⟩ := ih (w + 1) (by omega) (Or.inr (decide_eq_true ((sp_can_iff (by omega) (by omega)).mpr ⟨l, hm, z⟩)))
      refine ⟨w2, by omega, h2, h3, h4, fun r J9 hx => ?_⟩
      have hc := sr_reaches (K := K) h hl hd hf (show 1 ≤ w + 1 by omega) (by omega)
      rw [if_pos z] at hc
      refine tbX11_contiguousLeast_0_33 ⟨1, cw_up J 9 f, ?_, fun y => absurd y (by decide), fun _ => ?_⟩
      · rw [nI_1]
        exact hc
      · rw [nI_1]
        exact h5 r J9 hx
    · exact ⟨w, Nat.le_refl _, by omega, hcan, by omega, stop w (by omega) (by omega)⟩
theorem sl_least29 (h : sp_rv n k v J) (hk1 : 1 ≤ k) : ∀ (m : Nat) (l : List Nat) (f : Nat → Int32) (w : Nat), sp_fin k m l = true → (∀ x ∈ sp_en k m l, x ∈ sp_en k 720 (List.range k)) → sp_hl f l → (w = 0 ∨ sp_can v n k w = true) → w ≤ 216 → ∃ (f2 : Nat → Int32) (w2 : Nat), w ≤ w2 ∧ w2 ≤ 216 ∧ (w2 = 0 ∨ sp_can v n k w2 = true) ∧ (∀ x ∈ sp_en k m l, n < sp_gr v n (w2 + 1) x 0) ∧ bX11_contiguousLeast_0_29 K (some (.int (nI w2))) (cw_up J 9 f2) (nI w) 1 (cw_up J 9 f) := by
  have hk := h.2.2.2.1
  intro m
  induction m with
  | zero =>
    intro l f w hfin
    cases hfin
  | succ m ih =>
    intro l f w hfin hin hf hcan hw
    have hml : l ∈ sp_en k 720 (List.range k) := hin l (by unfold sp_en; exact List.mem_cons_self)
    obtain ⟨hl, hd⟩ := sp_en_mem (show k < 7 by omega) hml
    obtain ⟨w1, a1, a2, a3, a4, a5⟩ := sl_least33 (K := K) h hk1 hml hf (216 - w) w (by omega) hcan
    obtain ⟨hA, hB⟩ := sr_advance (K := K) h hk1 hl hd hf
    cases hx : sp_nxl k l with
    | none =>
      have een : sp_en k (m + 1) l = [l] := by
        show l :: (match sp_nxl k l with | none => [] | some l2 => sp_en k m l2) = [l]
        rw [hx]
      refine ⟨f, w1, a1, a2, a3, fun x hx2 => ?_, tbX11_contiguousLeast_0_29 (br_f (by decide) (a5 _ _ ⟨_, _, hA hx, tbX11_contiguousLeast_0_29 (br_t rfl ⟨rfl, rfl⟩)⟩))⟩
      rw [een] at hx2
      rw [List.mem_singleton.mp hx2]
      exact a4
    | some l2 =>
      have een : sp_en k (m + 1) l = l :: sp_en k m l2 := by
        show l :: (match sp_nxl k l with | none => [] | some l2 => sp_en k m l2) = _
        rw [hx]
      have efin : sp_fin k (m + 1) l = sp_fin k m l2 := by
        show (match sp_nxl k l with | none => true | some l2 => sp_fin k m l2) = _
        rw [hx]
      obtain ⟨f2, c1, c2⟩ := hB l2 hx
      obtain ⟨f3, w2, b1, b2, b3, b4, b5⟩ := ih l2 f2 w1 (by rw [← efin]; exact hfin) (fun x hx2 => hin x (by rw [een]; exact List.mem_cons_of_mem _ hx2)) c1 a3 a2
      refine ⟨f3, w2, by omega, b2, b3, fun x hx2 => ?_, tbX11_contiguousLeast_0_29 (br_f (by decide) (a5 _ _ ⟨_, _, c2, b5⟩))⟩
      rw [een] at hx2
      rcases List.mem_cons.mp hx2 with z | z
      · rw [z]
        have := sp_gr_mono (v := v) (n := n) (show 1 ≤ w1 + 1 by omega) (show w1 + 1 ≤ w2 + 1 by omega) l 0 0 (Nat.le_refl 0)
        omega
      · exact b4 x z
theorem sl_least2 (h : sp_rv n k v J) {r : Option Value} (hout : ∀ f : Nat → Int32, (∀ j, j < k → f j = nI j) → ∃ f2, bX11_contiguousLeast_0_29 K r (cw_up J 9 f2) 0 1 (cw_up J 9 f)) : ∀ (d i : Nat) (f : Nat → Int32), i + d = k → (∀ j, j < i → f j = nI j) → ∃ f2, bX11_contiguousLeast_0_2 K r (cw_up J 9 f2) (nI i) (cw_up J 9 f) := by
  have hk := h.2.2.2.1
  intro d
  induction d with
  | zero =>
    intro i f hi hf
    have e0 : i = k := by omega
    rw [e0] at hf ⊢
    have hJ : sp_rv n k v (cw_up J 9 f) := h.up (by decide)
    obtain ⟨f2, h1⟩ := hout f hf
    exact ⟨f2, tbX11_contiguousLeast_0_2 (br_t (by rw [hJ.2.1]; exact nI_le (Nat.le_refl _) (by omega)) h1)⟩
  | succ d ih =>
    intro i f hi hf
    have hJ : sp_rv n k v (cw_up J 9 f) := h.up (by decide)
    obtain ⟨f2, h1⟩ := ih (i + 1) (upd f i (nI i)) (by omega) (fun j hj => by
      unfold upd
      by_cases z : j = i
      · rw [if_pos z, z]
      · rw [if_neg z]
        exact hf j (by omega))
    refine ⟨f2, tbX11_contiguousLeast_0_2 (br_f (by rw [hJ.2.1]; exact nI_ge (by omega) (by omega)) ⟨vp_in_nI (by omega) (by omega), ?_⟩)⟩
    rw [nI_clamp (by omega), nI_1]
    have e9 : cw_st (cw_up J 9 f) 9 i (nI i) = cw_up J 9 (upd f i (nI i)) := by
      show cw_up (cw_up J 9 f) 9 (upd ((cw_up J 9 f) 9) i _) = _
      rw [sp_upup, show (cw_up J 9 f) 9 = f by simp [cw_up]]
    rw [e9]
    exact h1
theorem sp_range_getD (k j : Nat) (h : j < k) : (List.range k).getD j 0 = j := by
  rw [List.getD_eq_getElem?_getD, List.getElem?_range h]
  rfl
theorem sr_contiguousLeast (h : sp_rv n k v J) (hk1 : 1 ≤ k) : ∃ f2, cw_C (cr_w K) mX11_contiguousLeast [.ref (cw_a (cr_w K) 0)] J (some (.int (nI (sp_best v n k)))) (cw_up J 9 f2) := by
  have hk := h.2.2.2.1
  have hn := h.2.2.1
  obtain ⟨f2, h1⟩ := sl_least2 (K := K) h (r := some (.int (nI (sp_best v n k)))) (fun f hf => by
    obtain ⟨f2, w2, a1, a2, a3, a4, a5⟩ := sl_least29 (K := K) h hk1 720 (List.range k) f 0 (sp_en_fin k (by omega)) (fun x hx => hx) (fun j hj => by
      rw [List.length_range] at hj
      rw [sp_range_getD k j hj]
      exact hf j hj) (Or.inl rfl) (Nat.zero_le _)
    have e : w2 = sp_best v n k := sp_best_eq h.2.2.2.2.1 hn hk1 (by omega) a3 (decide_eq_false fun z => by
      obtain ⟨l, b1, b2⟩ := (sp_can_iff (show k < 7 by omega) (show 1 ≤ w2 + 1 by omega)).mp z
      have := a4 l b1
      omega)
    rw [e] at a5
    exact ⟨f2, a5⟩) k 0 (J 9) (by omega) (fun j hj => absurd hj (Nat.not_lt_zero j))
  rw [sp_upself] at h1
  exact ⟨f2, eX11_contiguousLeast_0 h1⟩
end LEAR
