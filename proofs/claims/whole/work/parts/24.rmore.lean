/-! ## blocks copied, shares exchanged, enviers, strong envies: the reference -/
/-- block b overwritten by the first m places of block a -/
def sp_cbp (f : Nat → Int32) (a b m : Nat) : Nat → Int32 := fun j => if b * 212 ≤ j ∧ j < b * 212 + m then f (a * 212 + (j - b * 212)) else f j
abbrev sp_cb (f : Nat → Int32) (a b : Nat) : Nat → Int32 := sp_cbp f a b 212
theorem sp_cbp_0 (f : Nat → Int32) (a b : Nat) : sp_cbp f a b 0 = f := by
  funext j
  unfold sp_cbp
  rw [if_neg (by omega)]
theorem sp_cbp_at (f : Nat → Int32) {a b i : Nat} (h : a ≠ b) (hi : i < 212) (m : Nat) (hm : m ≤ 212) : sp_cbp f a b m (a * 212 + i) = f (a * 212 + i) := by
  unfold sp_cbp
  rw [if_neg (by omega)]
theorem sp_cbp_upd (f : Nat → Int32) (a b m : Nat) : upd (sp_cbp f a b m) (b * 212 + m) (f (a * 212 + m)) = sp_cbp f a b (m + 1) := by
  funext j
  unfold upd sp_cbp
  by_cases hj : j = b * 212 + m
  · rw [if_pos hj, if_pos (by omega), hj, show b * 212 + m - b * 212 = m by omega]
  · rw [if_neg hj]
    by_cases h2 : b * 212 ≤ j ∧ j < b * 212 + m
    · rw [if_pos h2, if_pos (by omega)]
    · rw [if_neg h2, if_neg (by omega)]
theorem sp_rv.st0 {J : cw_M} {n k : Nat} {v : Nat → Nat → Nat} (h : sp_rv n k v J) (p : Nat) (x : Int32) : sp_rv n k v (cw_st J 0 p x) := h.up (o := 0) (by decide)
theorem sp_x_0 (f : Nat → Int32) (a b : Int32) : sp_x f a b 0 = f := by
  funext j
  unfold sp_x
  rw [if_neg (by omega)]
theorem sp_x_at (f : Nat → Int32) (a b : Int32) (m : Nat) : sp_x f a b m m = f m := by
  unfold sp_x
  rw [if_neg (by omega)]
theorem sp_x_upd (f : Nat → Int32) (a b : Int32) (m : Nat) : upd (sp_x f a b m) m (if f m = a then b else if f m = b then a else f m) = sp_x f a b (m + 1) := by
  funext j
  unfold upd sp_x
  by_cases hj : j = m
  · subst hj; rw [if_pos rfl, if_pos (show j < j + 1 by omega)]
  · rw [if_neg hj]
    by_cases h2 : j < m
    · rw [if_pos h2, if_pos (show j < m + 1 by omega)]
    · rw [if_neg h2, if_neg (by omega)]
theorem sp_upd_upd (f : Nat → Int32) (c : Nat) (x y : Int32) : upd (upd f c x) c y = upd f c y := by
  funext j
  unfold upd
  by_cases z : j = c
  · rw [if_pos z, if_pos z]
  · rw [if_neg z, if_neg z, if_neg z]
theorem sp_upd_self (f : Nat → Int32) (c : Nat) : upd f c (f c) = f := by
  funext j
  unfold upd
  by_cases z : j = c
  · rw [if_pos z, z]
  · rw [if_neg z]
section RMO
variable {K : cw_K} {J : cw_M} {n k : Nat} {v : Nat → Nat → Nat} {ow : Nat → Int32}
theorem sl_copyBlock {a b : Nat} (hab : a ≠ b) (ha : a ≤ 9) (hb : b ≤ 9) : ∀ e i : Nat, i + e = 212 → bX11_copyBlock_0_2 K none (cw_up J 1 (sp_cb (J 1) a b)) (nI a) (nI b) (nI i) (cw_up J 1 (sp_cbp (J 1) a b i)) := by
  intro e
  induction e with
  | zero =>
    intro i hi
    have e0 : i = 212 := by omega
    rw [e0]
    exact tbX11_copyBlock_0_2 ⟨fun _ => ⟨rfl, rfl⟩, fun z => absurd (by decide) z⟩
  | succ e ih =>
    intro i hi
    have h1 := ih (i + 1) (by omega)
    refine tbX11_copyBlock_0_2 ⟨fun z => absurd ((nI_leI (a := 212) (by omega) (by omega)).mp z) (by omega), fun _ => ?_⟩
    rw [show nI a * 212 + nI i = nI (a * 212 + i) from sp_ix 212 a i, show nI b * 212 + nI i = nI (b * 212 + i) from sp_ix 212 b i, nI_clamp (by omega), nI_clamp (by omega), nI_1]
    refine ⟨vp_in_nI (by omega) (by omega), vp_in_nI (by omega) (by omega), ?_⟩
    have e1 : (cw_up J 1 (sp_cbp (J 1) a b i)) 1 (a * 212 + i) = J 1 (a * 212 + i) := by
      show sp_cbp (J 1) a b i (a * 212 + i) = _
      exact sp_cbp_at _ hab (by omega) _ (by omega)
    have e9 : cw_st (cw_up J 1 (sp_cbp (J 1) a b i)) 1 (b * 212 + i) (J 1 (a * 212 + i)) = cw_up J 1 (sp_cbp (J 1) a b (i + 1)) := by
      show cw_up (cw_up J 1 _) 1 (upd ((cw_up J 1 (sp_cbp (J 1) a b i)) 1) (b * 212 + i) _) = _
      rw [sp_upup, show (cw_up J 1 (sp_cbp (J 1) a b i)) 1 = sp_cbp (J 1) a b i by simp [cw_up], sp_cbp_upd]
    rw [e1, e9]
    exact h1
theorem sr_copyBlock {a b : Nat} (hab : a ≠ b) (ha : a ≤ 9) (hb : b ≤ 9) : cw_C (cr_w K) mX11_copyBlock [.ref (cw_a (cr_w K) 0), .int (nI a), .int (nI b)] J none (cw_up J 1 (sp_cb (J 1) a b)) := by
  have h1 := sl_copyBlock (K := K) (J := J) hab ha hb 212 0 (by omega)
  rw [sp_cbp_0, sp_upself] at h1
  exact eX11_copyBlock_0 h1
theorem sl_rexch {J0 : cw_M} (h : sp_rv n k v J0) (a b : Int32) (f : Nat → Int32) : ∀ e c : Nat, c + e = n → bX11_exchange_0_2 K none (cw_up J0 1 (sp_sh (sp_x f a b n) (J0 1))) a b (nI c) (cw_up J0 1 (sp_sh (sp_x f a b c) (J0 1))) := by
  have hn := h.2.2.1
  intro e
  induction e with
  | zero =>
    intro c hc
    have e0 : c = n := by omega
    rw [e0]
    have hJ := h.sh (sp_x f a b n)
    exact tbX11_exchange_0_2 (br_t (by rw [hJ.1]; exact nI_le (Nat.le_refl _) (by omega)) ⟨rfl, rfl⟩)
  | succ e ih =>
    intro c hc
    have hJ := h.sh (sp_x f a b c)
    have ho2 : ∀ j, j < n → (cw_up J0 1 (sp_sh (sp_x f a b c) (J0 1))) 1 (2 + j) = sp_x f a b c j := fun j hj => sp_sh_at J0 _ (by omega)
    have h1 := ih (c + 1) (by omega)
    rw [← sp_x_upd] at h1
    refine tbX11_exchange_0_2 (br_f (by rw [hJ.1]; exact nI_ge (by omega) (by omega)) ⟨_, _, sr_ownerOf hn ho2 (show c < n by omega), ?_⟩)
    rw [sp_x_at, sp_ix2, nI_clamp (by omega), sp_sh_st J0 _ (by omega), sp_sh_st J0 _ (by omega), sp_sh_st J0 _ (by omega), sp_upd_upd, nI_1]
    have hin : vp_in (nI (2 + c)) 2120 := vp_in_nI (by omega) (by omega)
    refine ⟨fun q => ⟨fun q2 => ?_, fun q2 => ⟨hin, ?_⟩⟩, fun q => ⟨hin, fun q2 => ?_, fun q2 => ⟨hin, ?_⟩⟩⟩
    · rw [if_neg q, if_neg q2, ← sp_x_at f a b c, sp_upd_self] at h1
      exact h1
    · rw [if_neg q, if_pos q2] at h1
      exact h1
    · rw [if_pos q] at h1
      exact h1
    · rw [if_pos q] at h1
      have : b = a := q2.symm.trans q
      rw [this] at h1 ⊢
      exact h1
theorem sr_exchange (h : sp_rv n k v J) (a b : Int32) : cw_C (cr_w K) mX11_exchange [.ref (cw_a (cr_w K) 0), .int a, .int b] J none (cw_up J 1 (sp_sh (sp_x (fun c => J 1 (2 + c)) a b n) (J 1))) := by
  have h1 := sl_rexch (K := K) h a b (fun c => J 1 (2 + c)) n 0 (by omega)
  rw [sp_x_0, sp_sh_self] at h1
  exact eX11_exchange_0 h1
theorem sl_enviersOf (h : sp_rv n k v J) (ho : ∀ c, c < n → J 1 (2 + c) = ow c) (o : Nat) : ∀ d i : Nat, i + d = k → bX11_enviersOf_0_4 K (some (.int (nI (sp_n (fun s => sp_envy v ow n s o) k)))) J (nI o) (nI (sp_n (fun s => sp_envy v ow n s o) i)) (nI i) J := by
  have hk := h.2.2.2.1
  intro d
  induction d with
  | zero =>
    intro i hi
    have : i = k := by omega
    subst this
    exact tbX11_enviersOf_0_4 (br_t (by rw [h.2.1]; exact nI_le (Nat.le_refl _) (by omega)) ⟨rfl, rfl⟩)
  | succ d ih =>
    intro i hi
    have h1 := ih (i + 1) (by omega)
    have e0 : sp_n (fun s => sp_envy v ow n s o) (i + 1) = sp_n (fun s => sp_envy v ow n s o) i + (if sp_envy v ow n i o then 1 else 0) := rfl
    refine tbX11_enviersOf_0_4 (br_f (by rw [h.2.1]; exact nI_ge (by omega) (by omega)) ⟨_, _, sr_hasEnvy h ho (show i < k by omega), fun q => ?_, fun q => ?_⟩)
    · rw [e0, if_neg (sp_bit0 q), Nat.add_zero] at h1
      rw [nI_1, Int32.add_zero]
      exact h1
    · rw [e0, if_pos (sp_bit1 q)] at h1
      rw [nI_1, nI_1]
      exact h1
theorem sr_enviersOf (h : sp_rv n k v J) (ho : ∀ c, c < n → J 1 (2 + c) = ow c) (o : Nat) : cw_C (cr_w K) mX11_enviersOf [.ref (cw_a (cr_w K) 0), .int (nI o)] J (some (.int (nI (sp_n (fun s => sp_envy v ow n s o) k)))) J :=
  eX11_enviersOf_0 (sl_enviersOf h ho o k 0 (by omega))
theorem sl_rmostEnvied (h : sp_rv n k v J) (ho : ∀ c, c < n → J 1 (2 + c) = ow c) : ∀ d i : Nat, i + 1 + d = k → bX11_mostEnvied_0_9 K (some (.int (nI (sp_most v ow n k (k - 1))))) J (nI (sp_most v ow n k i)) (nI (i + 1)) J := by
  have hk := h.2.2.2.1
  intro d
  induction d with
  | zero =>
    intro i hi
    have : k = i + 1 := by omega
    subst this
    exact tbX11_mostEnvied_0_9 (br_t (by rw [h.2.1]; exact nI_le (Nat.le_refl _) (by omega)) ⟨rfl, rfl⟩)
  | succ d ih =>
    intro i hi
    have h1 := ih (i + 1) (by omega)
    have b1 := sp_n_le (P := fun s => sp_envy v ow n s (i + 1)) (m := k)
    have b2 := sp_n_le (P := fun s => sp_envy v ow n s (sp_most v ow n k i)) (m := k)
    have e0 : sp_most v ow n k (i + 1) = if sp_n (fun s => sp_envy v ow n s (sp_most v ow n k i)) k < sp_n (fun s => sp_envy v ow n s (i + 1)) k then i + 1 else sp_most v ow n k i := rfl
    refine tbX11_mostEnvied_0_9 (br_f (by rw [h.2.1]; exact nI_ge (by omega) (by omega)) ⟨_, _, sr_enviersOf h ho (i + 1), _, _, sr_enviersOf h ho _, fun q => ?_, fun q => ?_⟩)
    · have q2 := (nI_leI (by omega) (by omega)).mp q
      rw [e0, if_neg (by omega)] at h1
      rw [nI_1]
      exact h1
    · have q2 : ¬ _ := fun z => q (nI_le z (by omega))
      rw [e0, if_pos (Nat.not_le.mp q2)] at h1
      rw [nI_1]
      exact h1
theorem sr_mostEnvied (h : sp_rv n k v J) (hk1 : 1 ≤ k) (ho : ∀ c, c < n → J 1 (2 + c) = ow c) : cw_C (cr_w K) mX11_mostEnvied [.ref (cw_a (cr_w K) 0)] J (some (.int (nI (sp_most v ow n k (k - 1))))) (cw_st J 0 9 0) :=
  eX11_mostEnvied_0 (sl_rmostEnvied (h.st0 9 0) (fun c hc => ho c hc) (k - 1) 0 (by omega))
theorem sl_rstrong2 (h : sp_rv n k v J) (ho : ∀ c, c < n → J 1 (2 + c) = ow c) {r : Option Value} {t s : Nat} (hs : s < k) (hout : bX11_strongEnvyCount_0_9 K r J (nI (t + sp_n (fun o => sp_strong v ow n s o) k)) (nI (s + 1)) J) : ∀ d i : Nat, i + d = k → bX11_strongEnvyCount_0_21 K r J (nI (t + sp_n (fun o => sp_strong v ow n s o) i)) (nI s) (nI i) J := by
  have hk := h.2.2.2.1
  intro d
  induction d with
  | zero =>
    intro i hi
    have : i = k := by omega
    subst this
    refine tbX11_strongEnvyCount_0_21 (br_t (by rw [h.2.1]; exact nI_le (Nat.le_refl _) (by omega)) ?_)
    rw [nI_1]
    exact hout
  | succ d ih =>
    intro i hi
    have h1 := ih (i + 1) (by omega)
    have e0 : sp_n (fun o => sp_strong v ow n s o) (i + 1) = sp_n (fun o => sp_strong v ow n s o) i + (if sp_strong v ow n s i then 1 else 0) := rfl
    refine tbX11_strongEnvyCount_0_21 (br_f (by rw [h.2.1]; exact nI_ge (by omega) (by omega)) ⟨_, _, sr_hasEnvy h ho hs, fun q => ?_, fun q => ⟨_, _, sr_hasMildEnvy h ho hs, fun q2 => ?_, fun q2 => ?_⟩⟩)
    · have q3 : ¬ sp_strong v ow n s i := fun z => sp_bit0 q (Nat.lt_of_lt_of_le z (Nat.sub_le _ _))
      rw [e0, if_neg q3, Nat.add_zero] at h1
      rw [nI_1, Int32.add_zero]
      exact h1
    · rw [e0, if_neg (sp_bit1 q2), Nat.add_zero] at h1
      rw [nI_1, Int32.add_zero]
      exact h1
    · rw [e0, if_pos (Decidable.not_not.mp (sp_bit0 q2)), ← Nat.add_assoc] at h1
      rw [nI_1, nI_1]
      exact h1
theorem sl_rstrong (h : sp_rv n k v J) (ho : ∀ c, c < n → J 1 (2 + c) = ow c) : ∀ d i : Nat, i + d = k → bX11_strongEnvyCount_0_9 K (some (.int (nI (sp_strongs v ow n k k)))) J (nI (sp_strongs v ow n k i)) (nI i) J := by
  have hk := h.2.2.2.1
  intro d
  induction d with
  | zero =>
    intro i hi
    have : i = k := by omega
    subst this
    exact tbX11_strongEnvyCount_0_9 (br_t (by rw [h.2.1]; exact nI_le (Nat.le_refl _) (by omega)) ⟨rfl, rfl⟩)
  | succ d ih =>
    intro i hi
    refine tbX11_strongEnvyCount_0_9 (br_f (by rw [h.2.1]; exact nI_ge (by omega) (by omega)) ?_)
    exact sl_rstrong2 (K := K) (r := some (.int (nI (sp_strongs v ow n k k)))) (t := sp_strongs v ow n k i) h ho (show i < k by omega) (ih (i + 1) (by omega)) k 0 (by omega)
theorem sr_strongEnvyCount (h : sp_rv n k v J) (ho : ∀ c, c < n → J 1 (2 + c) = ow c) : cw_C (cr_w K) mX11_strongEnvyCount [.ref (cw_a (cr_w K) 0)] J (some (.int (nI (sp_strongs v ow n k k)))) (cw_st J 0 9 0) :=
  eX11_strongEnvyCount_0 (sl_rstrong (h.st0 9 0) (fun c hc => ho c hc) k 0 (by omega))
end RMO
