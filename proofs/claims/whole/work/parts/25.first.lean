/-! ## the best first, and what does not hang on the old owners -/
theorem sp_min_congr {f g : Nat → Nat} : ∀ {i : Nat}, (∀ j, j ≤ i → f j = g j) → sp_min f i = sp_min g i
  | 0, h => h 0 (Nat.le_refl 0)
  | i + 1, h => by
    show min (sp_min f i) (f (i + 1)) = min (sp_min g i) (g (i + 1))
    rw [sp_min_congr (fun j hj => h j (by omega)), h (i + 1) (Nat.le_refl _)]
theorem sp_own_congr {v : Nat → Nat → Nat} {s n : Nat} {o : Int32} {f g : Nat → Int32} (h : ∀ c, c < n → f c = g c) : sp_own v f s o n = sp_own v g s o n := sp_s_congr fun j hj => by
  unfold sp_o
  rw [h j hj]
theorem sp_fv_congr {x : Nat → Nat} {f g : Nat → Int32} : ∀ {n : Nat}, (∀ c, c < n → f c = g c) → sp_fv x f n = sp_fv x g n
  | 0, _ => rfl
  | n + 1, h => by
    unfold sp_fv
    rw [sp_fv_congr (fun c hc => h c (by omega)), h n (by omega)]
theorem sp_rb_congr {v : Nat → Nat → Nat} {n k : Nat} : ∀ (d : Nat) (f g : Nat → Int32) (t m : Nat), (∀ c, c < n → f c = g c) → (sp_rb v n k d f t m).2 = (sp_rb v n k d g t m).2 ∧ ∀ c, c < n → (sp_rb v n k d f t m).1 c = (sp_rb v n k d g t m).1 c
  | 0, f, g, t, m, h => ⟨rfl, h⟩
  | d + 1, f, g, t, m, h => by
    have e := sp_fv_congr (x := v t) h
    unfold sp_rb
    rw [e]
    cases sp_fv (v t) g n with
    | none => exact ⟨rfl, h⟩
    | some c =>
      refine sp_rb_congr d _ _ _ _ fun j hj => ?_
      unfold upd
      by_cases z : j = c
      · rw [if_pos z, if_pos z]
      · rw [if_neg z, if_neg z]
        exact h j hj
theorem sp_tr_congr {v : Nat → Nat → Nat} {n k t : Nat} (f g : Nat → Int32) : ∀ c, c < n → sp_tr v n k t f c = sp_tr v n k t g c := (sp_rb_congr n _ _ t 0 fun c hc => by
  unfold sp_put
  rw [if_pos ⟨Nat.zero_le c, hc⟩, if_pos ⟨Nat.zero_le c, hc⟩]).2
theorem sp_kn_congr {v : Nat → Nat → Nat} {n k : Nat} (hk : k < 7) : ∀ (w S a : Nat) (f g : Nat → Int32), S < 64 → sp_wt k S = w → (1 ≤ w ∨ n ≤ a) → (∀ c, c < a → c < n → f c = g c) → ∀ c, c < n → sp_kn v n k w S a f c = sp_kn v n k w S a g c
  | 0, S, a, f, g, _, _, h, hfg, c, hc => hfg c (by omega) hc
  | w + 1, S, a, f, g, hS, hw, h, hfg, c, hc => by
    by_cases ha : n ≤ a
    · rw [sp_kn_end ha, sp_kn_end ha]
      exact hfg c (by omega) hc
    · obtain ⟨t, ht⟩ := sp_fc_some (S := S) (g := sp_g v n a (w + 1)) (i := k) (by omega)
      obtain ⟨t1, t2⟩ := sp_fc_lt ht
      have e : ∀ f, sp_kn v n k (w + 1) S a f = sp_kn v n k w (S ||| 2 ^ t) (sp_g v n a (w + 1) t + 1) (sp_put f (nI t) a (sp_g v n a (w + 1) t + 1)) := fun f => by
        show (if n ≤ a then f else match sp_fc S (sp_g v n a (w + 1)) k with | none => f | some t => _) = _
        rw [if_neg ha, ht]
      rw [e f, e g]
      have h1 := sp_wt_set k hk S hS t t1 t2
      have h2 := (sp_set6 S hS t (by omega)).2.1
      refine sp_kn_congr hk w _ _ _ _ h2 (by omega) ?_ (fun j hj hj2 => ?_) c hc
      · by_cases z : 1 ≤ w
        · exact Or.inl z
        · refine Or.inr ?_
          have : w = 0 := by omega
          subst this
          show n ≤ (if 0 + 1 = 1 then n - 1 else _) + 1
          rw [if_pos rfl]
          omega
      · unfold sp_put
        by_cases z : a ≤ j ∧ j < sp_g v n a (w + 1) t + 1
        · rw [if_pos z, if_pos z]
        · rw [if_neg z, if_neg z]
          exact hfg j (by omega) hj2
/-- the least welfare behind round robin from t -/
def sp_rl (v : Nat → Nat → Nat) (n k t : Nat) : Nat := sp_min (fun s => sp_own v (sp_tr v n k t (fun _ => -1)) s (nI s) n) (k - 1)
theorem sp_rl_eq {v : Nat → Nat → Nat} {n k t : Nat} (f : Nat → Int32) : sp_min (fun s => sp_own v (sp_tr v n k t f) s (nI s) n) (k - 1) = sp_rl v n k t := sp_min_congr fun _ _ => sp_own_congr (sp_tr_congr _ _)
theorem sp_rl_le {v : Nat → Nat → Nat} {n k t : Nat} (h : sp_dig v n k) (hn : n ≤ 24) (hk1 : 1 ≤ k) : sp_rl v n k t ≤ 216 := by
  have h1 := sp_min_le (f := fun s => sp_own v (sp_tr v n k t (fun _ => -1)) s (nI s) n) (i := k - 1) (j := 0) (by omega)
  have h2 : sp_own v (sp_tr v n k t (fun _ => -1)) 0 (nI 0) n ≤ 9 * n := sp_own_le h (show 0 < k by omega) (Nat.le_refl n)
  have h3 : sp_rl v n k t ≤ sp_own v (sp_tr v n k t (fun _ => -1)) 0 (nI 0) n := h1
  omega
/-- the trial row behind the first i tries -/
def sp_t21 (v : Nat → Nat → Nat) (n k : Nat) (f : Nat → Int32) : Nat → Nat → Int32
  | 0 => f
  | i + 1 => sp_tr v n k i (sp_t21 v n k f i)
section FIRC
variable {K : cw_K} {I : cw_M} {n k : Nat} {v : Nat → Nat → Nat}
theorem sc_trial21 (h : sp_cv n k v I) (f : Nat → Int32) {t : Nat} (ht : t < k) : cw_C (cc_w K) mX6_divideTrialByRobin [.ref (cw_a (cc_w K) 20), .int (nI t)] (cw_up I 21 f) none (cw_up I 21 (sp_tr v n k t f)) := by
  have hI : sp_cv n k v (cw_up I 21 f) := h.up (by decide) (by decide)
  have h1 := sc_trialRobin (K := K) hI ht
  have e1 : (cw_up I 21 f) 21 = f := by simp [cw_up]
  rw [sp_upup, e1] at h1
  exact h1
theorem sc_least21 (h : sp_cv n k v I) (hk1 : 1 ≤ k) (f : Nat → Int32) (t : Nat) : cw_C (cc_w K) mX1_leastWelfareAmong [.ref (cw_a (cc_w K) 5), .ref (cw_a (cc_w K) 21)] (cw_up I 21 (sp_tr v n k t f)) (some (.int (nI (sp_rl v n k t)))) (cw_up I 21 (sp_tr v n k t f)) := by
  have hI : sp_cv n k v (cw_up I 21 (sp_tr v n k t f)) := h.up (by decide) (by decide)
  have h1 := sc_leastWelfareAmong_21 (K := K) hI hk1 (ow := sp_tr v n k t f) (fun c _ => by simp [cw_up])
  rw [sp_rl_eq] at h1
  exact h1
theorem sl_bestFirst (h : sp_cv n k v I) (hk1 : 1 ≤ k) : ∀ d i : Nat, i + 1 + d = k → bX6_findBestFirst_20_6 K (some (.int (nI (sp_arg (sp_rl v n k) (k - 1))))) (cw_up I 21 (sp_t21 v n k (I 21) k)) (nI (sp_arg (sp_rl v n k) i)) (nI (sp_rl v n k (sp_arg (sp_rl v n k) i))) (nI (i + 1)) (cw_up I 21 (sp_t21 v n k (I 21) (i + 1))) := by
  have hn := h.2.2.1
  have hk := h.2.2.2.1
  intro d
  induction d with
  | zero =>
    intro i hi
    have : k = i + 1 := by omega
    subst this
    have hI : sp_cv n (i + 1) v (cw_up I 21 (sp_t21 v n (i + 1) (I 21) (i + 1))) := h.up (by decide) (by decide)
    exact tbX6_findBestFirst_20_6 (br_t (by rw [hI.2.1]; exact nI_le (Nat.le_refl _) (by omega)) ⟨rfl, rfl⟩)
  | succ d ih =>
    intro i hi
    have h1 := ih (i + 1) (by omega)
    have hI : sp_cv n k v (cw_up I 21 (sp_t21 v n k (I 21) (i + 1))) := h.up (by decide) (by decide)
    have b1 := sp_rl_le (t := i + 1) h.2.2.2.2.1 hn hk1
    have b2 := sp_rl_le (t := sp_arg (sp_rl v n k) i) h.2.2.2.2.1 hn hk1
    have e0 : sp_arg (sp_rl v n k) (i + 1) = if sp_rl v n k (sp_arg (sp_rl v n k) i) < sp_rl v n k (i + 1) then i + 1 else sp_arg (sp_rl v n k) i := rfl
    refine tbX6_findBestFirst_20_6 (br_f (by rw [hI.2.1]; exact nI_ge (by omega) (by omega)) ⟨_, sc_trial21 h _ (show i + 1 < k by omega), _, _, sc_least21 h hk1 _ (i + 1), fun q => ?_, fun q => ?_⟩)
    · have q2 := (nI_leI (by omega) (by omega)).mp q
      rw [e0, if_neg (by omega)] at h1
      rw [nI_1]
      exact h1
    · have q2 : ¬ _ := fun z => q (nI_le z (by omega))
      rw [e0, if_pos (Nat.not_le.mp q2)] at h1
      rw [nI_1]
      exact h1
theorem sc_findBestFirst (h : sp_cv n k v I) (hk1 : 1 ≤ k) : cw_C (cc_w K) mX6_findBestFirst [.ref (cw_a (cc_w K) 20)] I (some (.int (nI (sp_arg (sp_rl v n k) (k - 1))))) (cw_up I 21 (sp_t21 v n k (I 21) k)) := by
  have hk := h.2.2.2.1
  have h1 := sl_bestFirst (K := K) h hk1 (k - 1) 0 (by omega)
  have h2 := sc_trial21 (K := K) h (I 21) (show 0 < k by omega)
  rw [sp_upself] at h2
  refine eX6_findBestFirst_20 (tbX6_findBestFirst_20_6 (br_f (by rw [h.2.1]; exact nI_ge (a := 0) (by omega) (by omega)) ⟨_, h2, _, _, sc_least21 h hk1 _ 0, fun q => absurd q (sp_nle _ (by have := sp_rl_le (t := 0) h.2.2.2.2.1 h.2.2.1 hk1; omega)), fun _ => ?_⟩))
  exact h1
end FIRC
theorem sp_rv.cb {J : cw_M} {n k : Nat} {v : Nat → Nat → Nat} (h : sp_rv n k v J) {a b : Nat} (hb : 1 ≤ b) : sp_rv n k v (cw_up J 1 (sp_cb (J 1) a b)) := by
  obtain ⟨h1, h2, h3, h4, h5, h6⟩ := h
  have e : ∀ j, j < 212 → (cw_up J 1 (sp_cb (J 1) a b)) 1 j = J 1 j := fun j hj => by
    show sp_cbp (J 1) a b 212 j = _
    unfold sp_cbp
    rw [if_neg (by omega)]
  exact ⟨by rw [e 0 (by omega)]; exact h1, by rw [e 1 (by omega)]; exact h2, h3, h4, h5, fun s c hs hc => by rw [e _ (by omega)]; exact h6 s c hs hc⟩
theorem sp_cb_back (f g : Nat → Int32) : sp_cb (sp_sh g (sp_cb f 0 9)) 9 0 = sp_cb f 0 9 := by
  funext j
  show (if 0 * 212 ≤ j ∧ j < 0 * 212 + 212 then sp_sh g (sp_cb f 0 9) (9 * 212 + (j - 0 * 212)) else sp_sh g (sp_cb f 0 9) j) = _
  by_cases h : 0 * 212 ≤ j ∧ j < 0 * 212 + 212
  · rw [if_pos h]
    unfold sp_sh
    rw [if_neg (by omega)]
    unfold sp_cb sp_cbp
    rw [if_pos (by omega), if_neg (by omega), show 0 * 212 + (9 * 212 + (j - 0 * 212) - 9 * 212) = j by omega]
  · rw [if_neg h]
    unfold sp_sh
    rw [if_neg (by omega)]
section FIRR
variable {K : cw_K} {J : cw_M} {n k : Nat} {v : Nat → Nat → Nat}
theorem sr_robin_sh (h : sp_rv n k v J) (g : Nat → Int32) {t : Nat} (ht : t < k) : cw_C (cr_w K) mX11_robin [.ref (cw_a (cr_w K) 0), .int (nI t)] (cw_up J 1 (sp_sh g (J 1))) (some (.int (nI (sp_rb v n k n g t 0).2))) (cw_up J 1 (sp_sh (sp_rb v n k n g t 0).1 (J 1))) := by
  have hn := h.2.2.1
  have h1 := sl_rrobin (K := K) h n 0 (by omega) g t ht sp_cnt_le
  exact eX11_robin_0 ⟨_, _, sr_favourite (h.sh g) (fun c hc => sp_sh_at J g (by omega)) ht, h1⟩
theorem sr_clear_sh (h : sp_rv n k v J) (g : Nat → Int32) : cw_C (cr_w K) mX11_clear [.ref (cw_a (cr_w K) 0)] (cw_up J 1 (sp_sh g (J 1))) none (cw_up J 1 (sp_sh (sp_put g (-1) 0 n) (J 1))) := by
  have h1 := sl_clear (K := K) h g n 0 (by omega)
  rw [sp_put_nil] at h1
  exact eX11_clear_0 h1
theorem sr_least_sh (h : sp_rv n k v J) (hk1 : 1 ≤ k) (f : Nat → Int32) (t : Nat) : cw_C (cr_w K) mX11_least [.ref (cw_a (cr_w K) 0)] (cw_up J 1 (sp_sh (sp_tr v n k t f) (J 1))) (some (.int (nI (sp_rl v n k t)))) (cw_up J 1 (sp_sh (sp_tr v n k t f) (J 1))) := by
  have hn := h.2.2.1
  have h1 := sr_least (K := K) (h.sh (sp_tr v n k t f)) hk1 (ow := sp_tr v n k t f) (fun c hc => sp_sh_at J _ (by omega))
  rw [sp_rl_eq] at h1
  exact h1
theorem sl_rbestFirst (h : sp_rv n k v J) (hk1 : 1 ≤ k) (f : Nat → Int32) {J9 : cw_M} (hfin : cw_C (cr_w K) mX11_copyBlock [.ref (cw_a (cr_w K) 0), .int 9, .int 0] (cw_up J 1 (sp_sh (sp_t21 v n k f k) (J 1))) none J9) : ∀ d i : Nat, i + 1 + d = k → bX11_bestFirst_0_18 K (some (.int (nI (sp_arg (sp_rl v n k) (k - 1))))) J9 (nI (sp_arg (sp_rl v n k) i)) (nI (sp_rl v n k (sp_arg (sp_rl v n k) i))) (nI (i + 1)) (cw_up J 1 (sp_sh (sp_t21 v n k f (i + 1)) (J 1))) := by
  have hn := h.2.2.1
  have hk := h.2.2.2.1
  intro d
  induction d with
  | zero =>
    intro i hi
    have : k = i + 1 := by omega
    subst this
    exact tbX11_bestFirst_0_18 (br_t (by rw [(h.sh _).2.1]; exact nI_le (Nat.le_refl _) (by omega)) ⟨_, hfin, rfl, rfl⟩)
  | succ d ih =>
    intro i hi
    have h1 := ih (i + 1) (by omega)
    have b1 := sp_rl_le (t := i + 1) h.2.2.2.2.1 hn hk1
    have b2 := sp_rl_le (t := sp_arg (sp_rl v n k) i) h.2.2.2.2.1 hn hk1
    have e0 : sp_arg (sp_rl v n k) (i + 1) = if sp_rl v n k (sp_arg (sp_rl v n k) i) < sp_rl v n k (i + 1) then i + 1 else sp_arg (sp_rl v n k) i := rfl
    refine tbX11_bestFirst_0_18 (br_f (by rw [(h.sh _).2.1]; exact nI_ge (by omega) (by omega)) ⟨_, sr_clear_sh h _, _, _, sr_robin_sh h _ (show i + 1 < k by omega), _, _, sr_least_sh h hk1 _ (i + 1), fun q => ⟨_, _, sr_least_sh h hk1 _ (i + 1), ?_⟩, fun q => ?_⟩)
    · have q2 := (nI_ltI (by omega) (by omega)).mp q
      rw [e0, if_pos q2] at h1
      rw [nI_1]
      exact h1
    · have q2 : ¬ _ := fun z => q (nI_lt z (by omega))
      rw [e0, if_neg q2] at h1
      rw [nI_1]
      exact h1
/-- the reference's ints behind a try: block 9 holds the cake -/
abbrev sp_A (J : cw_M) : cw_M := cw_up (cw_st J 0 9 0) 1 (sp_cb (J 1) 0 9)
theorem sp_A_1 (J : cw_M) : (sp_A J) 1 = sp_cb (J 1) 0 9 := by
  show (if 1 = 1 then sp_cb (J 1) 0 9 else _) = _
  rw [if_pos rfl]
theorem sp_A_back (J : cw_M) (g : Nat → Int32) : cw_up (cw_up (sp_A J) 1 (sp_sh g ((sp_A J) 1))) 1 (sp_cb ((cw_up (sp_A J) 1 (sp_sh g ((sp_A J) 1))) 1) 9 0) = sp_A J := by
  have e1 : (cw_up (sp_A J) 1 (sp_sh g ((sp_A J) 1))) 1 = sp_sh g ((sp_A J) 1) := by
    show (if 1 = 1 then sp_sh g ((sp_A J) 1) else _) = _
    rw [if_pos rfl]
  rw [e1, sp_upup, sp_A_1, sp_cb_back, sp_upup]
theorem sr_bestFirst (h : sp_rv n k v J) (hk1 : 1 ≤ k) : cw_C (cr_w K) mX11_bestFirst [.ref (cw_a (cr_w K) 0)] J (some (.int (nI (sp_arg (sp_rl v n k) (k - 1))))) (sp_A J) := by
  have hk := h.2.2.2.1
  have hA : sp_rv n k v (sp_A J) := (h.st0 9 0).cb (a := 0) (b := 9) (by omega)
  have hc1 : cw_C (cr_w K) mX11_copyBlock [.ref (cw_a (cr_w K) 0), .int (nI 0), .int (nI 9)] (cw_st J 0 9 0) none (sp_A J) := sr_copyBlock (K := K) (J := cw_st J 0 9 0) (a := 0) (b := 9) (by omega) (by omega) (by omega)
  have hc2 := sr_copyBlock (K := K) (J := cw_up (sp_A J) 1 (sp_sh (sp_t21 v n k (fun c => (sp_A J) 1 (2 + c)) k) ((sp_A J) 1))) (a := 9) (b := 0) (by omega) (by omega) (by omega)
  rw [sp_A_back] at hc2
  have h1 := sl_rbestFirst (K := K) hA hk1 (fun c => (sp_A J) 1 (2 + c)) hc2 (k - 1) 0 (by omega)
  have h2 := sr_clear_sh (K := K) hA (fun c => (sp_A J) 1 (2 + c))
  rw [sp_sh_self] at h2
  refine eX11_bestFirst_0 ⟨_, hc1, tbX11_bestFirst_0_18 (br_f (by rw [hA.2.1]; exact nI_ge (a := 0) (by omega) (by omega)) ⟨_, h2, _, _, sr_robin_sh hA _ (show 0 < k by omega), _, _, sr_least_sh hA hk1 _ 0, fun q => ⟨_, _, sr_least_sh hA hk1 _ 0, ?_⟩, fun q => ?_⟩)⟩
  · exact h1
  · exfalso
    have b := sp_rl_le (t := 0) h.2.2.2.2.1 h.2.2.1 hk1
    refine q ?_
    rw [Int32.lt_iff_toInt_lt, nI_toInt (by omega)]
    have h2 : (-1 : Int32).toInt = -1 := by decide
    omega
end FIRR
