/-! ## envy and fair shares, on both sides -/
/-- the worth for s of the share of o -/
abbrev sp_w (v : Nat → Nat → Nat) (ow : Nat → Int32) (n s o : Nat) : Nat := sp_own v ow s (nI o) n
abbrev sp_envy (v : Nat → Nat → Nat) (ow : Nat → Int32) (n s o : Nat) : Prop := sp_w v ow n s s < sp_w v ow n s o
/-- the dearest cell for s of the share of o -/
abbrev sp_dear (v : Nat → Nat → Nat) (ow : Nat → Int32) (s o m : Nat) : Nat := sp_max (sp_o v ow s (nI o)) m
abbrev sp_strong (v : Nat → Nat → Nat) (ow : Nat → Int32) (n s o : Nat) : Prop := sp_w v ow n s s < sp_w v ow n s o - sp_dear v ow s o n
abbrev sp_fair (v : Nat → Nat → Nat) (ow : Nat → Int32) (n k s : Nat) : Prop := sp_s (v s) n ≤ sp_w v ow n s s * k
theorem sp_max_sum {f : Nat → Nat} : ∀ n : Nat, sp_max f n ≤ sp_s f n
  | 0 => Nat.le_refl _
  | n + 1 => by
    have h := sp_max_sum (f := f) n
    show max (sp_max f n) (f n) ≤ sp_s f n + f n
    rcases Nat.le_total (sp_max f n) (f n) with q | q
    · rw [Nat.max_eq_right q]; omega
    · rw [Nat.max_eq_left q]; omega
/-- how many of the first m -/
abbrev sp_n (P : Nat → Prop) (m : Nat) [DecidablePred P] : Nat := sp_s (fun j => if P j then 1 else 0) m
theorem sp_n_le {P : Nat → Prop} {m : Nat} [DecidablePred P] : sp_n P m ≤ m := by
  have h : sp_n P m ≤ 1 * m := sp_s_le (fun j _ => by
    show (if P j then 1 else 0) ≤ 1
    split <;> omega)
  omega
/-- sums over a rectangle, either way -/
theorem sp_s_zero {f : Nat → Nat} : ∀ {n : Nat}, (∀ j, j < n → f j = 0) → sp_s f n = 0
  | 0, _ => rfl
  | n + 1, h => by rw [sp_s, sp_s_zero (fun j hj => h j (by omega)), h n (by omega)]
theorem sp_s_plus (f g : Nat → Nat) : ∀ n : Nat, sp_s (fun j => f j + g j) n = sp_s f n + sp_s g n
  | 0 => rfl
  | n + 1 => by
    show sp_s (fun j => f j + g j) n + (f n + g n) = (sp_s f n + f n) + (sp_s g n + g n)
    rw [sp_s_plus f g n]
    omega
theorem sp_s_comm (f : Nat → Nat → Nat) (m : Nat) : ∀ n : Nat, sp_s (fun a => sp_s (fun b => f a b) m) n = sp_s (fun b => sp_s (fun a => f a b) n) m
  | 0 => (sp_s_zero fun _ _ => rfl).symm
  | n + 1 => by
    show sp_s (fun a => sp_s (fun b => f a b) m) n + sp_s (fun b => f n b) m = _
    rw [sp_s_comm f m n, ← sp_s_plus]
    exact sp_s_congr fun _ _ => rfl
section FAIRC
variable {K : cw_K} {I : cw_M} {n k : Nat} {v : Nat → Nat → Nat} {ow : Nat → Int32}
theorem sp_w_le (h : sp_dig v n k) (hn : n ≤ 24) {s o : Nat} (hs : s < k) : sp_w v ow n s o ≤ 216 := Nat.le_trans (sp_own_le h hs (Nat.le_refl n)) (by omega)
theorem sp_t_le (h : sp_dig v n k) (hn : n ≤ 24) {s : Nat} (hs : s < k) : sp_s (v s) n ≤ 216 := Nat.le_trans (sp_s_le (m := 9) fun j hj => h s j hs hj) (by omega)
theorem sc_w (h : sp_cv n k v I) (ho : ∀ c, c < n → I 9 c = ow c) {s o : Nat} (hs : s < k) : cw_C (cc_w K) mX1_worthOfOwned [.ref (cw_a (cc_w K) 5), .ref (cw_a (cc_w K) 9), .int (nI s), .int (nI o)] I (some (.int (nI (sp_w v ow n s o)))) I := sc_worthOfOwned_9 h ho hs (nI o)
theorem sc_wf (h : sp_cv n k v I) (ho : ∀ c, c < n → I 9 c = ow c) {s : Nat} (hs : s < k) : cw_C (cc_w K) mX1_welfareOf [.ref (cw_a (cc_w K) 5), .int (nI s)] I (some (.int (nI (sp_w v ow n s s)))) I := sc_welfareOf h ho hs
theorem sc_hasEnvy (h : sp_cv n k v I) (ho : ∀ c, c < n → I 9 c = ow c) {s o : Nat} (hs : s < k) : cw_C (cc_w K) mX3_hasEnvy [.ref (cw_a (cc_w K) 16), .int (nI s), .int (nI o)] I (some (.int (if sp_envy v ow n s o then 1 else 0))) I := by
  have b1 := sp_w_le (ow := ow) (o := s) h.2.2.2.2.1 h.2.2.1 hs
  have b2 := sp_w_le (ow := ow) (o := o) h.2.2.2.2.1 h.2.2.1 hs
  refine eX3_hasEnvy_16 ⟨_, _, sc_w h ho hs, _, _, sc_w h ho hs, fun q => ?_, fun q => ?_⟩
  · rw [if_neg (fun z => absurd ((nI_leI (by omega) (by omega)).mp q) (by omega))]; exact ⟨rfl, rfl⟩
  · rw [if_pos (Nat.not_le.mp fun z => q (nI_le z (by omega)))]; exact ⟨rfl, rfl⟩
theorem sl_dearestOwned (h : sp_cv n k v I) (ho : ∀ c, c < n → I 9 c = ow c) {s o : Nat} (hs : s < k) : ∀ d i : Nat, i + d = n → bX3_dearestOwned_16_5 K (some (.int (nI (sp_dear v ow s o n)))) I (nI s) (nI o) (nI (sp_dear v ow s o i)) (nI i) I := by
  have hn := h.2.2.1
  intro d
  induction d with
  | zero =>
    intro i hi
    have : i = n := by omega
    subst this
    exact tbX3_dearestOwned_16_5 (br_t (by rw [h.1]; exact nI_le (Nat.le_refl _) (by omega)) ⟨rfl, rfl⟩)
  | succ d ih =>
    intro i hi
    have h1 := ih (i + 1) (by omega)
    have e0 : sp_dear v ow s o (i + 1) = max (sp_dear v ow s o i) (sp_o v ow s (nI o) i) := rfl
    refine tbX3_dearestOwned_16_5 (br_f (by rw [h.1]; exact nI_ge (by omega) (by omega)) ⟨vp_in_nI (by omega) (by omega), ?_⟩)
    rw [nI_clamp (by omega), ho i (by omega), nI_1]
    refine ⟨fun q => ?_, fun q => ⟨_, _, sc_valueOf h hs (show i < n by omega), ?_⟩⟩
    · rw [e0, sp_o, if_neg q, Nat.max_eq_left (Nat.zero_le _)] at h1
      exact h1
    · have b1 := h.2.2.2.2.1 s i hs (by omega)
      have b2 : sp_dear v ow s o i ≤ 9 := sp_max_le fun j hj => by
        unfold sp_o
        split
        · exact h.2.2.2.2.1 s j hs (by omega)
        · omega
      rw [e0, sp_o, if_pos q] at h1
      have e3 : (if nI (sp_dear v ow s o i) < nI (v s i) then nI (v s i) else nI (sp_dear v ow s o i)) = nI (max (sp_dear v ow s o i) (v s i)) := by
        by_cases z : sp_dear v ow s o i < v s i
        · rw [if_pos (nI_lt z (by omega)), Nat.max_eq_right (by omega)]
        · rw [if_neg (fun y => z ((nI_ltI (by omega) (by omega)).mp y)), Nat.max_eq_left (by omega)]
      rw [e3]
      exact h1
theorem sc_dearestOwned (h : sp_cv n k v I) (ho : ∀ c, c < n → I 9 c = ow c) {s o : Nat} (hs : s < k) : cw_C (cc_w K) mX3_dearestOwned [.ref (cw_a (cc_w K) 16), .int (nI s), .int (nI o)] I (some (.int (nI (sp_dear v ow s o n)))) I :=
  eX3_dearestOwned_16 (sl_dearestOwned h ho hs n 0 (by omega))
theorem sc_hasStrongEnvy (h : sp_cv n k v I) (ho : ∀ c, c < n → I 9 c = ow c) {s o : Nat} (hs : s < k) : cw_C (cc_w K) mX3_hasStrongEnvy [.ref (cw_a (cc_w K) 16), .int (nI s), .int (nI o)] I (some (.int (if sp_strong v ow n s o then 1 else 0))) I := by
  have b1 := sp_w_le (ow := ow) (o := s) h.2.2.2.2.1 h.2.2.1 hs
  have b2 := sp_w_le (ow := ow) (o := o) h.2.2.2.2.1 h.2.2.1 hs
  have b3 : sp_dear v ow s o n ≤ sp_w v ow n s o := sp_max_sum n
  refine eX3_hasStrongEnvy_16 ⟨_, _, sc_w h ho hs, _, _, sc_dearestOwned h ho hs, _, _, sc_wf h ho hs, ?_⟩
  rw [sp_sub b3]
  refine ⟨fun q => ?_, fun q => ?_⟩
  · rw [if_neg (fun z => absurd ((nI_leI (by omega) (by omega)).mp q) (by omega))]; exact ⟨rfl, rfl⟩
  · rw [if_pos (Nat.not_le.mp fun z => q (nI_le z (by omega)))]; exact ⟨rfl, rfl⟩
theorem sl_countEnviers (h : sp_cv n k v I) (ho : ∀ c, c < n → I 9 c = ow c) (o : Nat) : ∀ d i : Nat, i + d = k → bX3_countEnviers_16_4 K (some (.int (nI (sp_n (fun s => sp_envy v ow n s o) k)))) I (nI o) (nI (sp_n (fun s => sp_envy v ow n s o) i)) (nI i) I := by
  have hk := h.2.2.2.1
  intro d
  induction d with
  | zero =>
    intro i hi
    have : i = k := by omega
    subst this
    exact tbX3_countEnviers_16_4 (br_t (by rw [h.2.1]; exact nI_le (Nat.le_refl _) (by omega)) ⟨rfl, rfl⟩)
  | succ d ih =>
    intro i hi
    have h1 := ih (i + 1) (by omega)
    have e0 : sp_n (fun s => sp_envy v ow n s o) (i + 1) = sp_n (fun s => sp_envy v ow n s o) i + (if sp_envy v ow n i o then 1 else 0) := rfl
    refine tbX3_countEnviers_16_4 (br_f (by rw [h.2.1]; exact nI_ge (by omega) (by omega)) ⟨_, _, sc_hasEnvy h ho (show i < k by omega), fun q => ?_, fun q => ?_⟩)
    · rw [e0, if_neg (sp_bit0 q), Nat.add_zero] at h1
      rw [nI_1]
      exact h1
    · rw [e0, if_pos (sp_bit1 q)] at h1
      rw [nI_1, nI_1]
      exact h1
theorem sc_countEnviers (h : sp_cv n k v I) (ho : ∀ c, c < n → I 9 c = ow c) (o : Nat) : cw_C (cc_w K) mX3_countEnviers [.ref (cw_a (cc_w K) 16), .int (nI o)] I (some (.int (nI (sp_n (fun s => sp_envy v ow n s o) k)))) I :=
  eX3_countEnviers_16 (sl_countEnviers h ho o k 0 (by omega))
theorem sl_countEnvies (h : sp_cv n k v I) (ho : ∀ c, c < n → I 9 c = ow c) : ∀ d i : Nat, i + d = k → bX3_countEnvies_16_4 K (some (.int (nI (sp_s (fun o => sp_n (fun s => sp_envy v ow n s o) k) k)))) I (nI (sp_s (fun o => sp_n (fun s => sp_envy v ow n s o) k) i)) (nI i) I := by
  have hk := h.2.2.2.1
  intro d
  induction d with
  | zero =>
    intro i hi
    have : i = k := by omega
    subst this
    exact tbX3_countEnvies_16_4 (br_t (by rw [h.2.1]; exact nI_le (Nat.le_refl _) (by omega)) ⟨rfl, rfl⟩)
  | succ d ih =>
    intro i hi
    have h1 := ih (i + 1) (by omega)
    refine tbX3_countEnvies_16_4 (br_f (by rw [h.2.1]; exact nI_ge (by omega) (by omega)) ⟨_, _, sc_countEnviers h ho i, ?_⟩)
    rw [nI_1, nI_add]
    exact h1
/-- how many envies there are -/
abbrev sp_envies (v : Nat → Nat → Nat) (ow : Nat → Int32) (n k : Nat) : Nat := sp_s (fun s => sp_n (fun o => sp_envy v ow n s o) k) k
theorem sc_countEnvies (h : sp_cv n k v I) (ho : ∀ c, c < n → I 9 c = ow c) : cw_C (cc_w K) mX3_countEnvies [.ref (cw_a (cc_w K) 16)] I (some (.int (nI (sp_envies v ow n k)))) I := by
  have h1 := eX3_countEnvies_16 (sl_countEnvies (K := K) h ho k 0 (by omega))
  rw [← sp_s_comm (fun s o => if sp_envy v ow n s o then 1 else 0) k k] at h1
  exact h1
theorem sl_countStrongEnvies2 (h : sp_cv n k v I) (ho : ∀ c, c < n → I 9 c = ow c) {r : Option Value} {t s : Nat} (hs : s < k) (hout : bX3_countStrongEnvies_16_4 K r I (nI (t + sp_n (fun o => sp_strong v ow n s o) k)) (nI (s + 1)) I) : ∀ d i : Nat, i + d = k → bX3_countStrongEnvies_16_17 K r I (nI (t + sp_n (fun o => sp_strong v ow n s o) i)) (nI s) (nI i) I := by
  have hk := h.2.2.2.1
  intro d
  induction d with
  | zero =>
    intro i hi
    have : i = k := by omega
    subst this
    refine tbX3_countStrongEnvies_16_17 (br_t (by rw [h.2.1]; exact nI_le (Nat.le_refl _) (by omega)) ?_)
    rw [nI_1]
    exact hout
  | succ d ih =>
    intro i hi
    have h1 := ih (i + 1) (by omega)
    have e0 : sp_n (fun o => sp_strong v ow n s o) (i + 1) = sp_n (fun o => sp_strong v ow n s o) i + (if sp_strong v ow n s i then 1 else 0) := rfl
    refine tbX3_countStrongEnvies_16_17 (br_f (by rw [h.2.1]; exact nI_ge (by omega) (by omega)) ⟨_, _, sc_hasStrongEnvy h ho hs, fun q => ?_, fun q => ?_⟩)
    · rw [e0, if_neg (sp_bit0 q), Nat.add_zero] at h1
      rw [nI_1]
      exact h1
    · rw [e0, if_pos (sp_bit1 q), ← Nat.add_assoc] at h1
      rw [nI_1, nI_1]
      exact h1
/-- how many strong envies there are -/
abbrev sp_strongs (v : Nat → Nat → Nat) (ow : Nat → Int32) (n k m : Nat) : Nat := sp_s (fun s => sp_n (fun o => sp_strong v ow n s o) k) m
theorem sl_countStrongEnvies (h : sp_cv n k v I) (ho : ∀ c, c < n → I 9 c = ow c) : ∀ d i : Nat, i + d = k → bX3_countStrongEnvies_16_4 K (some (.int (nI (sp_strongs v ow n k k)))) I (nI (sp_strongs v ow n k i)) (nI i) I := by
  have hk := h.2.2.2.1
  intro d
  induction d with
  | zero =>
    intro i hi
    have : i = k := by omega
    subst this
    exact tbX3_countStrongEnvies_16_4 (br_t (by rw [h.2.1]; exact nI_le (Nat.le_refl _) (by omega)) ⟨rfl, rfl⟩)
  | succ d ih =>
    intro i hi
    refine tbX3_countStrongEnvies_16_4 (br_f (by rw [h.2.1]; exact nI_ge (by omega) (by omega)) ?_)
    have h2 := sl_countStrongEnvies2 (K := K) (r := some (.int (nI (sp_strongs v ow n k k)))) (t := sp_strongs v ow n k i) h ho (show i < k by omega) (ih (i + 1) (by omega)) k 0 (by omega)
    exact h2
theorem sc_countStrongEnvies (h : sp_cv n k v I) (ho : ∀ c, c < n → I 9 c = ow c) : cw_C (cc_w K) mX3_countStrongEnvies [.ref (cw_a (cc_w K) 16)] I (some (.int (nI (sp_strongs v ow n k k)))) I :=
  eX3_countStrongEnvies_16 (sl_countStrongEnvies h ho k 0 (by omega))
theorem sc_hasFairShare (h : sp_cv n k v I) (ho : ∀ c, c < n → I 9 c = ow c) {s : Nat} (hs : s < k) : cw_C (cc_w K) mX3_hasFairShare [.ref (cw_a (cc_w K) 16), .int (nI s)] I (some (.int (if sp_fair v ow n k s then 1 else 0))) I := by
  have hk := h.2.2.2.1
  have b1 := sp_w_le (ow := ow) (o := s) h.2.2.2.2.1 h.2.2.1 hs
  have b2 := sp_t_le h.2.2.2.2.1 h.2.2.1 hs
  have b3 : sp_w v ow n s s * k ≤ 216 * 6 := Nat.mul_le_mul b1 hk
  refine eX3_hasFairShare_16 ⟨_, _, sc_wf h ho hs, _, _, sc_worthOfAll h hs, ?_⟩
  rw [h.2.1, sp_mul]
  refine ⟨fun q => ?_, fun q => ?_⟩
  · rw [if_neg (fun z => absurd ((nI_ltI (by omega) (by omega)).mp q) (Nat.not_lt.mpr z))]; exact ⟨rfl, rfl⟩
  · rw [if_pos (Nat.not_lt.mp fun z => q (nI_lt z (by omega)))]; exact ⟨rfl, rfl⟩
theorem sl_countFairShares (h : sp_cv n k v I) (ho : ∀ c, c < n → I 9 c = ow c) : ∀ d i : Nat, i + d = k → bX3_countFairShares_16_4 K (some (.int (nI (sp_n (fun s => sp_fair v ow n k s) k)))) I (nI (sp_n (fun s => sp_fair v ow n k s) i)) (nI i) I := by
  have hk := h.2.2.2.1
  intro d
  induction d with
  | zero =>
    intro i hi
    have : i = k := by omega
    subst this
    exact tbX3_countFairShares_16_4 (br_t (by rw [h.2.1]; exact nI_le (Nat.le_refl _) (by omega)) ⟨rfl, rfl⟩)
  | succ d ih =>
    intro i hi
    have h1 := ih (i + 1) (by omega)
    have e0 : sp_n (fun s => sp_fair v ow n k s) (i + 1) = sp_n (fun s => sp_fair v ow n k s) i + (if sp_fair v ow n k i then 1 else 0) := rfl
    refine tbX3_countFairShares_16_4 (br_f (by rw [h.2.1]; exact nI_ge (by omega) (by omega)) ⟨_, _, sc_hasFairShare h ho (show i < k by omega), fun q => ?_, fun q => ?_⟩)
    · rw [e0, if_neg (sp_bit0 q), Nat.add_zero] at h1
      rw [nI_1]
      exact h1
    · rw [e0, if_pos (sp_bit1 q)] at h1
      rw [nI_1, nI_1]
      exact h1
theorem sc_countFairShares (h : sp_cv n k v I) (ho : ∀ c, c < n → I 9 c = ow c) : cw_C (cc_w K) mX3_countFairShares [.ref (cw_a (cc_w K) 16)] I (some (.int (nI (sp_n (fun s => sp_fair v ow n k s) k)))) I :=
  eX3_countFairShares_16 (sl_countFairShares h ho k 0 (by omega))
end FAIRC
section FAIRR
variable {K : cw_K} {J : cw_M} {n k : Nat} {v : Nat → Nat → Nat} {ow : Nat → Int32}
end FAIRR
