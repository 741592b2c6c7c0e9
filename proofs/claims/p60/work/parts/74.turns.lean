/-! ## the law's loop: the five checks, a turn, all turns -/
section LTT
variable {K : cw_K} {sa uc vc : Nat} {Z : cw_Zt} {I : cw_M} {n k q u a b : Nat} {v : Nat → Nat → Nat} {ow : Nat → Int32} {x3 x5 : Int32}
/-- a ring is rotated -/
theorem lt_E (hS : lt_S n k v ow q u I) (ha : a < k) (g1 : uc + 3 ≤ 600086) (g2 : vc + 36 ≤ 7301442) (cont : ∀ K2 u2 v2 I2 v' ow' q' u', cw_Fc K2 = cw_Fc K → u2 ≤ uc + 3 → v2 ≤ vc + 36 → lt_S n k v' ow' q' u' I2 → bL_law_620 K2 sa Z u2 v2 (nI n) x3 x5 I2) : ∃ (v_371 : Int32) (J_371 : cw_M), cw_C (cp_w K) mX10_envyCycleLength [.ref (cw_a (cp_w K) 0), .int (nI a)] I (some (.int v_371)) J_371 ∧ ((v_371 ≤ 0 → bL_law_620 K sa Z uc vc (nI n) x3 x5 J_371) ∧ (¬ v_371 ≤ 0 → (∃ (v_380 : Int32) (J_380 : cw_M), cw_C (cp_w K) mX10_envyCycleLength [.ref (cw_a (cp_w K) 0), .int (nI a)] J_371 (some (.int v_380)) J_380 ∧ ((uc + 1 ≤ 600086 ∧ vc + 6 ≤ 7301442) ∧ ∀ q_387 : Nat, ((uc + 1 + 1 ≤ 600086 ∧ vc + 6 + 6 ≤ 7301442) ∧ ∀ q_393 : Nat, bL_law_400 (kset (kset K 41 q_387) 42 q_393) sa Z (uc + 1 + 1) (vc + 6 + 6) (nI n) x3 x5 (nI a) v_380 0 (cw_up (cw_up J_380 41 (fun _ => 0)) 42 (fun _ => 0))))))) := by
  have hn := hS.1.1.2.2.1
  have hk := hS.1.1.2.2.2.1
  obtain ⟨f17, f18, f19, hL⟩ := fc_envyCycleLength (K := K) hS.1.1 hS.1.2.2.2.1 ha
  cases e : sp_len (sp_w v ow n) k a with
  | none =>
    rw [e] at hL
    exact ⟨_, _, cp_of hL (fun o ho => ps_cyI32 o ho), fun _ => cont K uc vc _ _ _ _ _ rfl (by omega) (by omega) hS.cyI, fun z => absurd (show sp_oi none ≤ 0 by decide) z⟩
  | some len =>
    have b9 := sp_len_spec e
    have hS1 := hS.cyI (f17 := f17) (f18 := f18) (f19 := f19)
    obtain ⟨g17, g18, g19, hL2⟩ := fc_envyCycleLength (K := K) hS1.1.1 hS1.1.2.2.2.1 ha
    have hS2 := hS1.cyI (f17 := g17) (f18 := g18) (f19 := g19)
    rw [e] at hL hL2
    refine ⟨_, _, cp_of hL (fun o ho => ps_cyI32 o ho), fun z => absurd z (nI_nle (by omega) (by omega)), fun _ => ⟨_, _, cp_of hL2 (fun o ho => ps_cyI32 o ho), ⟨by omega, by omega⟩, fun q1 => ⟨⟨by omega, by omega⟩, fun q2 => ?_⟩⟩⟩
    have hS3 : lt_S n k v ow q u (cw_up (cw_up (sp_cyI (sp_cyI I f17 f18 f19) g17 g18 g19) 41 (fun _ => 0)) 42 (fun _ => 0)) := hS2.congr (fun o ho => by
      show (if o = 42 then _ else if o = 41 then _ else _) = _
      rw [if_neg (by omega), if_neg (by omega)])
    exact lt_400 (K := kset (kset K 41 q1) 42 q2) (uc := uc + 1 + 1) (vc := vc + 6 + 6) (len := len) ha hk e (fun I' hI' h41 => lt_429 (K := kset (kset K 41 q1) 42 q2) (uc := uc + 1 + 1) (vc := vc + 6 + 6) ha hk hn e (by omega) (by omega) (fun q9 I2 q' u' hI2 => cont _ _ _ I2 _ _ _ _ rfl (by omega) (by omega) hI2) len 0 I' (by omega) hI' h41 (fun j hj => by omega)) len 0 _ (by omega) hS3 (fun j hj => by omega)
/-- a cake cut and chosen -/
theorem lt_A (hS : lt_S n k v ow q u I) (ha : a < k) (hb : b < k) (hab : a ≠ b) (cont : ∀ K2 u2 v2 I2 v' ow' q' u', cw_Fc K2 = cw_Fc K → u2 ≤ uc + 3 → v2 ≤ vc + 36 → lt_S n k v' ow' q' u' I2 → bL_law_620 K2 sa Z u2 v2 (nI n) x3 x5 I2) : ∃ (v_143 : Int32) (J_143 : cw_M), cw_C (cp_w K) mX11_divide [.ref (cw_a (cp_w K) 32), .int (nI a), .int (nI b)] I (some (.int v_143)) J_143 ∧ (∃ (v_153 : Int32) (J_153 : cw_M), cw_C (cp_w K) mX10_divideAndChoose [.ref (cw_a (cp_w K) 0), .int (nI a), .int (nI b)] J_143 (some (.int v_153)) J_153 ∧ ((¬ v_153 = v_143 → False) ∧ (v_153 = v_143 → (∃ (v_163 : Int32) (J_163 : cw_M), cw_C (cp_w K) mX11_agrees [.ref (cw_a (cp_w K) 32)] J_153 (some (.int v_163)) J_163 ∧ ((v_163 = 0 → False) ∧ (¬ v_163 = 0 → (∃ (v_174 : Int32) (J_174 : cw_M), cw_C (cp_w K) mX10_envies [.ref (cw_a (cp_w K) 0), .int (nI b), .int (nI a)] J_163 (some (.int v_174)) J_174 ∧ ((v_174 = 0 → bL_law_620 K sa Z uc vc (nI n) x3 x5 J_174) ∧ (¬ v_174 = 0 → False))))))))) := by
  have hk := hS.1.1.2.2.2.1
  obtain ⟨hc, hn1, hk1, ho, hg, hq, hq6, hu, hu6⟩ := lt_p40 hS.1 (G := sp_dv v n a b (I 40))
  have hS2 := lt_own hS (F := sp_dv v n a b (I 9)) (G := sp_dv v n a b (I 40)) (sp_okw_dv (ps_okI hS.1) ha hb) (fun c hc => by
    unfold sp_dv
    simp only [if_pos hc])
  refine ⟨_, _, pl_divide hS.2.1 ha hb, _, _, cp_of (fc_divideAndChoose hc hq hq6 hu hu6 ha hb hab) ps_own32, fun z => absurd rfl z, fun _ => ⟨_, _, lt_agrees hS2, fun z => absurd z (by decide), fun _ => ⟨_, _, cp_same (fc_envies hS2.1.1 hS2.1.2.2.2.1 hb ha), fun _ => cont _ _ _ _ _ _ _ _ rfl (by omega) (by omega) hS2, fun z => ?_⟩⟩⟩
  rw [if_neg (mt_dv (by omega) (by omega) hab)] at z
  exact z rfl
/-- the knife -/
theorem lt_B (hS : lt_S n k v ow q u I) (g1 : uc + 3 ≤ 600086) (g2 : vc + 36 ≤ 7301442) (cont : ∀ K2 u2 v2 I2 v' ow' q' u', cw_Fc K2 = cw_Fc K → u2 ≤ uc + 3 → v2 ≤ vc + 36 → lt_S n k v' ow' q' u' I2 → bL_law_620 K2 sa Z u2 v2 (nI n) x3 x5 I2) : (uc + 1 ≤ 600086 ∧ vc + 6 ≤ 7301442) ∧ (∃ J_195 : cw_M, cw_CN 1 6 (cp_w K) mX11_knife [.ref (cw_a (cp_w K) 32)] I none J_195 ∧ (∃ (v_199 : Int32) (J_199 : cw_M), cw_C (cp_w K) mX10_movingKnife [.ref (cw_a (cp_w K) 0)] J_195 (some (.int v_199)) J_199 ∧ (∃ (v_204 : Int32) (J_204 : cw_M), cw_C (cp_w K) mX11_satisfied [.ref (cw_a (cp_w K) 32)] J_199 (some (.int v_204)) J_204 ∧ ((¬ v_199 = v_204 → False) ∧ (v_199 = v_204 → (∃ (v_212 : Int32) (J_212 : cw_M), cw_C (cp_w K) mX11_agrees [.ref (cw_a (cp_w K) 32)] J_204 (some (.int v_212)) J_212 ∧ ((¬ v_212 = 0 → bL_law_620 K sa Z (uc + 1) (vc + 6) (nI n) x3 x5 J_212) ∧ (v_212 = 0 → False)))))))) := by
  have hk := hS.1.1.2.2.2.1
  obtain ⟨hc, hn1, hk1, ho, hg, hq, hq6, hu, hu6⟩ := lt_p40 hS.1 (G := sp_kn v n k k 0 0 (sp_put (I 40) (-1) 0 n))
  have hS2 := lt_own hS (F := sp_kn v n k k 0 0 (I 9)) (G := sp_kn v n k k 0 0 (sp_put (I 40) (-1) 0 n)) (sp_okw_kn k 0 0 (I 9) (ps_okI hS.1)) (mt_knc hk k 0 0 _ _ (by omega) (sp_wt0 k (by omega)) (fun z => by omega) (fun c hc => by omega))
  exact ⟨⟨by omega, by omega⟩, _, pl_knife hS.2.1, _, _, cp_of (fc_movingKnife hc hk1 hq hq6 hu hu6) ps_own32, _, _, pl_satisfied hS2.2.1 hS2.2.2, fun z => absurd rfl z, fun _ => ⟨_, _, lt_agrees hS2, fun _ => cont _ _ _ _ _ _ _ _ rfl (by omega) (by omega) hS2, fun z => absurd z (by decide)⟩⟩
/-- both robins -/
theorem lt_robin (hS : lt_S n k v ow q u I) (ha : a < k) : cw_C (cp_w K) mX11_robin [.ref (cw_a (cp_w K) 32), .int (nI a)] I (some (.int (nI (sp_cnt ow (-1) n)))) (cw_up I 40 (sp_rb v n k n (I 40) a 0).1) ∧ cw_C (cp_w K) mX10_roundRobin [.ref (cw_a (cp_w K) 0), .int (nI a)] (cw_up I 40 (sp_rb v n k n (I 40) a 0).1) (some (.int (nI (sp_cnt ow (-1) n)))) (cw_up (sp_mem (cw_up I 40 (sp_rb v n k n (I 40) a 0).1) q u) 9 (sp_rb v n k n (I 9) a 0).1) ∧ lt_S n k v (sp_rb v n k n (I 9) a 0).1 (sp_nq q) (min (u + 1) 6) (cw_up (sp_mem (cw_up I 40 (sp_rb v n k n (I 40) a 0).1) q u) 9 (sp_rb v n k n (I 9) a 0).1) ∧ sp_cnt (sp_rb v n k n (I 9) a 0).1 (-1) n = 0 := by
  have hk := hS.1.1.2.2.2.1
  have h0 := hS.1.2.2.1
  obtain ⟨hc, hn1, hk1, ho, hg, hq, hq6, hu, hu6⟩ := lt_p40 hS.1 (G := (sp_rb v n k n (I 40) a 0).1)
  have m9 := mt_rb (v := v) (n := n) hk n (I 9) a 0 ha sp_n_le
  have m40 := mt_rb (v := v) (n := n) hk n (I 40) a 0 ha sp_n_le
  have c9 : sp_cnt (I 9) (-1) n = sp_cnt ow (-1) n := sp_cnt_congr hS.1.2.2.2.1
  have c40 : sp_cnt (I 40) (-1) n = sp_cnt ow (-1) n := sp_cnt_congr hS.2.2
  rw [c9, Nat.zero_add] at m9
  rw [c40, Nat.zero_add] at m40
  have h1 := pl_robin (K := K) hS.2.1 h0 (lt_okw40 hS) ha
  have h2 := fc_roundRobin (K := K) hc hq hq6 hu hu6 ha
  rw [m40.1] at h1
  rw [show (cw_up I 40 (sp_rb v n k n (I 40) a 0).1) 9 = I 9 from rfl, m9.1] at h2
  exact ⟨h1, cp_of h2 ps_own32, lt_own hS (sp_okw_rb n (I 9) a 0 ha (ps_okI hS.1)) (mt_rbc n (I 40) (I 9) a 0 (lt_eq hS)).2, m9.2⟩
/-- a robin -/
theorem lt_C (hS : lt_S n k v ow q u I) (ha : a < k) (cont : ∀ K2 u2 v2 I2 v' ow' q' u', cw_Fc K2 = cw_Fc K → u2 ≤ uc + 3 → v2 ≤ vc + 36 → lt_S n k v' ow' q' u' I2 → bL_law_620 K2 sa Z u2 v2 (nI n) x3 x5 I2) : ∃ (v_229 : Int32) (J_229 : cw_M), cw_C (cp_w K) mX10_freeCount [.ref (cw_a (cp_w K) 0)] I (some (.int v_229)) J_229 ∧ ((¬ v_229 = (nI n) → (∃ (v_247 : Int32) (J_247 : cw_M), cw_C (cp_w K) mX11_robin [.ref (cw_a (cp_w K) 32), .int (nI a)] J_229 (some (.int v_247)) J_247 ∧ (∃ (v_255 : Int32) (J_255 : cw_M), cw_C (cp_w K) mX10_roundRobin [.ref (cw_a (cp_w K) 0), .int (nI a)] J_247 (some (.int v_255)) J_255 ∧ ((¬ v_255 = v_247 → False) ∧ (v_255 = v_247 → (∃ (v_265 : Int32) (J_265 : cw_M), cw_C (cp_w K) mX11_agrees [.ref (cw_a (cp_w K) 32)] J_255 (some (.int v_265)) J_265 ∧ ((v_265 = 0 → False) ∧ (¬ v_265 = 0 → (∃ (v_272 : Int32) (J_272 : cw_M), cw_C (cp_w K) mX10_freeCount [.ref (cw_a (cp_w K) 0)] J_265 (some (.int v_272)) J_272 ∧ ((¬ v_272 = 0 → False) ∧ (v_272 = 0 → bL_law_620 K sa Z uc vc (nI n) x3 x5 J_272))))))))))) ∧ (v_229 = (nI n) → (∃ (v_247 : Int32) (J_247 : cw_M), cw_C (cp_w K) mX11_robin [.ref (cw_a (cp_w K) 32), .int (nI a)] J_229 (some (.int v_247)) J_247 ∧ (∃ (v_255 : Int32) (J_255 : cw_M), cw_C (cp_w K) mX10_roundRobin [.ref (cw_a (cp_w K) 0), .int (nI a)] J_247 (some (.int v_255)) J_255 ∧ ((¬ v_255 = v_247 → False) ∧ (v_255 = v_247 → (∃ (v_265 : Int32) (J_265 : cw_M), cw_C (cp_w K) mX11_agrees [.ref (cw_a (cp_w K) 32)] J_255 (some (.int v_265)) J_265 ∧ ((v_265 = 0 → False) ∧ (¬ v_265 = 0 → (∃ (v_272 : Int32) (J_272 : cw_M), cw_C (cp_w K) mX10_freeCount [.ref (cw_a (cp_w K) 0)] J_265 (some (.int v_272)) J_272 ∧ ((¬ v_272 = 0 → False) ∧ (v_272 = 0 → (∃ (v_284 : Int32) (J_284 : cw_M), cw_C (cp_w K) mL_isMildAll [.ref (cw_a (cp_w K) 0)] J_272 (some (.int v_284)) J_284 ∧ ((¬ v_284 = 0 → bL_law_620 K sa Z uc vc (nI n) x3 x5 J_284) ∧ (v_284 = 0 → False))))))))))))))) := by
  have hk := hS.1.1.2.2.2.1
  have hn := hS.1.1.2.2.1
  have h0 := hS.1.2.2.1
  obtain ⟨r1, r2, r3, r4⟩ := lt_robin (K := K) hS ha
  have hf := cp_same (fc_freeCount (K := K) r3.1.1 h0 r3.1.2.2.2.1)
  rw [r4] at hf
  refine ⟨_, _, cp_same (fc_freeCount hS.1.1 h0 hS.1.2.2.2.1), fun _ => ⟨_, _, r1, _, _, r2, fun z => absurd rfl z, fun _ => ⟨_, _, lt_agrees r3, fun z => absurd z (by decide), fun _ => ⟨_, _, hf, fun z => absurd rfl z, fun _ => cont _ _ _ _ _ _ _ _ rfl (by omega) (by omega) r3⟩⟩⟩, fun y => ⟨_, _, r1, _, _, r2, fun z => absurd rfl z, fun _ => ⟨_, _, lt_agrees r3, fun z => absurd z (by decide), fun _ => ⟨_, _, hf, fun z => absurd rfl z, fun _ => ?_⟩⟩⟩⟩
  have hb : sp_cnt ow (-1) n ≤ n := sp_n_le
  have y2 : sp_cnt ow (-1) n = n := (nI_eq (by omega) (by omega)).mp y
  have hall : ∀ c, c < n → I 9 c = -1 := fun c hc => by rw [hS.1.2.2.2.1 c hc]; exact mt_cnt_all y2 c hc
  exact ⟨_, _, cp_same (la_mild r3.1 (mt_mild hk ha hall)), fun _ => cont _ _ _ _ _ _ _ _ rfl (by omega) (by omega) r3, fun z => absurd z (by decide)⟩
/-- all given back, then a robin -/
theorem lt_D (hS : lt_S n k v ow q u I) (hb : b < k) (cont : ∀ K2 u2 v2 I2 v' ow' q' u', cw_Fc K2 = cw_Fc K → u2 ≤ uc + 3 → v2 ≤ vc + 36 → lt_S n k v' ow' q' u' I2 → bL_law_620 K2 sa Z u2 v2 (nI n) x3 x5 I2) : ∃ J_308 : cw_M, cw_C (cp_w K) mX11_fill [.ref (cw_a (cp_w K) 32), .int (-1), .int 0, .int (nI n)] I none J_308 ∧ (∃ (v_316 : Int32) (J_316 : cw_M), cw_C (cp_w K) mX10_release [.ref (cw_a (cp_w K) 0), .int 0, .int ((nI n) - 1)] J_308 (some (.int v_316)) J_316 ∧ ((¬ v_316 = (nI n) → False) ∧ (v_316 = (nI n) → (∃ (v_325 : Int32) (J_325 : cw_M), cw_C (cp_w K) mX11_agrees [.ref (cw_a (cp_w K) 32)] J_316 (some (.int v_325)) J_325 ∧ ((¬ v_325 = 0 → (∃ (v_337 : Int32) (J_337 : cw_M), cw_C (cp_w K) mX11_robin [.ref (cw_a (cp_w K) 32), .int (nI b)] J_325 (some (.int v_337)) J_337 ∧ (∃ (v_344 : Int32) (J_344 : cw_M), cw_C (cp_w K) mX10_roundRobin [.ref (cw_a (cp_w K) 0), .int (nI b)] J_337 (some (.int v_344)) J_344 ∧ ((¬ v_344 = (nI n) → False) ∧ (v_344 = (nI n) → (∃ (v_353 : Int32) (J_353 : cw_M), cw_C (cp_w K) mX11_agrees [.ref (cw_a (cp_w K) 32)] J_344 (some (.int v_353)) J_353 ∧ ((v_353 = 0 → False) ∧ (¬ v_353 = 0 → (∃ (v_360 : Int32) (J_360 : cw_M), cw_C (cp_w K) mL_isMildAll [.ref (cw_a (cp_w K) 0)] J_353 (some (.int v_360)) J_360 ∧ ((¬ v_360 = 0 → bL_law_620 K sa Z uc vc (nI n) x3 x5 J_360) ∧ (v_360 = 0 → False))))))))))) ∧ (v_325 = 0 → False)))))) := by
  have hk := hS.1.1.2.2.2.1
  have hn := hS.1.1.2.2.1
  obtain ⟨hc, hn1, hk1, ho, hg, hq, hq6, hu, hu6⟩ := lt_p40 hS.1 (G := sp_put (I 40) (-1) 0 n)
  have hS2 := lt_own hS (F := sp_put (I 9) (-1) 0 (n - 1 + 1)) (G := sp_put (I 40) (-1) 0 n) (sp_okw_put (ps_okI hS.1) (Or.inl rfl) _ _) (fun c hc => by
    unfold sp_put
    rw [if_pos ⟨by omega, hc⟩, if_pos ⟨by omega, by omega⟩])
  have hall : ∀ c, c < n → sp_put (I 9) (-1) 0 (n - 1 + 1) c = -1 := fun c hc => by
    unfold sp_put
    rw [if_pos ⟨by omega, by omega⟩]
  have hrel := fc_release (K := K) hc hq hq6 hu hu6 (Nat.zero_le (n - 1)) (show n - 1 < n by omega)
  rw [show (cw_up I 40 (sp_put (I 40) (-1) 0 n)) 9 = I 9 from rfl, mt_all hall, ← show nI n - 1 = nI (n - 1) from sp_sub (b := 1) hn1] at hrel
  obtain ⟨r1, r2, r3, r4⟩ := lt_robin (K := K) hS2 hb
  rw [mt_all hall] at r1 r2
  exact ⟨_, pl_fill (Nat.zero_le _) hn, _, _, cp_of hrel ps_own32, fun z => absurd rfl z, fun _ => ⟨_, _, lt_agrees hS2, fun _ => ⟨_, _, r1, _, _, r2, fun z => absurd rfl z, fun _ => ⟨_, _, lt_agrees r3, fun z => absurd z (by decide), fun _ => ⟨_, _, cp_same (la_mild r3.1 (mt_mild hk hb (fun c hc => hall c hc))), fun _ => cont _ _ _ _ _ _ _ _ rfl (by omega) (by omega) r3, fun z => absurd z (by decide)⟩⟩⟩, fun z => absurd z (by decide)⟩⟩
/-- the five -/
theorem lt_104 (hS : lt_S n k v ow q u I) {z : Nat} (hz : z < 2 ^ 28) (g1 : uc + 3 ≤ 600086) (g2 : vc + 36 ≤ 7301442) (cont : ∀ K2 u2 v2 I2 v' ow' q' u', cw_Fc K2 = cw_Fc K → u2 ≤ uc + 3 → v2 ≤ vc + 36 → lt_S n k v' ow' q' u' I2 → bL_law_620 K2 sa Z u2 v2 (nI n) (nI k) x5 I2) : bL_law_104 K sa Z uc vc (nI n) (nI k) x5 (nI z) I := by
  have hk := hS.1.1.2.2.2.1
  have hk1 := hS.1.2.2.1
  have nk : ¬ nI k = 0 := nI_ne0 (by omega) (by omega)
  have d16 : nI z / 16 = nI (z / 16) := ac_div (by omega) (by omega) (by omega) rfl
  have d128 : nI z / 128 = nI (z / 128) := ac_div (by omega) (by omega) (by omega) rfl
  have d5 : nI z - nI z / 5 * 5 = nI (z % 5) := ac_rem (by omega) (by omega) (by omega) rfl
  have ra : nI (z / 16) - nI (z / 16) / nI k * nI k = nI (z / 16 % k) := pk_rem (by omega) (by omega) (by omega)
  have rb : nI (z / 128) - nI (z / 128) / nI k * nI k = nI (z / 128 % k) := pk_rem (by omega) (by omega) (by omega)
  have ha : z / 16 % k < k := Nat.mod_lt _ (by omega)
  have hb : z / 128 % k < k := Nat.mod_lt _ (by omega)
  have eab : nI (z / 16 % k) = nI (z / 128 % k) ↔ z / 16 % k = z / 128 % k := nI_eq (by omega) (by omega)
  refine tbL_law_104 ?_
  rw [d16, d128, d5, ra, rb]
  generalize eA : z / 16 % k = a at *
  generalize eB : z / 128 % k = b at *
  have hr : z % 5 < 5 := Nat.mod_lt _ (by omega)
  generalize eR : z % 5 = r at *
  rcases (by omega : r = 0 ∨ r = 1 ∨ r = 2 ∨ r = 3 ∨ r = 4) with rfl | rfl | rfl | rfl | rfl
  · refine ⟨nk, nk, fun y => absurd rfl y, fun _ => ⟨fun y => ?_, fun y => lt_A hS ha hb (fun e => y (eab.mpr e)) cont⟩⟩
    exact ⟨fun _ => ⟨fun _ => ⟨fun _ => lt_E hS ha g1 g2 cont, fun y => absurd y (by decide)⟩, fun y => absurd y (by decide)⟩, fun y => absurd y (by decide)⟩
  · exact ⟨nk, nk, fun _ => ⟨fun y => absurd rfl y, fun _ => lt_B hS g1 g2 cont⟩, fun y => absurd y (by decide)⟩
  · exact ⟨nk, nk, fun _ => ⟨fun _ => ⟨fun y => absurd rfl y, fun _ => lt_C hS ha cont⟩, fun y => absurd y (by decide)⟩, fun y => absurd y (by decide)⟩
  · exact ⟨nk, nk, fun _ => ⟨fun _ => ⟨fun _ => ⟨fun y => absurd rfl y, fun _ => lt_D hS hb cont⟩, fun y => absurd y (by decide)⟩, fun y => absurd y (by decide)⟩, fun y => absurd y (by decide)⟩
  · exact ⟨nk, nk, fun _ => ⟨fun _ => ⟨fun _ => ⟨fun _ => lt_E hS ha g1 g2 cont, fun y => absurd y (by decide)⟩, fun y => absurd y (by decide)⟩, fun y => absurd y (by decide)⟩, fun y => absurd y (by decide)⟩
end LTT
/-- the class's state; the law's cake counts the same -/
def lt_inv (n k : Nat) (I : cw_M) : Prop := ∃ v ow q u, ps n k v ow q u I ∧ I 32 1 = nI n ∧ I 32 2 = nI k
theorem lt_turn {K : cw_K} {sa uc vc n k i sn : Nat} {sf : Nat → Int32} {Z : cw_Zt} {I : cw_M} (hFz : cw_Fsc (cw_Fc K) sa sn sf) (hsn : sn < 2 ^ 31) (hI : lt_inv n k I) (hi : i < 20) (g1 : uc + 3 ≤ 600086) (g2 : vc + 36 ≤ 7301442) (next : ∀ K2 u2 v2 I2, cw_Fc K2 = cw_Fc K → u2 ≤ uc + 3 → v2 ≤ vc + 36 → lt_inv n k I2 → bL_law_63 K2 sa Z u2 v2 (nI n) (nI k) (nI (i + 1)) I2) : bL_law_63 K sa Z uc vc (nI n) (nI k) (nI i) I := by
  obtain ⟨v, ow, q, u, hp, e1, e2⟩ := hI
  have hz : la_pk sn sf (14 + i) 268435456 < 2 ^ 28 := la_pk_lt (by omega)
  have hpk := la_pick (K := K) (I := I) hFz hsn (i := 14 + i) (m := 268435456) (by omega) (by omega) (by omega)
  have hpk2 := cw_lift (ce_le_cc K) rfl hpk (fun _ _ => rfl)
  obtain ⟨J, v2, ow2, q2, u2, hact, hps, h32⟩ := la_act (K := K) hp hz
  obtain ⟨J2, k1, k2, k3, k4⟩ := pl_read (K := K) hps (by rw [h32 32 (by omega)]; exact e1) (by rw [h32 32 (by omega)]; exact e2)
  have hS : lt_S n k v2 ow2 q2 u2 J2 := ⟨hps.congr (fun o ho => k1 o (by omega)), k2, k3⟩
  refine tbL_law_63 ⟨fun z => absurd z (show ¬ nI 20 ≤ nI i from nI_ge hi (by omega)), fun _ => ?_⟩
  rw [show (14 : Int32) + nI i = nI (14 + i) from nI_add 14 i]
  refine ⟨_, _, cp_same hpk2, _, cp_of hact h32, _, k4, _, _, lt_agrees hS, fun _ => ?_, fun z => absurd z (by decide)⟩
  exact lt_104 hS hz g1 g2 (fun K2 u2 v2 I2 v' ow' q' u' a1 a2 a3 a4 => tbL_law_620 (by rw [nI_1]; exact next K2 u2 v2 I2 a1 a2 a3 ⟨_, _, _, _, a4.1, a4.2.1.1, a4.2.1.2.1⟩))
/-- all twenty -/
theorem lt_loop {sa n k sn : Nat} {sf : Nat → Int32} {Z : cw_Zt} {F : cw_F} (hFz : cw_Fsc F sa sn sf) (hsn : sn < 2 ^ 31) (out : ∀ K uc vc I, bL_law_626 K sa Z uc vc I) : ∀ d i (K : cw_K) (uc vc : Nat) (I : cw_M), i + d = 20 → cw_Fc K = F → uc + 3 * d ≤ 600086 → vc + 36 * d ≤ 7301442 → lt_inv n k I → bL_law_63 K sa Z uc vc (nI n) (nI k) (nI i) I := by
  intro d
  induction d with
  | zero =>
    intro i K uc vc I hi hF g1 g2 hI
    have e : i = 20 := by omega
    subst e
    exact tbL_law_63 ⟨fun _ => out _ _ _ _, fun z => absurd (by decide) z⟩
  | succ d ih =>
    intro i K uc vc I hi hF g1 g2 hI
    exact lt_turn (by rw [hF]; exact hFz) hsn hI (by omega) (by omega) (by omega) (fun K2 u2 v2 I2 a1 a2 a3 a4 => ih (i + 1) K2 u2 v2 I2 (by omega) (a1.trans hF) (by omega) (by omega) a4)
