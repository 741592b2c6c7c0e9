/-! ## the face: changes, both sides -/
section CH
variable {K : cw_K} {I J : cw_M} {n k u q : Nat} {v : Nat → Nat → Nat} {ow : Nat → Int32} {nl : Nat → Nat} {nb : Nat → Nat → Int32}
theorem sp_RU.uI {ju : Int32} {m js : Nat → Int32} (h : sp_RU n k nl nb u q I ju m js) : I 28 0 = nI u := h.1
theorem sp_RU.qI {ju : Int32} {m js : Nat → Int32} (h : sp_RU n k nl nb u q I ju m js) : I 28 2 = nI q := h.2.1
theorem sp_RU.uJ {ju : Int32} {m js : Nat → Int32} (h : sp_RU n k nl nb u q I ju m js) : ju = nI u := h.2.2.1
theorem sp_RU.u6 {ju : Int32} {m js : Nat → Int32} (h : sp_RU n k nl nb u q I ju m js) : u ≤ 6 := h.2.2.2.1
theorem sp_RU.q6 {ju : Int32} {m js : Nat → Int32} (h : sp_RU n k nl nb u q I ju m js) : q < 6 := h.2.2.2.2.1
theorem sp_put_eq {f m : Nat → Int32} (h1 : ∀ c, c < n → f c = ow c) (h2 : ∀ c, c < n → m (2 + c) = ow c) (x : Int32) (a e : Nat) : ∀ c, c < n → sp_put m x (2 + a) (2 + e) (2 + c) = sp_put f x a e c := fun c hc => by
  unfold sp_put
  by_cases z : a ≤ c ∧ c < e
  · rw [if_pos z, if_pos (by omega)]
  · rw [if_neg z, if_neg (by omega), h1 c hc, h2 c hc]
theorem sp_put_el {m : Nat → Int32} {x : Int32} {a e : Nat} (he : e ≤ 24) : ∀ j, ¬ (2 ≤ j ∧ j < 26) → sp_put m x (2 + a) (2 + e) j = m j := fun j hj => by
  unfold sp_put
  rw [if_neg (by omega)]
theorem sp_shv (g m : Nat → Int32) {c : Nat} (hc : c < 24) : sp_sh g m (2 + c) = g c := by
  unfold sp_sh
  rw [if_pos (by omega), show 2 + c - 2 = c by omega]
theorem sp_sh_el (g m : Nat → Int32) : ∀ j, ¬ (2 ≤ j ∧ j < 26) → sp_sh g m j = m j := fun j hj => by
  unfold sp_sh
  rw [if_neg hj]
theorem sp_cnt_congr {f g : Nat → Int32} {o : Int32} (h : ∀ c, c < n → f c = g c) : sp_cnt f o n = sp_cnt g o n := sp_s_congr fun j hj => by
  show (if f j = o then 1 else 0) = (if g j = o then 1 else 0)
  rw [h j hj]
theorem fx_give1 (h : sp_rv n k v J) {x y z : Int32} (hx : ¬ (0 ≤ x ∧ x < nI k)) : cw_C (cr_w K) mX11_give [.ref (cw_a (cr_w K) 0), .int x, .int y, .int z] J (some (.int 0)) (cw_st J 0 9 1) :=
  eX11_give_0 ⟨_, _, sr_isSibling h, fun q => absurd (sp_bit1 q) hx, fun _ => ⟨_, _, sr_isRange h, fun _ => ⟨_, _, sr_fails1, fun q => absurd q (by decide), fun _ => ⟨rfl, rfl⟩⟩, fun _ => ⟨_, _, sr_fails1, fun q => absurd q (by decide), fun _ => ⟨rfl, rfl⟩⟩⟩⟩
theorem fx_give2 (h : sp_rv n k v J) {x y z : Int32} (hx : 0 ≤ x ∧ x < nI k) (hy : ¬ sp_rng n y z) : cw_C (cr_w K) mX11_give [.ref (cw_a (cr_w K) 0), .int x, .int y, .int z] J (some (.int 0)) (cw_st J 0 9 2) :=
  eX11_give_0 ⟨_, _, sr_isSibling h, fun _ => ⟨_, _, sr_isRange h, fun q => absurd (sp_bit1 q) hy, fun _ => ⟨_, _, sr_fails2, fun q => absurd q (by decide), fun _ => ⟨rfl, rfl⟩⟩⟩, fun q => absurd hx (sp_bit0 q)⟩
theorem ca_give (hFT : cw_FT (cw_f (cc_w K))) (hl : K.1.stackTraces = false) (h : sp_Rel I J) {x y z : Int32} : sp_Q K mX10_give mX11_give [.int x, .int y, .int z] I J ∨ sp_X K mX10_give mX11_give [.int x, .int y, .int z] "java/lang/IndexOutOfBoundsException" 1 I J ∨ sp_X K mX10_give mX11_give [.int x, .int y, .int z] "java/lang/IllegalArgumentException" 2 I J := by
  have hh := h
  obtain ⟨n, k, v, ow, nl, nb, u, q, hP⟩ := hh
  have hR := hP.rem
  obtain ⟨hc, hu, _⟩ := hP
  have hk := hc.k6
  have hn := hc.n24
  by_cases z1 : 0 ≤ x ∧ x < nI k
  · by_cases z2 : sp_rng n y z
    · obtain ⟨s, hs, rfl⟩ := sp_inB (by omega) z1
      obtain ⟨a, e, ha, he, rfl, rfl⟩ := sp_rng_num hn z2
      have em : ∀ c, c < n → sp_put ((sp_R J u) 1) (nI s) (2 + a) (2 + (e + 1)) (2 + c) = sp_put (I 9) (nI s) a (e + 1) c := sp_put_eq hc.oI hR.1.oJ (nI s) a (e + 1)
      have g2 := fr_give (K := K) hc.rv hu.uJ hu.u6 hs ha he
      rw [show sp_w v (sp_go (sp_R J u) (nI s) a e) n s s = sp_w v (sp_put (I 9) (nI s) a (e + 1)) n s s from sp_own_congr em] at g2
      refine Or.inl ⟨_, _, _, fc_give hc.cv hu.qI hu.q6 hu.uI hu.u6 hs ha he, g2, sp_R9 J u, n, k, v, _, nl, nb, _, _, hR.own (sp_okw_put (fun c hc' => ?_) (sp_okw_nI hs) a (e + 1)) em (sp_put_el (by omega))⟩
      rw [hc.oI c hc']; exact hc.2.2.2.2.1.2 c hc'
    · exact Or.inr (Or.inr ⟨_, _, _, ft_give2 hFT hl hc.cv z1 z2, fx_give2 hc.rv z1 z2, rfl, h⟩)
  · exact Or.inr (Or.inl ⟨_, _, _, ft_give1 hFT hl hc.cv z1, fx_give1 hc.rv z1, rfl, h⟩)
theorem ca_release (hFT : cw_FT (cw_f (cc_w K))) (hl : K.1.stackTraces = false) (h : sp_Rel I J) {y z : Int32} : sp_Q K mX10_release mX11_release [.int y, .int z] I J ∨ sp_X K mX10_release mX11_release [.int y, .int z] "java/lang/IllegalArgumentException" 1 I J := by
  have hh := h
  obtain ⟨n, k, v, ow, nl, nb, u, q, hP⟩ := hh
  have hR := hP.rem
  obtain ⟨hc, hu, _⟩ := hP
  have hn := hc.n24
  by_cases z2 : sp_rng n y z
  · obtain ⟨a, e, ha, he, rfl, rfl⟩ := sp_rng_num hn z2
    have em : ∀ c, c < n → sp_put ((sp_R J u) 1) (-1) (2 + a) (2 + (e + 1)) (2 + c) = sp_put (I 9) (-1) a (e + 1) c := sp_put_eq hc.oI hR.1.oJ (-1) a (e + 1)
    have g2 := fr_release (K := K) hc.rv hu.uJ hu.u6 ha he
    rw [show sp_cnt (sp_go (sp_R J u) (-1) a e) (-1) n = sp_cnt (sp_put (I 9) (-1) a (e + 1)) (-1) n from sp_cnt_congr em] at g2
    refine Or.inl ⟨_, _, _, fc_release hc.cv hu.qI hu.q6 hu.uI hu.u6 ha he, g2, sp_R9 J u, n, k, v, _, nl, nb, _, _, hR.own (sp_okw_put (fun c hc' => ?_) (Or.inl rfl) a (e + 1)) em (sp_put_el (by omega))⟩
    rw [hc.oI c hc']; exact hc.2.2.2.2.1.2 c hc'
  · exact Or.inr ⟨_, _, _, ft_release hFT hl hc.cv z2, fx_release hc.rv z2, rfl, h⟩
theorem sp_RC.gI {m : Nat → Int32} (h : sp_RC n k v ow nl nb I m) : ∀ c, c < n → sp_okw k (I 9 c) := fun c hc => by
  rw [h.oI c hc]; exact h.2.2.2.2.1.2 c hc
theorem ca_movingKnife (h : sp_Rel I J) : sp_Q K mX10_movingKnife mX11_movingKnife [] I J := by
  obtain ⟨n, k, v, ow, nl, nb, u, q, hP⟩ := h
  have hR := hP.rem
  obtain ⟨hc, hu, _⟩ := hP
  have hk := hc.k6
  have hn := hc.n24
  have ec : ∀ c, c < n → sp_kn v n k k 0 0 (sp_put (fun c => (sp_R J u) 1 (2 + c)) (-1) 0 n) c = sp_kn v n k k 0 0 (I 9) c := sp_kn_congr (by omega) k 0 0 _ _ (by omega) (sp_wt0 k (by omega)) (Or.inl hc.k1) (fun c hc _ => absurd hc (Nat.not_lt_zero c))
  obtain ⟨h9, g2⟩ := fr_movingKnife (K := K) hc.rv hc.n1 hu.uJ hu.u6
  have ef : ∀ s, s < k → sp_fair v (sp_kn v n k k 0 0 (sp_put (fun c => (sp_R J u) 1 (2 + c)) (-1) 0 n)) n k s = sp_fair v (sp_kn v n k k 0 0 (I 9)) n k s := fun s _ => by
    show (_ ≤ _ * k) = (_ ≤ _ * k)
    rw [show sp_w v (sp_kn v n k k 0 0 (sp_put (fun c => (sp_R J u) 1 (2 + c)) (-1) 0 n)) n s s = sp_w v (sp_kn v n k k 0 0 (I 9)) n s s from sp_own_congr ec]
  rw [show sp_n (fun s => sp_fair v (sp_kn v n k k 0 0 (sp_put (fun c => (sp_R J u) 1 (2 + c)) (-1) 0 n)) n k s) k = sp_n (fun s => sp_fair v (sp_kn v n k k 0 0 (I 9)) n k s) k from sp_s_congr (fun s hs => by simp only [ef s hs])] at g2
  have hO := hR.own (fC := sp_kn v n k k 0 0 (I 9)) (m := sp_sh (sp_kn v n k k 0 0 (sp_put (fun c => (sp_R J u) 1 (2 + c)) (-1) 0 n)) ((sp_R J u) 1)) (sp_okw_kn k 0 0 _ hc.gI) (fun c hc' => by rw [sp_shv _ _ (by omega)]; exact ec c hc') (sp_sh_el _ _)
  exact ⟨_, _, _, fc_movingKnife hc.cv hc.k1 hu.qI hu.q6 hu.uI hu.u6, g2, sp_R9 J u, n, k, v, _, nl, nb, _, _, hO⟩
theorem ft_roundRobin (hFT : cw_FT (cw_f (cc_w K))) (hl : K.1.stackTraces = false) (h : sp_cv n k v I) {x : Int32} (hx : ¬ (0 ≤ x ∧ x < nI k)) : cw_T (cc_w K) mX10_roundRobin [.ref (cw_a (cc_w K) 0), .int x] I "java/lang/IndexOutOfBoundsException" I :=
  xX10_roundRobin_0 (Or.inr ⟨_, _, st_requireSibling hFT hl h hx, rfl, rfl⟩)
theorem ca_roundRobin (hFT : cw_FT (cw_f (cc_w K))) (hl : K.1.stackTraces = false) (h : sp_Rel I J) {x : Int32} : sp_Q K mX10_roundRobin mX11_roundRobin [.int x] I J ∨ sp_X K mX10_roundRobin mX11_roundRobin [.int x] "java/lang/IndexOutOfBoundsException" 1 I J := by
  have hh := h
  obtain ⟨n, k, v, ow, nl, nb, u, q, hP⟩ := hh
  have hR := hP.rem
  obtain ⟨hc, hu, _⟩ := hP
  have hk := hc.k6
  have hn := hc.n24
  by_cases z1 : 0 ≤ x ∧ x < nI k
  · obtain ⟨t, ht, rfl⟩ := sp_inB (by omega) z1
    have ec := sp_rb_congr (v := v) (n := n) (k := k) n (fun c => (sp_R J u) 1 (2 + c)) (I 9) t 0 (fun c hc' => by rw [hc.oI c hc']; exact hR.1.oJ c hc')
    have g2 := fr_roundRobin (K := K) hc.rv hu.uJ hu.u6 ht
    rw [ec.1] at g2
    have hO := hR.own (fC := (sp_rb v n k n (I 9) t 0).1) (m := sp_sh (sp_rb v n k n (fun c => (sp_R J u) 1 (2 + c)) t 0).1 ((sp_R J u) 1)) (sp_okw_rb n _ t 0 ht hc.gI) (fun c hc' => by rw [sp_shv _ _ (by omega)]; exact ec.2 c hc') (sp_sh_el _ _)
    exact Or.inl ⟨_, _, _, fc_roundRobin hc.cv hu.qI hu.q6 hu.uI hu.u6 ht, g2, sp_R9 J u, n, k, v, _, nl, nb, _, _, hO⟩
  · exact Or.inr ⟨_, _, _, ft_roundRobin hFT hl hc.cv z1, fx_roundRobin hc.rv z1, rfl, h⟩
/-! two siblings -/
theorem sc_requireDifferent {x y : Int32} (h : x ≠ y) : cw_C (cc_w K) mX10_requireDifferent [.ref (cw_a (cc_w K) 0), .int x, .int y] I none I := eX10_requireDifferent_0 ⟨fun _ => ⟨rfl, rfl⟩, fun q => absurd q h⟩
theorem st_requireDifferent (hFT : cw_FT (cw_f (cc_w K))) (hl : K.1.stackTraces = false) {x y : Int32} (h : x = y) : cw_T (cc_w K) mX10_requireDifferent [.ref (cw_a (cc_w K) 0), .int x, .int y] I "java/lang/IllegalStateException" I := xX10_requireDifferent_0 hFT hl ⟨fun q => absurd h q, fun _ => ⟨rfl, rfl⟩⟩
theorem ca_swapShares (hFT : cw_FT (cw_f (cc_w K))) (hl : K.1.stackTraces = false) (h : sp_Rel I J) {x y : Int32} : sp_Q K mX10_swapShares mX11_swapShares [.int x, .int y] I J ∨ sp_X K mX10_swapShares mX11_swapShares [.int x, .int y] "java/lang/IndexOutOfBoundsException" 1 I J ∨ sp_X K mX10_swapShares mX11_swapShares [.int x, .int y] "java/lang/IllegalStateException" 2 I J := by
  have hh := h
  obtain ⟨n, k, v, ow, nl, nb, u, q, hP⟩ := hh
  have hR := hP.rem
  obtain ⟨hc, hu, _⟩ := hP
  have hk := hc.k6
  have hn := hc.n24
  by_cases z1 : (0 ≤ x ∧ x < nI k) ∧ (0 ≤ y ∧ y < nI k)
  · by_cases z2 : x = y
    · exact Or.inr (Or.inr ⟨_, _, _, xX10_swapShares_0 (Or.inl ⟨_, sc_requireSibling hc.cv z1.1, Or.inl ⟨_, sc_requireSibling hc.cv z1.2, Or.inr ⟨_, _, st_requireDifferent hFT hl z2, rfl, rfl⟩⟩⟩), eX11_swapShares_0 ⟨_, _, sr_areSiblings hc.rv, fun _ => ⟨fun q => absurd z2 q, fun _ => ⟨_, _, sr_fails2, fun q => absurd q (by decide), fun _ => ⟨rfl, rfl⟩⟩⟩, fun q => absurd z1 (sp_bit0 q)⟩, rfl, h⟩)
    · have hM : sp_cv n k v (sp_mem I q u) := sp_mem_cv hc.cv
      have hM2 : sp_cv n k v (cw_up (sp_mem I q u) 9 (sp_x (I 9) x y n)) := hM.up (by decide) (by decide)
      have h1 : cw_C (cc_w K) mX1_exchangeShares [.ref (cw_a (cc_w K) 5), .int x, .int y] (sp_mem I q u) none (cw_up (sp_mem I q u) 9 (sp_x (I 9) x y n)) := sc_exchangeShares (K := K) hM x y
      have h2 := sc_countEnvies (K := K) hM2 (ow := sp_x (I 9) x y n) (fun c _ => by simp [cw_up])
      have ec : ∀ c, c < n → sp_x (fun c => (sp_R J u) 1 (2 + c)) x y n c = sp_x (I 9) x y n c := fun c hc' => by
        have e1 : (fun c => (sp_R J u) 1 (2 + c)) c = I 9 c := by rw [hc.oI c hc']; exact hR.1.oJ c hc'
        unfold sp_x
        rw [if_pos hc', if_pos hc', e1]
      have ox : sp_okw k x := by obtain ⟨s, hs, rfl⟩ := sp_inB (by omega) z1.1; exact sp_okw_nI hs
      have oy : sp_okw k y := by obtain ⟨s, hs, rfl⟩ := sp_inB (by omega) z1.2; exact sp_okw_nI hs
      have hO := hR.own (fC := sp_x (I 9) x y n) (m := sp_sh (sp_x (fun c => (sp_R J u) 1 (2 + c)) x y n) ((sp_R J u) 1)) (sp_okw_x hc.gI ox oy n) (fun c hc' => by rw [sp_shv _ _ (by omega)]; exact ec c hc') (sp_sh_el _ _)
      have g1 := sr_exchange (K := K) hR.1.rv x y
      have g2 := sr_envyTotal (K := K) hO.1.rv hO.1.oJ
      exact Or.inl ⟨_, _, _, eX10_swapShares_0 ⟨_, sc_requireSibling hc.cv z1.1, _, sc_requireSibling hc.cv z1.2, _, sc_requireDifferent z2, _, sc_remember hu.qI hu.q6 hu.uI hu.u6, _, h1, _, _, h2, rfl, rfl⟩, eX11_swapShares_0 ⟨_, _, sr_areSiblings hc.rv, fun _ => ⟨fun _ => ⟨_, _, sr_fails0, fun _ => ⟨_, sr_R hu.uJ hu.u6, _, g1, _, _, g2, rfl, rfl⟩, fun q => absurd rfl q⟩, fun q => absurd q z2⟩, fun q => absurd z1 (sp_bit0 q)⟩, sp_R9 J u, n, k, v, _, nl, nb, _, _, hO⟩
  · refine Or.inr (Or.inl ⟨_, _, _, ?_, eX11_swapShares_0 ⟨_, _, sr_areSiblings hc.rv, fun q => absurd (sp_bit1 q) z1, fun _ => ⟨fun _ => ⟨_, _, sr_fails1, fun q => absurd q (by decide), fun _ => ⟨rfl, rfl⟩⟩, fun _ => ⟨_, _, sr_fails1, fun q => absurd q (by decide), fun _ => ⟨rfl, rfl⟩⟩⟩⟩, rfl, h⟩)
    by_cases z : 0 ≤ x ∧ x < nI k
    · exact xX10_swapShares_0 (Or.inl ⟨_, sc_requireSibling hc.cv z, Or.inr ⟨_, _, st_requireSibling hFT hl hc.cv (fun y => z1 ⟨z, y⟩), rfl, rfl⟩⟩)
    · exact xX10_swapShares_0 (Or.inr ⟨_, _, st_requireSibling hFT hl hc.cv z, rfl, rfl⟩)
theorem ca_divideAndChoose (hFT : cw_FT (cw_f (cc_w K))) (hl : K.1.stackTraces = false) (h : sp_Rel I J) {x y : Int32} : sp_Q K mX10_divideAndChoose mX11_divideAndChoose [.int x, .int y] I J ∨ sp_X K mX10_divideAndChoose mX11_divideAndChoose [.int x, .int y] "java/lang/IndexOutOfBoundsException" 1 I J ∨ sp_X K mX10_divideAndChoose mX11_divideAndChoose [.int x, .int y] "java/lang/IllegalStateException" 2 I J := by
  have hh := h
  obtain ⟨n, k, v, ow, nl, nb, u, q, hP⟩ := hh
  have hR := hP.rem
  obtain ⟨hc, hu, _⟩ := hP
  have hk := hc.k6
  have hn := hc.n24
  by_cases z1 : (0 ≤ x ∧ x < nI k) ∧ (0 ≤ y ∧ y < nI k)
  · by_cases z2 : x = y
    · exact Or.inr (Or.inr ⟨_, _, _, xX10_divideAndChoose_0 (Or.inl ⟨_, sc_requireSibling hc.cv z1.1, Or.inl ⟨_, sc_requireSibling hc.cv z1.2, Or.inr ⟨_, _, st_requireDifferent hFT hl z2, rfl, rfl⟩⟩⟩), eX11_divideAndChoose_0 ⟨_, _, sr_areSiblings hc.rv, fun _ => ⟨fun q => absurd z2 q, fun _ => ⟨_, _, sr_fails2, fun q => absurd q (by decide), fun _ => ⟨rfl, rfl⟩⟩⟩, fun q => absurd z1 (sp_bit0 q)⟩, rfl, h⟩)
    · obtain ⟨a, ha, ea⟩ := sp_inB (by omega) z1.1
      obtain ⟨b, hb, eb⟩ := sp_inB (by omega) z1.2
      have hM : sp_cv n k v (sp_mem I q u) := sp_mem_cv hc.cv
      have h1 : cw_C (cc_w K) mX6_cutAndChoose [.ref (cw_a (cc_w K) 20), .int x, .int y] (sp_mem I q u) (some (.int (nI (sp_ct v n a n)))) (cw_up (sp_mem I q u) 9 (sp_dv v n a b (I 9))) := by
        rw [ea, eb]; exact sc_cutAndChoose (K := K) hM ha hb
      have ec : ∀ c, c < n → sp_rdv v n a b ((sp_R J u) 1) (2 + c) = sp_dv v n a b (I 9) c := fun c hc' => by
        unfold sp_rdv
        rw [if_pos (by omega), show 2 + c - 2 = c by omega]
        unfold sp_dv
        by_cases y1 : c < sp_ct v n a n
        · rw [if_pos y1, if_pos y1]
        · rw [if_neg y1, if_neg y1, if_pos hc', if_pos hc']
      have hO := hR.own (fC := sp_dv v n a b (I 9)) (m := sp_rdv v n a b ((sp_R J u) 1)) (sp_okw_dv hc.gI ha hb) ec (fun j hj => by unfold sp_rdv; rw [if_neg (by omega)])
      have g1 : cw_C (cr_w K) mX11_divide [.ref (cw_a (cr_w K) 0), .int x, .int y] (sp_R J u) (some (.int (nI (sp_ct v n a n)))) (cw_up (sp_R J u) 1 (sp_rdv v n a b ((sp_R J u) 1))) := by
        rw [ea, eb]; exact sr_divide (K := K) hR.1.rv hc.n1 ha hb
      exact Or.inl ⟨_, _, _, eX10_divideAndChoose_0 ⟨_, sc_requireSibling hc.cv z1.1, _, sc_requireSibling hc.cv z1.2, _, sc_requireDifferent z2, _, sc_remember hu.qI hu.q6 hu.uI hu.u6, _, _, h1, rfl, rfl⟩, eX11_divideAndChoose_0 ⟨_, _, sr_areSiblings hc.rv, fun _ => ⟨fun _ => ⟨_, _, sr_fails0, fun _ => ⟨_, sr_R hu.uJ hu.u6, _, _, g1, rfl, rfl⟩, fun q => absurd rfl q⟩, fun q => absurd q z2⟩, fun q => absurd z1 (sp_bit0 q)⟩, sp_R9 J u, n, k, v, _, nl, nb, _, _, hO⟩
  · refine Or.inr (Or.inl ⟨_, _, _, ?_, eX11_divideAndChoose_0 ⟨_, _, sr_areSiblings hc.rv, fun q => absurd (sp_bit1 q) z1, fun _ => ⟨fun _ => ⟨_, _, sr_fails1, fun q => absurd q (by decide), fun _ => ⟨rfl, rfl⟩⟩, fun _ => ⟨_, _, sr_fails1, fun q => absurd q (by decide), fun _ => ⟨rfl, rfl⟩⟩⟩⟩, rfl, h⟩)
    by_cases z : 0 ≤ x ∧ x < nI k
    · exact xX10_divideAndChoose_0 (Or.inl ⟨_, sc_requireSibling hc.cv z, Or.inr ⟨_, _, st_requireSibling hFT hl hc.cv (fun y => z1 ⟨z, y⟩), rfl, rfl⟩⟩)
    · exact xX10_divideAndChoose_0 (Or.inr ⟨_, _, st_requireSibling hFT hl hc.cv z, rfl, rfl⟩)
end CH
