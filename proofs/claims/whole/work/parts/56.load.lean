/-! ## load, both sides -/
section LOA
variable {K : cw_K} {I J : cw_M} {L n : Nat}
theorem sp_cp0 (f g : Nat → Int32) {N j : Nat} (hj : j < N) : va_cpy f g 0 0 N j = f j := by
  unfold va_cpy
  rw [if_pos (by omega), show 0 + (j - 0) = j by omega]
abbrev sp_bc (I : cw_M) : cw_M := cw_up (cw_up (cw_up (cw_st (cw_st I 5 0 (I 10 0)) 5 1 (I 10 1)) 6 (va_cpy (I 11) (I 6) 0 0 36)) 7 (va_cpy (I 12) (I 7) 0 0 6)) 8 (va_cpy (I 13) (I 8) 0 0 144)
theorem sc_become (hn : n ≤ 24) (h : I 10 0 = nI n) : cw_C (cc_w K) mX1_become [.ref (cw_a (cc_w K) 5), .ref (cw_a (cc_w K) 10)] I none (cw_up (sp_bc I) 9 (sp_put (I 9) (-1) 0 n)) := by
  have h1 : cw_C (cc_w K) mX1_assign [.ref (cw_a (cc_w K) 5), .ref (cw_a (cc_w K) 9), .int (-1), .int 0, .int ((sp_bc I) 5 0)] (sp_bc I) none (cw_up (sp_bc I) 9 (sp_put (I 9) (-1) 0 n)) := by
    rw [show (sp_bc I) 5 0 = nI n from h]
    exact sc_assign_9 (K := K) (I := sp_bc I) (x := -1) (a := 0) (e := n) (by omega) hn
  refine eX1_become_5_10 ⟨by decide, by decide, by decide, _, ?_, rfl, rfl⟩
  exact h1
/-- the class's ints behind a setup taken over -/
abbrev sp_ad (I : cw_M) (n : Nat) : cw_M := cw_st (cw_st (cw_st (cw_up (sp_bc I) 9 (sp_put (I 9) (-1) 0 n)) 28 0 0) 29 0 (vp_nar .boolean 0)) 29 1 (vp_nar .boolean 0)
theorem ad_ok {I2 : cw_M} (hn : n ≤ 24) (h : I2 10 0 = nI n) (hr : cw_C (cc_w K) mX5_readSetup [.ref (cw_a (cc_w K) 15), .ref (cw_a (cc_w K) 10)] I (some (.int 1)) I2) : cw_C (cc_w K) mX10_adoptSetup [.ref (cw_a (cc_w K) 0)] I (some (.int 1)) (sp_ad (cw_st I2 1 1 0) n) :=
  eX10_adoptSetup_0 ⟨_, _, hr, fun q => absurd q (by decide), fun _ => ⟨_, sc_become (I := cw_st I2 1 1 0) hn h, _, sc_forgetAll, Or.inr rfl, rfl, rfl⟩⟩
theorem ad_no {I2 : cw_M} (hr : cw_C (cc_w K) mX5_readSetup [.ref (cw_a (cc_w K) 15), .ref (cw_a (cc_w K) 10)] I (some (.int 0)) I2) : cw_C (cc_w K) mX10_adoptSetup [.ref (cw_a (cc_w K) 0)] I (some (.int 0)) (cw_st I2 1 1 0) :=
  eX10_adoptSetup_0 ⟨_, _, hr, fun _ => ⟨Or.inl rfl, rfl, rfl⟩, fun q => absurd rfl q⟩
theorem ad_rel {I2 J2 J3 : cw_M} {k q : Nat} {v : Nat → Nat → Nat} {nl : Nat → Nat} {nb : Nat → Nat → Int32} (hf : fs I J I2 J2) (hr : sp_RE I2 J2) (hk1 : 1 ≤ k) (hk6 : k ≤ 6) (h101 : I2 10 1 = nI k) (hs : su n k k 0 v nl nb I2 J2) (hq : I 28 2 = nI q) (hq6 : q < 6) (ho : sp_RO I J) (j1 : J3 1 = J2 1) (j2 : J3 2 0 = 0 ∧ J3 2 1 = 0) (j02 : J3 0 2 = 0) (j04 : J3 0 4 = 0) (j05 : J3 0 5 = J2 0 5) (j06 : J3 0 6 = J2 0 6) (j08 : J3 0 8 = J2 0 8) (j4 : J3 4 = J2 4) : sp_Rel (sp_ad (cw_st I2 1 1 0) n) J3 := by
  obtain ⟨s1, s2, s3, s4, s5, s6, s7, s8, s9, s10⟩ := hs
  obtain ⟨W, w1, w2, w3, w4⟩ := ho
  refine ⟨n, k, v, fun _ => -1, nl, nb, 0, q, ⟨s4, s5, hk1, hk6, ⟨fun s c hs hc => (s9 s c hc (Or.inl hs)).1, fun c _ => Or.inl rfl⟩, s1, h101, ⟨fun c hc => ?_, fun s c hs hc => ?_⟩, fun s hs => ?_, ?_⟩, ⟨rfl, ?_, j02, by omega, hq6, fun i hi => absurd hi (by omega), fun t ht => Or.inl ?_⟩, ⟨0, by omega, rfl, j04, fun j hj => absurd hj (by omega)⟩, ⟨W, w1, ?_, ?_, fun j hj => ?_⟩, ?_, ?_⟩
  · show sp_put (I2 9) (-1) 0 n c = -1
    unfold sp_put
    rw [if_pos (by omega)]
  · show va_cpy (I2 13) (I2 8) 0 0 144 (s * 24 + c) = _
    rw [sp_cp0 _ _ (by omega)]
    exact (s9 s c hc (Or.inl hs)).2.1
  · have h7 := s7 s hs
    refine ⟨h7.1, ?_, fun i hi => ?_⟩
    · show va_cpy (I2 12) (I2 7) 0 0 6 s = _
      rw [sp_cp0 _ _ (by omega)]
      exact h7.2.1
    · show va_cpy (I2 11) (I2 6) 0 0 36 (s * 6 + i) = _
      have := h7.1
      rw [sp_cp0 _ _ (by omega)]
      exact h7.2.2 i hi
  · rw [j1]
    exact ⟨s2, s3, s10, fun s c hs hc => (s9 s c hc (Or.inl hs)).2.2, s8⟩
  · show I2 28 2 = nI q
    rw [hf.1 28 (by omega) (by omega)]; exact hq
  · have ht2 : t = 0 ∨ t = 1 := by omega
    rcases ht2 with rfl | rfl
    · exact ⟨by show (vp_nar .boolean 0) = 0; decide, j2.1⟩
    · exact ⟨by show (vp_nar .boolean 0) = 0; decide, j2.2⟩
  · show I2 3 1 = nI W
    rw [hf.1 3 (by omega) (by omega)]; exact w2
  · rw [j08, hf.2.2.1 8 (by omega) (by omega) (by omega)]; exact w3
  · show I2 4 j = J3 4 j
    rw [j4, hf.1 4 (by omega) (by omega), hf.2.1 4 (by omega) (by omega)]; exact w4 j hj
  · show I2 15 0 = J3 0 5
    rw [j05]; exact hr.1
  · show I2 15 1 = J3 0 6
    rw [j06]; exact hr.2
theorem sp_RC.rI {k : Nat} {v : Nat → Nat → Nat} {ow : Nat → Int32} {nl : Nat → Nat} {nb : Nat → Nat → Int32} {I2 : cw_M} {m : Nat → Int32} (h : sp_RC n k v ow nl nb I m) (e : ∀ o, 5 ≤ o → o ≤ 9 → I2 o = I o) : sp_RC n k v ow nl nb I2 m := by
  unfold sp_RC
  rw [e 5 (by omega) (by omega), e 6 (by omega) (by omega), e 7 (by omega) (by omega), e 8 (by omega) (by omega), e 9 (by omega) (by omega)]
  exact h
theorem sp_RU.rI {k u q : Nat} {nl : Nat → Nat} {nb : Nat → Nat → Int32} {I2 : cw_M} {ju : Int32} {m js : Nat → Int32} (h : sp_RU n k nl nb u q I ju m js) (e : ∀ o, 28 ≤ o → I2 o = I o) : sp_RU n k nl nb u q I2 ju m js := by
  unfold sp_RU
  rw [e 28 (by omega), e 29 (by omega), e 30 (by omega), e 31 (by omega)]
  exact h
theorem ca_load (hFT : cw_FT (cw_f (cc_w K))) (hl : K.1.stackTraces = false) (hFS : cw_FS (cw_Fc K) (cw_sd K) (cw_sv K)) (hFC : cw_FC K) (h : sp_Rel I J) : sp_Q K mX10_load mX11_load [] I J ∨ sp_X K mX10_load mX11_load [] "java/lang/IllegalArgumentException" 1 I J := by
  obtain ⟨n0, k0, v0, ow0, nl0, nb0, u, q, hc, hu, ⟨L, ht⟩, ho, he⟩ := h
  have hT : sp_TL L I (cw_up J 1 (sp_cb (J 1) 0 9)) := ht
  have hcp := sr_copyBlock (K := K) (J := J) (a := 0) (b := 9) (by omega) (by omega) (by omega)
  obtain ⟨b, I2, J1, J2, n, a1, b1, c1, hs⟩ := rd_setup (K := K) hFS hFC hT
  rcases hs with ⟨rfl, hr, hf⟩ | ⟨rfl, hf, hr, k, v, nl, nb, hk1, hk6, h101, hsu⟩
  · have e1 : ∀ j, j < 1908 → sp_cb (J2 1) 9 0 j = J 1 j := fun j hj => by
      by_cases z : j < 212
      · rw [sp_cb0_at _ _ z, hf.2.2.2 _ (by omega)]
        show sp_cb (J 1) 0 9 (9 * 212 + j) = J 1 j
        rw [sp_cb_at _ _ _ _ z, if_pos rfl, show 0 * 212 + j = j by omega]
      · rw [sp_cb0_hi _ _ (by omega), hf.2.2.2 _ (by omega)]
        exact sp_cb9 (J 1) hj
    have g1 : cw_C (cr_w K) mX11_copyBlock [.ref (cw_a (cr_w K) 0), .int 9, .int 0] (cw_st J2 0 4 0) none (cw_up (cw_st J2 0 4 0) 1 (sp_cb (J2 1) 9 0)) := sr_copyBlock (K := K) (J := cw_st J2 0 4 0) (a := 9) (b := 0) (by omega) (by omega) (by omega)
    have hR : sp_Rel (cw_st I2 1 1 0) (cw_st (cw_up (cw_st J2 0 4 0) 1 (sp_cb (J2 1) 9 0)) 0 9 1) := by
      obtain ⟨W, w1, w2, w3, w4⟩ := ho
      have hc2 := (hc.rI (I2 := cw_st I2 1 1 0) (fun o h5 h9 => by simp only [cw_st, cw_up]; rw [if_neg (by omega)]; exact hf.1 o (by omega) (by omega))).m (m2 := sp_cb (J2 1) 9 0) (fun j hj => e1 j (by omega))
      have hu2 := (hu.rI (I2 := cw_st I2 1 1 0) (fun o h5 => by simp only [cw_st, cw_up]; rw [if_neg (by omega)]; exact hf.1 o (by omega) (by omega))).m (m2 := sp_cb (J2 1) 9 0) hc.n24 hc.k6 hc.nl6 (fun j _ hj => e1 j hj)
      have e2 : (cw_st (cw_up (cw_st J2 0 4 0) 1 (sp_cb (J2 1) 9 0)) 0 9 1) 0 2 = J 0 2 := hf.2.2.1 2 (by omega) (by omega) (by omega)
      have e3 : (cw_st (cw_up (cw_st J2 0 4 0) 1 (sp_cb (J2 1) 9 0)) 0 9 1) 2 = J 2 := hf.2.1 2 (by omega) (by omega)
      refine ⟨n0, k0, v0, ow0, nl0, nb0, u, q, hc2, ?_, ⟨0, by omega, rfl, rfl, fun j hj => absurd hj (by omega)⟩, ⟨W, w1, ?_, ?_, fun j hj => ?_⟩, hr⟩
      · rw [e2, e3]; exact hu2
      · exact (congrFun (hf.1 3 (by omega) (by omega)) 1).trans w2
      · exact (hf.2.2.1 8 (by omega) (by omega) (by omega)).trans w3
      · show I2 4 j = J2 4 j
        rw [hf.1 4 (by omega) (by omega), hf.2.1 4 (by omega) (by omega)]; exact w4 j hj
    exact Or.inr ⟨_, _, _, xX10_load_0 hFT hl ⟨_, _, ad_no a1, fun q => absurd rfl q, fun _ => ⟨rfl, rfl⟩⟩, eX11_load_0 ⟨_, hcp, _, b1, _, _, c1, fun q => absurd rfl q, fun _ => ⟨_, g1, fun q => absurd rfl q, fun _ => ⟨_, _, sr_fails1, fun q => absurd q (by decide), fun _ => ⟨rfl, rfl⟩⟩⟩⟩, rfl, hR⟩
  · have e2 : ∀ o, o ≠ 0 → o ≠ 1 → J2 o = J o := fun o h0 h1 => (hf.2.1 o h0 h1).trans (by simp [cw_up, h1])
    have hR : sp_Rel (sp_ad (cw_st I2 1 1 0) n) (cw_st (cw_st (cw_st (cw_st (cw_st J2 0 4 0) 0 9 0) 0 2 0) 2 0 (vp_nar .boolean 0)) 2 1 (vp_nar .boolean 0)) := ad_rel hf hr hk1 hk6 h101 hsu hu.qI hu.q6 ho rfl ⟨by show (vp_nar .boolean 0) = 0; decide, by show (vp_nar .boolean 0) = 0; decide⟩ rfl rfl rfl rfl rfl rfl
    refine Or.inl ⟨nI k, _, _, eX10_load_0 ⟨_, _, ad_ok hsu.2.2.2.2.1 hsu.1 a1, fun _ => ⟨?_, rfl⟩, fun q => absurd q (by decide)⟩, eX11_load_0 ⟨_, hcp, _, b1, _, _, c1, fun _ => ⟨fun _ => ⟨_, _, sr_fails0, fun _ => ⟨vp_in_nI (n := 0) (N := 2) (by omega) (by omega), vp_in_nI (n := 1) (N := 2) (by omega) (by omega), ?_, ?_⟩, fun q => absurd rfl q⟩, fun q => absurd q (by decide)⟩, fun q => absurd q (by decide)⟩, ?_, hR⟩
    · show some (Value.int (nI k)) = some (.int (I2 10 1))
      rw [h101]
    · show some (Value.int (nI k)) = some (.int (J2 1 1))
      rw [hsu.2.2.1]
    · rw [show (0 : Int32).toNatClampNeg = 0 by decide, show (1 : Int32).toNatClampNeg = 1 by decide]
    · rfl
end LOA
