/-! ## the start: both sides hold the first setup -/
section ZB
variable {K : cw_K} {I J : cw_M}
theorem zt_L2 (h : I 1 1 = 0) : ∀ i, i ≤ 91 → ∀ j, j < i → kn_L i I 2 j = zt_T j := by
  intro i
  induction i with
  | zero => exact fun _ j hj => absurd hj (by omega)
  | succ i ih =>
    intro hi j hj
    show upd (kn_L i I 2) (kn_L i I 1 1).toNatClampNeg (cw_ch 15 (nI i)) j = zt_T j
    rw [kn_L11 h i, nI_clamp (by omega)]
    by_cases w : j = i
    · subst w
      rw [sp_upd_same]
      show (cw_tx 15).getD (nI j).toNatClampNeg 0 = (cw_tx 15).getD j 0
      rw [nI_clamp (by omega)]
    · rw [sp_upd_ne _ _ w]
      exact ih (by omega) j (by omega)
theorem zt_Lo : ∀ i o, o ≠ 1 → o ≠ 2 → kn_L i I o = I o := by
  intro i
  induction i with
  | zero => exact fun o _ _ => rfl
  | succ i ih =>
    intro o h1 h2
    show (if o = 1 then _ else if o = 2 then _ else kn_L i I o) = I o
    rw [if_neg h1, if_neg h2]
    exact ih o h1 h2
theorem zt_M3 : ∀ i, i ≤ 91 → ∀ j, kn_M i J 3 j = if j < i then zt_T j else J 3 j := by
  intro i
  induction i with
  | zero => exact fun _ j => (if_neg (by omega)).symm
  | succ i ih =>
    intro hi j
    show upd (kn_M i J 3) i (cw_ch 15 (nI i)) j = _
    by_cases w : j = i
    · subst w
      rw [sp_upd_same, if_pos (by omega)]
      show (cw_tx 15).getD (nI j).toNatClampNeg 0 = (cw_tx 15).getD j 0
      rw [nI_clamp (by omega)]
    · rw [sp_upd_ne _ _ w, ih (by omega) j]
      by_cases y : j < i
      · rw [if_pos y, if_pos (by omega)]
      · rw [if_neg y, if_neg (by omega)]
theorem zt_Mo : ∀ i o, o ≠ 3 → kn_M i J o = J o := by
  intro i
  induction i with
  | zero => exact fun o _ => rfl
  | succ i ih =>
    intro o h1
    show (if o = 3 then _ else kn_M i J o) = J o
    rw [if_neg h1]
    exact ih o h1
theorem zt_len : (cw_tx 15).length = 91 := by decide +kernel
theorem zt_start (hFS : cw_FS (cw_Fc K) (cw_sd K) (cw_sv K)) (hFC : cw_FC K) {N : Nat} (hN : N = 91) : ∃ I9 J1 J2, cw_C (cc_w K) mX10_adoptSetup [.ref (cw_a (cc_w K) 0)] (kn_L N kn_I0) (some (.int 1)) I9 ∧ cw_C (cr_w K) mX11_begin [.ref (cw_a (cr_w K) 0)] (cw_st (kn_M N kn_J0) 0 4 (nI N)) none J1 ∧ cw_C (cr_w K) mX11_parseSetup [.ref (cw_a (cr_w K) 0)] J1 (some (.int 1)) J2 ∧ sp_Rel I9 (cw_st J2 0 4 0) := by
  have hI11 := kn_L11 (I := kn_I0) rfl N
  have hI2 := zt_L2 (I := kn_I0) rfl N (by omega)
  have hIo := zt_Lo (I := kn_I0) N
  have hM3 := zt_M3 (J := kn_J0) N (by omega)
  have hMo := zt_Mo (J := kn_J0) N
  revert hI11 hI2 hIo hM3 hMo
  generalize kn_L N kn_I0 = I
  generalize kn_M N kn_J0 = J
  intro hI11 hI2 hIo hM3 hMo
  subst hN
  have hJ3 : J 3 = zt_T := by
    funext j
    rw [hM3 j]
    by_cases y : j < 91
    · rw [if_pos y]
    · rw [if_neg y]
      show (0 : Int32) = (cw_tx 15).getD j 0
      rw [List.getD_eq_getElem?_getD, List.getElem?_eq_none (by rw [zt_len]; omega)]
      rfl
  have hJ3' : (cw_st J 0 4 (nI 91)) 3 = zt_T := hJ3
  have hT : sp_TL 91 I (cw_st J 0 4 (nI 91)) := ⟨by omega, hI11, sp_st_at J 0 4 _, fun j hj => by rw [hI2 j hj, hJ3']⟩
  obtain ⟨I2, J1, J2, a1, b1, c1, ho⟩ := zt_setup (K := K) hFS hFC hT hJ3'
  rcases ho with ⟨h, _⟩ | ⟨_, hf, hr, k, v, nl, nb, hk1, hk6, h101, hs⟩
  · exact absurd h (by decide)
  · have e2 : J2 2 = J 2 := hf.2.1 2 (by omega) (by omega)
    have e02 : J2 0 2 = upd (J 0) 4 (nI 91) 2 := hf.2.2.1 2 (by omega) (by omega) (by omega)
    have e08 : upd (J 0) 4 (nI 91) 8 = 0 := by rw [sp_upd_ne _ _ (by omega), hMo 0 (by omega)]; rfl
    have ho : sp_RO I (cw_st J 0 4 (nI 91)) := ⟨0, by omega, by rw [hIo 3 (by omega) (by omega)]; rfl, e08, fun j hj => absurd hj (by omega)⟩
    have e0 : ∀ p, p ≠ 4 → cw_st J2 0 4 0 0 p = J2 0 p := fun p hp => by
      show upd (J2 0) 4 0 p = J2 0 p
      exact sp_upd_ne _ _ hp
    refine ⟨_, J1, J2, ad_ok (n := 8) (by omega) hs.1 a1, b1, c1, ad_rel (q := 0) hf hr hk1 hk6 h101 hs ?_ (by omega) ho rfl ⟨?_, ?_⟩ ?_ (sp_st_at J2 0 4 0) (e0 5 (by omega)) (e0 6 (by omega)) (e0 8 (by omega)) rfl⟩
    · rw [hIo 28 (by omega) (by omega)]; rfl
    · show J2 2 0 = 0
      rw [e2, hMo 2 (by omega)]; rfl
    · show J2 2 1 = 0
      rw [e2, hMo 2 (by omega)]; rfl
    · show upd (J2 0) 4 0 2 = 0
      rw [sp_upd_ne _ _ (by omega), e02, sp_upd_ne _ _ (by omega), hMo 0 (by omega)]; rfl
end ZB
