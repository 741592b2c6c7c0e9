/-! ## a sibling of a setup whose tokens are known; its name may begin as another's -/
section ZS
variable {K : cw_K} {I J I0 J0 : cw_M} {L k n a len : Nat} {T : Nat → Int32} {tk ta te : Nat → Nat} {v : Nat → Nat → Nat} {nl : Nat → Nat} {nb : Nat → Nat → Int32}
theorem zn_is (hk : k ≤ 6) (hN : sp_NM k nl nb (I 11) (I 12)) (hT : ∀ j, j < L → I 2 j = T j) (hL : L ≤ 600) (ha : a + len ≤ L) {s : Nat} (hs : s < k) (hl : nl s = len) : ∀ d i : Nat, i + d = len → (∃ j, i ≤ j ∧ j < len ∧ nb s j ≠ T (a + j)) → bX1_isName_10_1_16 K (some (.int 0)) I (nI s) (nI a) (nI len) (nI i) I := by
  have h6 := (hN s hs).1
  intro d
  induction d with
  | zero =>
    intro i hi hj
    obtain ⟨j, h1, h2, h3⟩ := hj
    omega
  | succ d ih =>
    intro i hi hj
    have f1 : I 11 (nI s * 6 + nI i).toNatClampNeg = nb s i := by rw [sp_6, nI_clamp (by omega)]; exact (hN s hs).2.2 i (by omega)
    have f2 : I 2 (nI a + nI i).toNatClampNeg = T (a + i) := by rw [nI_add, nI_clamp (by omega)]; exact hT _ (by omega)
    refine tbX1_isName_10_1_16 (br_f (nI_ge (by omega) (by omega)) ⟨by rw [sp_6]; exact vp_in_nI (by omega) (by omega), by rw [nI_add]; exact vp_in_nI (by omega) (by omega), fun q => ?_, fun _ => ⟨rfl, rfl⟩⟩)
    rw [f1, f2] at q
    rw [nI_1]
    obtain ⟨j, h1, h2, h3⟩ := hj
    refine ih (i + 1) (by omega) ⟨j, ?_, h2, h3⟩
    by_cases e : j = i
    · rw [e] at h3
      exact absurd q h3
    · omega
theorem zn_new (hk : k ≤ 6) (k1 : I 10 1 = nI k) (hN : sp_NM k nl nb (I 11) (I 12)) (hT : ∀ j, j < L → I 2 j = T j) (hL : L ≤ 600) (ha : a + len ≤ L) (hne : ∀ s, s < k → ∃ i, i < len ∧ nb s i ≠ T (a + i)) : ∀ d s : Nat, s + d = k → bX1_findName_10_1_3 K (some (.int (-1))) I (nI a) (nI len) (nI s) I := by
  intro d
  induction d with
  | zero =>
    intro s hs
    obtain rfl : s = k := by omega
    exact tbX1_findName_10_1_3 (br_t (by rw [k1]; exact Int32.le_refl _) ⟨rfl, rfl⟩)
  | succ d ih =>
    intro s hs
    have hsk : s < k := by omega
    have a1 := ih (s + 1) (by omega)
    have h6 := (hN s hsk).1
    have e1 : I 12 (nI s).toNatClampNeg = nI (nl s) := by rw [nI_clamp (by omega)]; exact (hN s hsk).2.1
    have g1 : cw_C (cc_w K) mX1_isName [.ref (cw_a (cc_w K) 10), .int (nI s), .ref (cw_a (cc_w K) 1), .int (nI a), .int (nI len)] I (some (.int 0)) I := by
      refine eX1_isName_10_1 ⟨vp_in_nI (by omega) (by omega), fun q => ?_, fun _ => ⟨rfl, rfl⟩⟩
      rw [e1] at q
      have y : nl s = len := (nI_eq (by omega) (by omega)).mp q
      obtain ⟨j, h2, h3⟩ := hne s hsk
      exact zn_is hk hN hT hL ha hsk y len 0 (by omega) ⟨j, Nat.zero_le _, h2, h3⟩
    exact tbX1_findName_10_1_3 (br_f (by rw [k1]; exact nI_ge (by omega) (by omega)) ⟨_, _, g1, fun _ => by rw [nI_1]; exact a1, fun q => absurd rfl q⟩)
theorem zn_sib (hFC : cw_FC K) (hk : k < 6) {p : Nat} {va : Int32} (hx : ∀ j, p ≤ j → j ≤ p + 2 + n → zt_tok T L (te j) (tk (j + 1)) (ta (j + 1)) (te (j + 1))) (hJ0 : J0 3 = T) (hn1 : tk (p + 1) = 1) (hn6 : te (p + 1) - ta (p + 1) ≤ 6) (hv : ∀ i, i < n → tk (p + 2 + i) = 2 ∧ ∃ d, d ≤ 9 ∧ tp_nv T (ta (p + 2 + i)) (te (p + 2 + i) - ta (p + 2 + i)) = nI d) (hsm : tk (p + 2 + n) = 3) (hne : ∀ s, s < k → ∃ i, i < te (p + 1) - ta (p + 1) ∧ nb s i ≠ T (ta (p + 1) + i)) (hc : cu L (tk p) (ta p) (te p) va I J) (hf : fs I0 J0 I J) (hs : su n k k 0 v nl nb I J) (h101 : I 10 1 = nI k) (hw : cw_C (cc_w K) mX5_isWord [.ref (cw_a (cc_w K) 15), .ref (cw_sd K 1)] I (some (.int 1)) I) : ∃ I2 J2 va2 v2 nl2 nb2, cw_C (cc_w K) mX5_readSibling [.ref (cw_a (cc_w K) 15), .ref (cw_a (cc_w K) 10), .int (nI k)] I (some (.int 1)) I2 ∧ rw_C K mY11_parseNewSibling [.ref (cw_a (cc_w K) 0)] J (some (.int 1)) J2 ∧ fs I0 J0 I2 J2 ∧ cu L (tk (p + 2 + n + 1)) (ta (p + 2 + n + 1)) (te (p + 2 + n + 1)) va2 I2 J2 ∧ su n (k + 1) (k + 1) 0 v2 nl2 nb2 I2 J2 ∧ (∀ i, nb2 k i = T (ta (p + 1) + i)) ∧ ∀ s, s < k → ∀ i, nb2 s i = nb s i := by
  have hj : J 3 = T := (hf.2.1 3 (by omega) (by omega)).trans hJ0
  have hx0 := hx p (by omega) (by omega)
  rw [hn1, ← hj] at hx0
  obtain ⟨va1, I1, J1, n1, m1, hc1, hk1, _⟩ := zt_step (K := K) hc hx0
  have hf1 := hf.kf hk1
  have hs1 := hs.kf hk1
  have hs0 := hs1
  obtain ⟨s1, s2, s3, s4, s5, s6, s7, s8, s9, s10⟩ := hs0
  have h3 : J 1 1 = nI k := hs.2.2.1
  have j16 : ¬ J 1 1 = 6 := by rw [h3]; exact fun q => absurd ((nI_eq (b := 6) (by omega) (by omega)).mp q) (by omega)
  have tw : cw_C (cc_w K) mX5_takeWord [.ref (cw_a (cc_w K) 15), .ref (cw_sd K 1)] I (some (.int 1)) I1 := eX5_takeWord_15 ⟨_, _, hw, fun _ => ⟨_, n1, rfl, rfl⟩, fun q => absurd q (by decide)⟩
  have hI := cu_cI hc1 (c := 1) (by omega)
  have hJ := cu_cJ hc1 (c := 1) (by omega)
  have hc0 := hc1
  obtain ⟨⟨hL, _, _, t4⟩, ⟨g1, g2, g3⟩, h1, h2, h3', h4, h5, h6, h7, h8⟩ := hc0
  have eI : I1 15 4 - I1 15 3 = nI (te (p + 1) - ta (p + 1)) := by rw [h2, h3']; exact sp_sub g1
  have eJ : J1 0 15 - J1 0 17 = nI (te (p + 1) - ta (p + 1)) := by rw [h4, h6]; exact sp_sub g1
  have hlt : ta (p + 1) < te (p + 1) := by rcases g3 with g3 | g3 | g3 | g3 | g3 <;> omega
  have hj1 : J1 3 = T := (hf1.2.1 3 (by omega) (by omega)).trans hJ0
  have y := hn6
  have yI : ¬ 6 < I1 15 4 - I1 15 3 := by rw [eI]; exact fun q => absurd ((nI_ltI (a := 6) (by omega) (by omega)).mp q) (by omega)
  have yJ : J1 0 15 - J1 0 17 ≤ 6 := by rw [eJ]; exact nI_le (b := 6) y (by omega)
  have k1 : I1 10 1 = nI k := by rw [hk1.1 10 (by omega)]; exact h101
  have fa0 := zn_new (K := K) (a := ta (p + 1)) (len := te (p + 1) - ta (p + 1)) (by omega) k1 s7 t4 hL (by omega) (by rw [hj1]; exact hne) k 0 (by omega)
  have fa := eX1_findName_10_1 fa0
  have fb : rw_C K mY11_siblingNamed [.ref (cw_a (cc_w K) 0), .int (nI (ta (p + 1))), .int (nI (te (p + 1) - ta (p + 1)))] J1 (some (.int (-1))) J1 := True.intro
  rw [← eI, ← h2] at fa
  rw [← eJ, ← h6] at fb
  have sw : rw_C K mY11_isShortWord [.ref (cw_a (cc_w K) 0)] J1 (some (.int 1)) J1 := eY11_isShortWord_0 ⟨fun _ => ⟨fun _ => ⟨rfl, rfl⟩, fun q => absurd yJ q⟩, fun q => absurd (hJ.mpr rfl) q⟩
  have pn : cw_C (cc_w K) mX1_putName [.ref (cw_a (cc_w K) 10), .int (nI k), .ref (cw_a (cc_w K) 1), .int (I1 15 3), .int (I1 15 4 - I1 15 3)] I1 none (cw_st (cw_up I1 11 (nm_c (I1 11) (I1 2) (k * 6) (ta (p + 1)) (te (p + 1) - ta (p + 1)))) 12 k (nI (te (p + 1) - ta (p + 1)))) := by
    rw [eI, h2]
    exact sc_putName (K := K) (I := I1) (a := ta (p + 1)) (s := k) (len := te (p + 1) - ta (p + 1)) hk y (by omega)
  have hx1 := hx (p + 1) (by omega) (by omega)
  rw [← hj1] at hx1
  have hcA : cu L 1 (ta (p + 1)) (te (p + 1)) va1 (cw_st (cw_up I1 11 (nm_c (I1 11) (I1 2) (k * 6) (ta (p + 1)) ((te (p + 1)) - (ta (p + 1))))) 12 k (nI ((te (p + 1)) - (ta (p + 1))))) (cw_up (cw_st J1 1 (26 + k * 31) (nI ((te (p + 1)) - (ta (p + 1))))) 1 (nm_c (upd (J1 1) (26 + k * 31) (nI ((te (p + 1)) - (ta (p + 1))))) (J1 3) (27 + k * 31) (ta (p + 1)) ((te (p + 1)) - (ta (p + 1))))) := hc1
  have hlow : ∀ j, j ≠ 26 + k * 31 → ¬ (27 + k * 31 ≤ j ∧ j < 27 + k * 31 + ((te (p + 1)) - (ta (p + 1)))) → nm_c (upd (J1 1) (26 + k * 31) (nI ((te (p + 1)) - (ta (p + 1))))) (J1 3) (27 + k * 31) (ta (p + 1)) ((te (p + 1)) - (ta (p + 1))) j = J1 1 j := fun j hj hj2 => by
    unfold nm_c
    rw [if_neg hj2, sp_upd_ne _ _ hj]
  have hfA : fs I0 J0 (cw_st (cw_up I1 11 (nm_c (I1 11) (I1 2) (k * 6) (ta (p + 1)) ((te (p + 1)) - (ta (p + 1))))) 12 k (nI ((te (p + 1)) - (ta (p + 1))))) (cw_up (cw_st J1 1 (26 + k * 31) (nI ((te (p + 1)) - (ta (p + 1))))) 1 (nm_c (upd (J1 1) (26 + k * 31) (nI ((te (p + 1)) - (ta (p + 1))))) (J1 3) (27 + k * 31) (ta (p + 1)) ((te (p + 1)) - (ta (p + 1))))) := by
    rw [sp_upup]
    exact ((hf1.I (o := 11) (by omega) _).I (o := 12) (by omega) _).J (fun j hj => hlow j (by omega) (by omega))
  have hsA : su n (k + 1) k 0 v (fun s => if s = k then (te (p + 1)) - (ta (p + 1)) else nl s) (fun s i => if s = k then J1 3 ((ta (p + 1)) + i) else nb s i) (cw_st (cw_up I1 11 (nm_c (I1 11) (I1 2) (k * 6) (ta (p + 1)) ((te (p + 1)) - (ta (p + 1))))) 12 k (nI ((te (p + 1)) - (ta (p + 1))))) (cw_up (cw_st J1 1 (26 + k * 31) (nI ((te (p + 1)) - (ta (p + 1))))) 1 (nm_c (upd (J1 1) (26 + k * 31) (nI ((te (p + 1)) - (ta (p + 1))))) (J1 3) (27 + k * 31) (ta (p + 1)) ((te (p + 1)) - (ta (p + 1))))) := by
    refine ⟨s1, (hlow 0 (by omega) (by omega)).trans s2, (hlow 1 (by omega) (by omega)).trans s3, s4, s5, by omega, fun s hs => ?_, fun s hs => ?_, fun s c hcn hh => ?_, fun c hc => (hlow _ (by omega) (by omega)).trans (s10 c hc)⟩
    · show (if s = k then (te (p + 1)) - (ta (p + 1)) else nl s) ≤ 6 ∧ upd (I1 12) k (nI ((te (p + 1)) - (ta (p + 1)))) s = nI (if s = k then (te (p + 1)) - (ta (p + 1)) else nl s) ∧ ∀ i, i < (if s = k then (te (p + 1)) - (ta (p + 1)) else nl s) → nm_c (I1 11) (I1 2) (k * 6) (ta (p + 1)) ((te (p + 1)) - (ta (p + 1))) (s * 6 + i) = (if s = k then J1 3 ((ta (p + 1)) + i) else nb s i)
      by_cases w : s = k
      · subst w
        simp only [if_true]
        refine ⟨y, sp_upd_same _ _ _, fun i hi => ?_⟩
        unfold nm_c
        rw [if_pos (by omega), show (ta (p + 1)) + (s * 6 + i - s * 6) = (ta (p + 1)) + i by omega]
        exact t4 _ (by omega)
      · simp only [if_neg w]
        have h7 := s7 s (by omega)
        refine ⟨h7.1, (sp_upd_ne _ _ w).trans h7.2.1, fun i hi => ?_⟩
        unfold nm_c
        rw [if_neg (by omega)]
        exact h7.2.2 i hi
    · show nm_c (upd (J1 1) (26 + k * 31) (nI ((te (p + 1)) - (ta (p + 1))))) (J1 3) (27 + k * 31) (ta (p + 1)) ((te (p + 1)) - (ta (p + 1))) (26 + s * 31) = nI (if s = k then (te (p + 1)) - (ta (p + 1)) else nl s) ∧ ∀ i, i < (if s = k then (te (p + 1)) - (ta (p + 1)) else nl s) → nm_c (upd (J1 1) (26 + k * 31) (nI ((te (p + 1)) - (ta (p + 1))))) (J1 3) (27 + k * 31) (ta (p + 1)) ((te (p + 1)) - (ta (p + 1))) (27 + s * 31 + i) = (if s = k then J1 3 ((ta (p + 1)) + i) else nb s i)
      by_cases w : s = k
      · subst w
        simp only [if_true]
        refine ⟨?_, fun i hi => ?_⟩
        · unfold nm_c
          rw [if_neg (by omega), sp_upd_same]
        · unfold nm_c
          rw [if_pos (by omega), show (ta (p + 1)) + (27 + s * 31 + i - (27 + s * 31)) = (ta (p + 1)) + i by omega]
      · simp only [if_neg w]
        have h7 := s7 s (by omega)
        have h8 := s8 s (by omega)
        refine ⟨(hlow _ (by omega) (by omega)).trans h8.1, fun i hi => (hlow _ (by omega) (by omega)).trans (h8.2 i hi)⟩
    · have h9 := s9 s c hcn hh
      exact ⟨h9.1, h9.2.1, (hlow _ (by omega) (by omega)).trans h9.2.2⟩
  obtain ⟨va2, I2, J2, n2, m2, hc2, hk2, _⟩ := zt_step (K := K) hcA hx1
  obtain ⟨I4, J4, a4, b4, hf4, ⟨va4, hc4⟩, v4, hs4⟩ := zt_vals (K := K) (T := T) (tk := tk) (ta := ta) (te := te) (p := p + 2) hk (fun j h1 h2 => hx j (by omega) (by omega)) hJ0 hv hsm n 0 _ _ _ _ (by omega) hc2 (hfA.kf hk2) (hsA.kf hk2)
  refine ⟨I4, J4, va4, v4, _, _, eX5_readSibling_15_10 hFC ⟨_, _, tw, fun q => absurd q (by decide), fun _ => ⟨_, _, eX5_takeNewName_15_10 ⟨fun _ => ⟨fun q => absurd q yI, fun _ => ⟨_, _, fa, fun _ => ⟨_, pn, _, n2, rfl, rfl⟩, fun q => absurd rfl q⟩⟩, fun q => absurd (hI.mpr rfl) q⟩, fun _ => a4, fun q => absurd q (by decide)⟩⟩, eY11_parseNewSibling_0 ⟨fun _ => ⟨_, m1, _, _, sw, fun _ => ⟨_, _, fb, fun _ => ?_, fun q => absurd rfl q⟩, fun q => absurd q (by decide)⟩, fun q => absurd q j16⟩, hf4, hc4, hs4, fun i => (if_pos rfl).trans (congrFun hj1 (ta (p + 1) + i)), fun s hs i => if_neg (by omega)⟩
  rw [s3, sp_ixn, nI_clamp (by omega), eJ, ← sp_ixn]
  refine ⟨by rw [sp_ixn]; exact vp_in_nI (by omega) (by omega), ?_⟩
  rw [show (cw_st J1 1 (26 + k * 31) (nI ((te (p + 1)) - (ta (p + 1))))) 0 17 = nI (ta (p + 1)) from h6]
  refine sr_copyName (K := K) (s := k) (len := (te (p + 1)) - (ta (p + 1))) (by omega) y (by omega) ?_ h6 ⟨J2, ?_, b4⟩
  · show J1 0 15 = _
    rw [h4, show (ta (p + 1)) + ((te (p + 1)) - (ta (p + 1))) = (te (p + 1)) by omega]
  · rw [show (cw_st J1 1 (26 + k * 31) (nI ((te (p + 1)) - (ta (p + 1))))) 1 = upd (J1 1) (26 + k * 31) (nI ((te (p + 1)) - (ta (p + 1)))) by simp [cw_st, cw_up]]
    exact m2
end ZS
