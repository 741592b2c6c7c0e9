/-! ## the first setup is read: its siblings, the setup -/
section ZS
variable {K : cw_K} {I J I0 J0 : cw_M} {L k n a len : Nat} {T : Nat → Int32} {tk ta te : Nat → Nat} {v : Nat → Nat → Nat} {nl : Nat → Nat} {nb : Nat → Nat → Int32}
/-- no name begins as the word at a -/
theorem zt_new (hk : k ≤ 6) (k1 : I 10 1 = nI k) (k2 : J 1 1 = nI k) (hN : sp_NM k nl nb (I 11) (I 12)) (hB : sp_NB k nl nb (J 1)) (hT : ∀ j, j < L → I 2 j = J 3 j) (hL : L ≤ 600) (ha : a + len ≤ L) (hlen : 0 < len) (hne : ∀ s, s < k → nb s 0 ≠ J 3 a) : ∀ d s : Nat, s + d = k → bX1_findName_10_1_3 K (some (.int (-1))) I (nI a) (nI len) (nI s) I ∧ bY11_siblingNamed_0_2 K (some (.int (-1))) J (nI a) (nI len) (nI s) J := by
  intro d
  induction d with
  | zero =>
    intro s hs
    have e0 : s = k := by omega
    rw [e0]
    exact ⟨tbX1_findName_10_1_3 (br_t (by rw [k1]; exact Int32.le_refl _) ⟨rfl, rfl⟩), tbY11_siblingNamed_0_2 (br_t (by rw [k2]; exact Int32.le_refl _) ⟨rfl, rfl⟩)⟩
  | succ d ih =>
    intro s hs
    have hsk : s < k := by omega
    have z1 : ¬ I 10 1 ≤ nI s := by rw [k1]; exact fun z => absurd ((nI_leI (by omega) (by omega)).mp z) (by omega)
    have z2 : ¬ J 1 1 ≤ nI s := by rw [k2]; exact fun z => absurd ((nI_leI (by omega) (by omega)).mp z) (by omega)
    obtain ⟨a1, b1⟩ := ih (s + 1) (by omega)
    have b2 : bY11_siblingNamed_0_2 K (some (.int (-1))) J (nI a) (nI len) (nI s + 1) J := by rw [nI_1]; exact b1
    have a2 : bX1_findName_10_1_3 K (some (.int (-1))) I (nI a) (nI len) (nI s + 1) I := by rw [nI_1]; exact a1
    have i0 : vp_in (nI s) 6 := vp_in_nI (by omega) (by omega)
    have i1 : vp_in (26 + nI s * 31) 2120 := by rw [sp_ixn]; exact vp_in_nI (by omega) (by omega)
    have h6 := (hN s hsk).1
    have e1 : I 12 (nI s).toNatClampNeg = nI (nl s) := by rw [nI_clamp (by omega)]; exact (hN s hsk).2.1
    have e2 : J 1 (26 + nI s * 31).toNatClampNeg = nI (nl s) := by rw [sp_ixn, nI_clamp (by omega)]; exact (hB s hsk).1
    by_cases y : nl s = len
    · have x0 : ¬ nI len ≤ nI 0 := fun z => absurd ((nI_leI (by omega) (by omega)).mp z) (by omega)
      have j1 : vp_in (nI s * 6 + nI 0) 36 := by rw [sp_6]; exact vp_in_nI (by omega) (by omega)
      have j2 : vp_in (nI a + nI 0) 600 := by rw [nI_add]; exact vp_in_nI (by omega) (by omega)
      have j3 : vp_in (26 + nI s * 31 + 1 + nI 0) 2120 := by rw [sp_ixn2]; exact vp_in_nI (by omega) (by omega)
      have f1 : I 11 (nI s * 6 + nI 0).toNatClampNeg = nb s 0 := by rw [sp_6, nI_clamp (by omega)]; exact (hN s hsk).2.2 0 (by omega)
      have f2 : I 2 (nI a + nI 0).toNatClampNeg = J 3 (nI a + nI 0).toNatClampNeg := by rw [nI_add, nI_clamp (by omega)]; exact hT _ (by omega)
      have f3 : J 1 (26 + nI s * 31 + 1 + nI 0).toNatClampNeg = nb s 0 := by rw [sp_ixn2, nI_clamp (by omega)]; exact (hB s hsk).2 0 (by omega)
      have w : ¬ nb s 0 = J 3 (nI a + nI 0).toNatClampNeg := by rw [nI_add, nI_clamp (by omega)]; exact hne s hsk
      have a3 : bX1_isName_10_1_16 K (some (.int 0)) I (nI s) (nI a) (nI len) (nI 0) I := tbX1_isName_10_1_16 (br_f x0 ⟨j1, j2, fun q => absurd (by rw [f1, f2] at q; exact q) w, fun _ => ⟨rfl, rfl⟩⟩)
      have b3 : bY11_siblingNamed_0_42 K (some (.int (-1))) J (nI a) (nI len) (nI s) (26 + nI s * 31) 1 (nI 0) J := tbY11_siblingNamed_0_42 ⟨fun q => absurd q (by decide), fun _ => br_f x0 ⟨j3, j2, fun _ => tbY11_siblingNamed_0_42 ⟨fun _ => ⟨fun _ => b2, fun q => absurd rfl q⟩, fun q => absurd rfl q⟩, fun q => absurd (by rw [f3] at q; exact q) w⟩⟩
      have g1 : cw_C (cc_w K) mX1_isName [.ref (cw_a (cc_w K) 10), .int (nI s), .ref (cw_a (cc_w K) 1), .int (nI a), .int (nI len)] I (some (.int 0)) I := eX1_isName_10_1 ⟨i0, fun _ => a3, fun q => absurd (by rw [e1, y]) q⟩
      exact ⟨tbX1_findName_10_1_3 (br_f z1 ⟨_, _, g1, fun _ => a2, fun q => absurd rfl q⟩), tbY11_siblingNamed_0_2 (br_f z2 ⟨i1, fun q => absurd (by rw [e2, y]) q, fun _ => b3⟩)⟩
    · have y2 : ¬ nI (nl s) = nI len := fun q => y ((nI_eq (by omega) (by omega)).mp q)
      have g1 : cw_C (cc_w K) mX1_isName [.ref (cw_a (cc_w K) 10), .int (nI s), .ref (cw_a (cc_w K) 1), .int (nI a), .int (nI len)] I (some (.int 0)) I := eX1_isName_10_1 ⟨i0, fun q => absurd (by rw [e1] at q; exact q) y2, fun _ => ⟨rfl, rfl⟩⟩
      exact ⟨tbX1_findName_10_1_3 (br_f z1 ⟨_, _, g1, fun _ => a2, fun q => absurd rfl q⟩), tbY11_siblingNamed_0_2 (br_f z2 ⟨i1, fun _ => tbY11_siblingNamed_0_42 ⟨fun _ => ⟨fun _ => b2, fun q => absurd rfl q⟩, fun q => absurd rfl q⟩, fun q => absurd (by rw [e2] at q; exact q) y2⟩)⟩
/-- the values of a sibling: tokens p, p + 1 .. -/
theorem zt_vals (hk : k < 6) {p : Nat} (hx : ∀ j, p ≤ j → j ≤ p + n → zt_tok T L (te j) (tk (j + 1)) (ta (j + 1)) (te (j + 1))) (hJ0 : J0 3 = T) (hv : ∀ i, i < n → tk (p + i) = 2 ∧ ∃ d, d ≤ 9 ∧ tp_nv T (ta (p + i)) (te (p + i) - ta (p + i)) = nI d) (hsm : tk (p + n) = 3) : ∀ (d i : Nat) (I J : cw_M) (v : Nat → Nat → Nat) (va : Int32), i + d = n → cu L (tk (p + i)) (ta (p + i)) (te (p + i)) va I J → fs I0 J0 I J → su n (k + 1) k i v nl nb I J → ∃ I2 J2, bX5_readSibling_15_10_22 K (some (.int 1)) I2 (nI k) (nI i) I ∧ bY11_parseNewSibling_0_131 K (some (.int 1)) J2 (26 + nI k * 31) (nI i) J ∧ fs I0 J0 I2 J2 ∧ (∃ va2, cu L (tk (p + n + 1)) (ta (p + n + 1)) (te (p + n + 1)) va2 I2 J2) ∧ ∃ v2, su n (k + 1) (k + 1) 0 v2 nl nb I2 J2 := by
  intro d
  induction d with
  | zero =>
    intro i I J v va hi hc hf hs
    have hs0 := hs
    obtain ⟨s1, s2, s3, s4, s5, s6, s7, s8, s9, s10⟩ := hs0
    have e0 : i = n := by omega
    rw [e0, hsm] at hc
    have hj : J 3 = T := (hf.2.1 3 (by omega) (by omega)).trans hJ0
    have hx1 := hx (p + n) (by omega) (Nat.le_refl _)
    rw [← hj] at hx1
    obtain ⟨va2, I2, J2, a1, b1, hcu, hk2⟩ := zt_semi (K := K) hc hx1
    have cI : I 10 0 ≤ nI i := by rw [s1, e0]; exact Int32.le_refl _
    have cJ : J 1 0 ≤ nI i := by rw [s2, e0]; exact Int32.le_refl _
    have hs2 := hs.kf hk2
    obtain ⟨t1, t2, t3, t4, t5, t6, t7, t8, t9, t10⟩ := hs2
    have hf2 := hf.kf hk2
    have hlow : ∀ j, j ≠ 1 → upd (J2 1) 1 (nI (k + 1)) j = J2 1 j := fun j hj => sp_upd_ne _ _ hj
    have e3 : J2 1 1 + 1 = nI (k + 1) := by rw [t3, nI_1]
    refine ⟨I2, cw_st J2 1 1 (nI (k + 1)), tbX5_readSibling_15_10_22 (br_t cI ⟨_, _, a1, Or.inr rfl, rfl, rfl⟩), tbY11_parseNewSibling_0_131 (br_t cJ ⟨_, _, b1, fun _ => ⟨rfl, by rw [e3]⟩, fun q => absurd q (by decide)⟩), hf2.J (fun j hj => hlow j (by omega)), ⟨va2, hcu⟩, v, t1, ?_, ?_, t4, t5, t6, t7, ?_, ?_, ?_⟩
    · exact (hlow 0 (by omega)).trans t2
    · exact sp_st_at J2 1 1 _
    · exact fun s hs => ⟨(hlow _ (by omega)).trans (t8 s hs).1, fun i hi => (hlow _ (by omega)).trans ((t8 s hs).2 i hi)⟩
    · intro s c hcn hh
      have h9 := t9 s c hcn (by omega)
      exact ⟨h9.1, h9.2.1, (hlow _ (by omega)).trans h9.2.2⟩
    · exact fun c hc => (hlow _ (by omega)).trans (t10 c hc)
  | succ d ih =>
    intro i I J v va hi hc hf hs
    have hs0 := hs
    obtain ⟨s1, s2, s3, s4, s5, s6, s7, s8, s9, s10⟩ := hs0
    have cI : ¬ I 10 0 ≤ nI i := by rw [s1]; exact fun z => absurd ((nI_leI (by omega) (by omega)).mp z) (by omega)
    have cJ : ¬ J 1 0 ≤ nI i := by rw [s2]; exact fun z => absurd ((nI_leI (by omega) (by omega)).mp z) (by omega)
    obtain ⟨hkd, x, hx9, hxv⟩ := hv i (by omega)
    have hj : J 3 = T := (hf.2.1 3 (by omega) (by omega)).trans hJ0
    have hx1 := hx (p + i) (by omega) (by omega)
    rw [← hj] at hx1 hxv
    rw [hkd] at hc
    obtain ⟨va2, I2, J2, a1, b1, h5, hcu, hk2⟩ := zt_ranged (K := K) hc hx1 (to := 33 + k * 31 + i) (lo := 0) (hi := 9) (by omega) hxv (by omega) hx9 (by omega)
    rw [← sp_ixr] at b1
    have eJ : J2 1 = upd (J 1) (33 + k * 31 + i) (nI x) := by rw [hk2.2.1 1 (by omega)]; simp [cw_st, cw_up]
    have hlow : ∀ j, j ≠ 33 + k * 31 + i → J2 1 j = J 1 j := fun j hj => by rw [eJ]; exact sp_upd_ne _ _ hj
    have eI : ∀ o, o ≠ 15 → I2 o = I o := hk2.1
    have hf1 : fs I0 J0 I (cw_st J 1 (33 + k * 31 + i) (nI x)) := hf.J (fun j hj => sp_upd_ne _ _ (by omega))
    have hf3 : fs I0 J0 (cw_st I2 13 (k * 24 + i) (nI x)) J2 := (hf1.kf hk2).I (o := 13) (by omega) _
    have e13 : ∀ j, j ≠ k * 24 + i → upd (I2 13) (k * 24 + i) (nI x) j = I 13 j := fun j hj => by rw [sp_upd_ne _ _ hj, eI 13 (by omega)]
    have hs3 : su n (k + 1) k (i + 1) (fun s c => if s = k ∧ c = i then x else v s c) nl nb (cw_st I2 13 (k * 24 + i) (nI x)) J2 := by
      refine ⟨?_, (hlow 0 (by omega)).trans s2, (hlow 1 (by omega)).trans s3, s4, s5, s6, ?_, fun s hs => ⟨(hlow _ (by omega)).trans (s8 s hs).1, fun i hi => ?_⟩, fun s c hcn hh => ?_, fun c hc => (hlow _ (by omega)).trans (s10 c hc)⟩
      · show I2 10 0 = nI n
        rw [eI 10 (by omega)]; exact s1
      · show sp_NM (k + 1) nl nb (I2 11) (I2 12)
        rw [eI 11 (by omega), eI 12 (by omega)]; exact s7
      · have h6 := (s7 s hs).1
        exact (hlow _ (by omega)).trans ((s8 s hs).2 i hi)
      · show (if s = k ∧ c = i then x else v s c) ≤ 9 ∧ upd (I2 13) (k * 24 + i) (nI x) (s * 24 + c) = nI (if s = k ∧ c = i then x else v s c) ∧ J2 1 (33 + s * 31 + c) = nI (if s = k ∧ c = i then x else v s c)
        by_cases w : s = k ∧ c = i
        · obtain ⟨rfl, rfl⟩ := w
          rw [if_pos ⟨rfl, rfl⟩, sp_upd_same, eJ, sp_upd_same]
          exact ⟨hx9, rfl, rfl⟩
        · have h9 := s9 s c hcn (by omega)
          rw [if_neg w, e13 _ (by omega), hlow _ (by omega)]
          exact h9
    have hcu3 : cu L (tk (p + (i + 1))) (ta (p + (i + 1))) (te (p + (i + 1))) va2 (cw_st I2 13 (k * 24 + i) (nI x)) J2 := hcu
    obtain ⟨I4, J4, a4, b4, ho4⟩ := ih (i + 1) _ _ _ _ (by omega) hcu3 hf3 hs3
    refine ⟨I4, J4, tbX5_readSibling_15_10_22 (br_f cI ⟨_, _, a1, fun _ => ⟨_, eX1_putValue_10 ⟨?_, rfl, rfl⟩, ?_⟩, fun q => absurd q (by decide)⟩), tbY11_parseNewSibling_0_131 (br_f cJ ⟨_, _, b1, fun _ => ?_, fun q => absurd q (by decide)⟩), ho4⟩
    · rw [sp_24]; exact vp_in_nI (by omega) (by omega)
    · rw [sp_24, nI_clamp (by omega), h5, nI_1]; exact a4
    · rw [nI_1]; exact b4
/-- one sibling, its word the token p -/
theorem zt_sib (hFC : cw_FC K) (hk : k < 6) {p : Nat} {va : Int32} (hx : ∀ j, p ≤ j → j ≤ p + 2 + n → zt_tok T L (te j) (tk (j + 1)) (ta (j + 1)) (te (j + 1))) (hJ0 : J0 3 = T) (hn1 : tk (p + 1) = 1) (hn6 : te (p + 1) - ta (p + 1) ≤ 6) (hv : ∀ i, i < n → tk (p + 2 + i) = 2 ∧ ∃ d, d ≤ 9 ∧ tp_nv T (ta (p + 2 + i)) (te (p + 2 + i) - ta (p + 2 + i)) = nI d) (hsm : tk (p + 2 + n) = 3) (hne : ∀ s, s < k → nb s 0 ≠ T (ta (p + 1))) (hc : cu L (tk p) (ta p) (te p) va I J) (hf : fs I0 J0 I J) (hs : su n k k 0 v nl nb I J) (h101 : I 10 1 = nI k) (hw : cw_C (cc_w K) mX5_isWord [.ref (cw_a (cc_w K) 15), .ref (cw_sd K 1)] I (some (.int 1)) I) : ∃ I2 J2 va2 v2 nl2 nb2, cw_C (cc_w K) mX5_readSibling [.ref (cw_a (cc_w K) 15), .ref (cw_a (cc_w K) 10), .int (nI k)] I (some (.int 1)) I2 ∧ rw_C K mY11_parseNewSibling [.ref (cw_a (cc_w K) 0)] J (some (.int 1)) J2 ∧ fs I0 J0 I2 J2 ∧ cu L (tk (p + 2 + n + 1)) (ta (p + 2 + n + 1)) (te (p + 2 + n + 1)) va2 I2 J2 ∧ su n (k + 1) (k + 1) 0 v2 nl2 nb2 I2 J2 ∧ nb2 k 0 = T (ta (p + 1)) ∧ ∀ s, s < k → nb2 s 0 = nb s 0 := by
  have hj : J 3 = T := (hf.2.1 3 (by omega) (by omega)).trans hJ0
  have hx0 := hx p (by omega) (by omega)
  rw [hn1, ← hj] at hx0
  obtain ⟨va1, I1, J1, n1, m1, hc1, hk1, _⟩ := zt_step (K := K) hc hx0
  have hf1 := hf.kf hk1
  have hs1 := hs.kf hk1
  have hs0 := hs1
  obtain ⟨s1, s2, s3, s4, s5, s6, s7, s8, s9, s10⟩ := hs0
  have h3 : J 1 1 = nI k := hs.2.2.1
  have j16 : ¬ J 1 1 = 6 := by rw [h3]; exact fun q => absurd ((nI_eq (b := 6) (by omega) (by omega)).mp q) (by omega)
  have tw : cw_C (cc_w K) mX5_takeWord [.ref (cw_a (cc_w K) 15), .ref (cw_sd K 1)] I (some (.int 1)) I1 := eX5_takeWord_15 ⟨_, _, hw, fun _ => ⟨_, n1, rfl, rfl⟩, fun q => absurd q (by decide)⟩
  have hI := cu_cI hc1 (c := 1) (by omega)
  have hJ := cu_cJ hc1 (c := 1) (by omega)
  have hc0 := hc1
  obtain ⟨⟨hL, _, _, t4⟩, ⟨g1, g2, g3⟩, h1, h2, h3', h4, h5, h6, h7, h8⟩ := hc0
  have eI : I1 15 4 - I1 15 3 = nI (te (p + 1) - ta (p + 1)) := by rw [h2, h3']; exact sp_sub g1
  have eJ : J1 0 15 - J1 0 17 = nI (te (p + 1) - ta (p + 1)) := by rw [h4, h6]; exact sp_sub g1
  have hlt : ta (p + 1) < te (p + 1) := by rcases g3 with g3 | g3 | g3 | g3 | g3 <;> omega
  have hj1 : J1 3 = T := (hf1.2.1 3 (by omega) (by omega)).trans hJ0
  have y := hn6
  have yI : ¬ 6 < I1 15 4 - I1 15 3 := by rw [eI]; exact fun q => absurd ((nI_ltI (a := 6) (by omega) (by omega)).mp q) (by omega)
  have yJ : J1 0 15 - J1 0 17 ≤ 6 := by rw [eJ]; exact nI_le (b := 6) y (by omega)
  have k1 : I1 10 1 = nI k := by rw [hk1.1 10 (by omega)]; exact h101
  obtain ⟨fa0, fb0⟩ := zt_new (K := K) (a := ta (p + 1)) (len := te (p + 1) - ta (p + 1)) (by omega) k1 s3 s7 s8 t4 hL (by omega) (by omega) (by rw [hj1]; exact hne) k 0 (by omega)
  have fa := eX1_findName_10_1 fa0
  have fb := eY11_siblingNamed_0 fb0
  rw [← eI, ← h2] at fa
  rw [← eJ, ← h6] at fb
  have sw : rw_C K mY11_isShortWord [.ref (cw_a (cc_w K) 0)] J1 (some (.int 1)) J1 := eY11_isShortWord_0 ⟨fun _ => ⟨fun _ => ⟨rfl, rfl⟩, fun q => absurd yJ q⟩, fun q => absurd (hJ.mpr rfl) q⟩
  have pn : cw_C (cc_w K) mX1_putName [.ref (cw_a (cc_w K) 10), .int (nI k), .ref (cw_a (cc_w K) 1), .int (I1 15 3), .int (I1 15 4 - I1 15 3)] I1 none (cw_st (cw_up I1 11 (nm_c (I1 11) (I1 2) (k * 6) (ta (p + 1)) (te (p + 1) - ta (p + 1)))) 12 k (nI (te (p + 1) - ta (p + 1)))) := by
    rw [eI, h2]
    exact sc_putName (K := K) (I := I1) (a := ta (p + 1)) (s := k) (len := te (p + 1) - ta (p + 1)) hk y (by omega)
  have hx1 := hx (p + 1) (by omega) (by omega)
  rw [← hj1] at hx1
  have hcA : cu L 1 (ta (p + 1)) (te (p + 1)) va1 (cw_st (cw_up I1 11 (nm_c (I1 11) (I1 2) (k * 6) (ta (p + 1)) ((te (p + 1)) - (ta (p + 1))))) 12 k (nI ((te (p + 1)) - (ta (p + 1))))) (cw_up (cw_st J1 1 (26 + k * 31) (nI ((te (p + 1)) - (ta (p + 1))))) 1 (nm_c (upd (J1 1) (26 + k * 31) (nI ((te (p + 1)) - (ta (p + 1))))) (J1 3) (27 + k * 31) (ta (p + 1)) ((te (p + 1)) - (ta (p + 1))))) := hc1
  have hlow : ∀ j, j ≠ 26 + k * 31 → ¬ (27 + k * 31 ≤ j ∧ j < 27 + k * 31 + ((te (p + 1)) - (ta (p + 1)))) → nm_c (upd (J1 1) (26 + k * 31) (nI ((te (p + 1)) - (ta (p + 1))))) (J1 3) (27 + k * 31) (ta (p + 1)) ((te (p + 1)) - (ta (p + 1))) j = J1 1 j := fun j hj hj2 => by
    unfold nm_c
    rw [if_neg hj2, sp_upd_ne _ _ hj]
  have hfA : fs I0 J0 (cw_st (cw_up I1 11 (nm_c (I1 11) (I1 2) (k * 6) (ta (p + 1)) ((te (p + 1)) - (ta (p + 1))))) 12 k (nI ((te (p + 1)) - (ta (p + 1))))) (cw_up (cw_st J1 1 (26 + k * 31) (nI ((te (p + 1)) - (ta (p + 1))))) 1 (nm_c (upd (J1 1) (26 + k * 31) (nI ((te (p + 1)) - (ta (p + 1))))) (J1 3) (27 + k * 31) (ta (p + 1)) ((te (p + 1)) - (ta (p + 1))))) := by
    rw [sp_upup]
    exact ((hf1.I (o := 11) (by omega) _).I (o := 12) (by omega) _).J (fun j hj => hlow j (by omega) (by omega))
  have hsA : su n (k + 1) k 0 v (fun s => if s = k then (te (p + 1)) - (ta (p + 1)) else nl s) (fun s i => if s = k then J1 3 ((ta (p + 1)) + i) else nb s i) (cw_st (cw_up I1 11 (nm_c (I1 11) (I1 2) (k * 6) (ta (p + 1)) ((te (p + 1)) - (ta (p + 1))))) 12 k (nI ((te (p + 1)) - (ta (p + 1))))) (cw_up (cw_st J1 1 (26 + k * 31) (nI ((te (p + 1)) - (ta (p + 1))))) 1 (nm_c (upd (J1 1) (26 + k * 31) (nI ((te (p + 1)) - (ta (p + 1))))) (J1 3) (27 + k * 31) (ta (p + 1)) ((te (p + 1)) - (ta (p + 1))))) := by
    refine ⟨s1, (hlow 0 (by omega) (by omega)).trans s2, (hlow 1 (by omega) (by omega)).trans s3, s4, s5, by omega, fun s hs => ?_, fun s hs => ?_, fun s c hcn hh => ?_, fun c hc => (hlow _ (by omega) (by omega)).trans (s10 c hc)⟩
    · show (if s = k then (te (p + 1)) - (ta (p + 1)) else nl s) ≤ 6 ∧ upd (I1 12) k (nI ((te (p + 1)) - (ta (p + 1)))) s = nI (if s = k then (te (p + 1)) - (ta (p + 1)) else nl s) ∧ ∀ i, i < (if s = k then (te (p + 1)) - (ta (p + 1)) else nl s) → nm_c (I1 11) (I1 2) (k * 6) (ta (p + 1)) ((te (p + 1)) - (ta (p + 1))) (s * 6 + i) = (if s = k then J1 3 ((ta (p + 1)) + i) else nb s i)
      by_cases w : s = k
      · subst w
        simp only [if_true]
        refine ⟨y, sp_upd_same _ _ _, fun i hi => ?_⟩
        unfold nm_c
        rw [if_pos (by omega), show (ta (p + 1)) + (s * 6 + i - s * 6) = (ta (p + 1)) + i by omega]
        exact t4 _ (by omega)
      · simp only [if_neg w]
        have h7 := s7 s (by omega)
        refine ⟨h7.1, (sp_upd_ne _ _ w).trans h7.2.1, fun i hi => ?_⟩
        unfold nm_c
        rw [if_neg (by omega)]
        exact h7.2.2 i hi
    · show nm_c (upd (J1 1) (26 + k * 31) (nI ((te (p + 1)) - (ta (p + 1))))) (J1 3) (27 + k * 31) (ta (p + 1)) ((te (p + 1)) - (ta (p + 1))) (26 + s * 31) = nI (if s = k then (te (p + 1)) - (ta (p + 1)) else nl s) ∧ ∀ i, i < (if s = k then (te (p + 1)) - (ta (p + 1)) else nl s) → nm_c (upd (J1 1) (26 + k * 31) (nI ((te (p + 1)) - (ta (p + 1))))) (J1 3) (27 + k * 31) (ta (p + 1)) ((te (p + 1)) - (ta (p + 1))) (27 + s * 31 + i) = (if s = k then J1 3 ((ta (p + 1)) + i) else nb s i)
      by_cases w : s = k
      · subst w
        simp only [if_true]
        refine ⟨?_, fun i hi => ?_⟩
        · unfold nm_c
          rw [if_neg (by omega), sp_upd_same]
        · unfold nm_c
          rw [if_pos (by omega), show (ta (p + 1)) + (27 + s * 31 + i - (27 + s * 31)) = (ta (p + 1)) + i by omega]
      · simp only [if_neg w]
        have h7 := s7 s (by omega)
        have h8 := s8 s (by omega)
        refine ⟨(hlow _ (by omega) (by omega)).trans h8.1, fun i hi => (hlow _ (by omega) (by omega)).trans (h8.2 i hi)⟩
    · have h9 := s9 s c hcn hh
      exact ⟨h9.1, h9.2.1, (hlow _ (by omega) (by omega)).trans h9.2.2⟩
  obtain ⟨va2, I2, J2, n2, m2, hc2, hk2, _⟩ := zt_step (K := K) hcA hx1
  obtain ⟨I4, J4, a4, b4, hf4, ⟨va4, hc4⟩, v4, hs4⟩ := zt_vals (K := K) (T := T) (tk := tk) (ta := ta) (te := te) (p := p + 2) hk (fun j h1 h2 => hx j (by omega) (by omega)) hJ0 hv hsm n 0 _ _ _ _ (by omega) hc2 (hfA.kf hk2) (hsA.kf hk2)
  refine ⟨I4, J4, va4, v4, _, _, eX5_readSibling_15_10 hFC ⟨_, _, tw, fun q => absurd q (by decide), fun _ => ⟨_, _, eX5_takeNewName_15_10 ⟨fun _ => ⟨fun q => absurd q yI, fun _ => ⟨_, _, fa, fun _ => ⟨_, pn, _, n2, rfl, rfl⟩, fun q => absurd rfl q⟩⟩, fun q => absurd (hI.mpr rfl) q⟩, fun _ => a4, fun q => absurd q (by decide)⟩⟩, eY11_parseNewSibling_0 ⟨fun _ => ⟨_, m1, _, _, sw, fun _ => ⟨_, _, fb, fun _ => ?_, fun q => absurd rfl q⟩, fun q => absurd q (by decide)⟩, fun q => absurd q j16⟩, hf4, hc4, hs4, (if_pos rfl).trans (congrFun hj1 (ta (p + 1))), fun s hs => if_neg (by omega)⟩
  rw [s3, sp_ixn, nI_clamp (by omega), eJ, ← sp_ixn]
  refine ⟨by rw [sp_ixn]; exact vp_in_nI (by omega) (by omega), ?_⟩
  rw [show (cw_st J1 1 (26 + k * 31) (nI ((te (p + 1)) - (ta (p + 1))))) 0 17 = nI (ta (p + 1)) from h6]
  refine sr_copyName (K := K) (s := k) (len := (te (p + 1)) - (ta (p + 1))) (by omega) y (by omega) ?_ h6 ⟨J2, ?_, b4⟩
  · show J1 0 15 = _
    rw [h4, show (ta (p + 1)) + ((te (p + 1)) - (ta (p + 1))) = (te (p + 1)) by omega]
  · rw [show (cw_st J1 1 (26 + k * 31) (nI ((te (p + 1)) - (ta (p + 1))))) 1 = upd (J1 1) (26 + k * 31) (nI ((te (p + 1)) - (ta (p + 1)))) by simp [cw_st, cw_up]]
    exact m2
end ZS
