/-! ## a setup of n cells and m siblings whose tokens are known is read -/
/-- the tokens of the siblings: tk s r the kind of the r-th of sibling s, from ta to te; r = n + 3: what follows -/
def zs_ok (T : Nat → Int32) (L n m : Nat) (tk ta te : Nat → Nat → Nat) : Prop :=
  (∀ s, s < m → (∀ r, r ≤ 2 + n → zt_tok T L (te s r) (tk s (r + 1)) (ta s (r + 1)) (te s (r + 1))) ∧ tk s 0 = 1 ∧ te s 0 - ta s 0 = (cw_tx 1).length ∧ (∀ i, i < (cw_tx 1).length → T (ta s 0 + i) = (cw_tx 1).getD i 0) ∧ tk s 1 = 1 ∧ te s 1 - ta s 1 ≤ 6 ∧ tk s (2 + n) = 3 ∧ (∀ i, i < n → tk s (2 + i) = 2 ∧ ∃ d, d ≤ 9 ∧ tp_nv T (ta s (2 + i)) (te s (2 + i) - ta s (2 + i)) = nI d) ∧ ∀ r, r < s → ∃ i, i < te s 1 - ta s 1 ∧ i < te r 1 - ta r 1 ∧ T (ta r 1 + i) ≠ T (ta s 1 + i)) ∧ (∀ s, s + 1 < m → tk s (3 + n) = tk (s + 1) 0 ∧ ta s (3 + n) = ta (s + 1) 0 ∧ te s (3 + n) = te (s + 1) 0) ∧ tk (m - 1) (3 + n) = 0
/-- what was read -/
def zs_o (n m : Nat) (I0 J0 I2 J2 : cw_M) : Prop := fs I0 J0 I2 J2 ∧ I2 10 1 = nI m ∧ ∃ v nl nb, su n m m 0 v nl nb I2 J2
section ZS
variable {K : cw_K} {I J I0 J0 : cw_M} {T : Nat → Int32} {L n m : Nat} {tk ta te : Nat → Nat → Nat}
theorem zs_sibs (hFS : cw_FS (cw_Fc K) (cw_sd K) (cw_sv K)) (hFC : cw_FC K) (hJ0 : J0 3 = T) (hm : m ≤ 6) (hz : zs_ok T L n m tk ta te) : ∀ (d k : Nat) (I J : cw_M) (v : Nat → Nat → Nat) (nl : Nat → Nat) (nb : Nat → Nat → Int32) (va : Int32), k + d = m → cu L (tk k 0) (ta k 0) (te k 0) va I J → fs I0 J0 I J → su n k k 0 v nl nb I J → (∀ s, s < k → ∀ i, nb s i = T (ta s 1 + i)) → d ≠ 0 → ∃ I2 J2, bX5_readSetup_15_10_44 K (some (.int 1)) I2 (nI k) I ∧ zs_o n m I0 J0 I2 J2 := by
  obtain ⟨z1, z2, z3⟩ := hz
  intro d
  induction d with
  | zero => exact fun k I J v nl nb va _ _ _ _ _ h => absurd rfl h
  | succ d ih =>
    intro k I J v nl nb va hk hc hf hs hb _
    have hk3 : k < m := by omega
    obtain ⟨w0, w1, w2, w3, w4, w5, w6, w6b, w7⟩ := z1 k hk3
    have c1 : ¬ (6 : Int32) ≤ nI k := fun z => absurd ((nI_leI (a := 6) (by omega) (by omega)).mp z) (by omega)
    have hcA : cu L (tk k 0) (ta k 0) (te k 0) va (cw_st I 10 1 (nI k)) J := hc
    have hfA : fs I0 J0 (cw_st I 10 1 (nI k)) J := hf.I (o := 10) (by omega) _
    have hsA : su n k k 0 v nl nb (cw_st I 10 1 (nI k)) J := hs
    have hj : J 3 = T := (hf.2.1 3 (by omega) (by omega)).trans hJ0
    have hcB := hcA
    rw [w1] at hcB
    obtain ⟨wa, -⟩ := zt_isWord (K := K) hFS hcB (j := 1) (by omega) w2 (by rw [hj]; exact w3)
    obtain ⟨I2, J2, va2, v2, nl2, nb2, a1, -, hf2, hc2, hs2, hb2, hb3⟩ := zn_sib (K := K) (T := T) (tk := tk k) (ta := ta k) (te := te k) (p := 0) (n := n) hFC (show k < 6 by omega) (fun j h1 h2 => w0 j (by omega)) hJ0 w4 w5 (fun i hi => by rw [show 0 + 2 + i = 2 + i by omega]; exact w6b i hi) (by rw [show 0 + 2 + n = 2 + n by omega]; exact w6) (fun s hs => by
      obtain ⟨i, y1, y2, y3⟩ := w7 s hs
      exact ⟨i, y1, by rw [hb s hs i]; exact y3⟩) hcA hfA hsA rfl wa
    rw [show 0 + 2 + n + 1 = 3 + n by omega] at hc2
    have hc3 : cu L (tk k (3 + n)) (ta k (3 + n)) (te k (3 + n)) va2 (cw_st I2 10 1 (nI (k + 1))) J2 := hc2
    have hf3 : fs I0 J0 (cw_st I2 10 1 (nI (k + 1))) J2 := hf2.I (o := 10) (by omega) _
    have hs3 : su n (k + 1) (k + 1) 0 v2 nl2 nb2 (cw_st I2 10 1 (nI (k + 1))) J2 := hs2
    have hI0 := cu_cI hc3 (c := 0) (by omega)
    by_cases z : d = 0
    · have e2 : k = m - 1 := by omega
      have hz : tk k (3 + n) = 0 := by rw [e2]; exact z3
      refine ⟨_, J2, tbX5_readSetup_15_10_44 hFC (br_f c1 ⟨_, _, a1, fun _ => ⟨fun q => absurd ?_ q, fun _ => ⟨rfl, ?_⟩⟩, fun q => absurd q (by decide)⟩), hf3, ?_, v2, nl2, nb2, ?_⟩
      · rw [nI_1]; exact hI0.mpr hz
      · rw [nI_1]
      · rw [show m = k + 1 by omega]; rfl
      · rw [show m = k + 1 by omega]; exact hs3
    · obtain ⟨y1, y2, y3⟩ := z2 k (by omega)
      have hz : ¬ tk k (3 + n) = 0 := by rw [y1, (z1 (k + 1) (by omega)).2.1]; decide
      rw [y1, y2, y3] at hc3
      have hb4 : ∀ s, s < k + 1 → ∀ i, nb2 s i = T (ta s 1 + i) := fun s hs i => by
        by_cases w : s = k
        · rw [w]; exact hb2 i
        · rw [hb3 s (by omega) i]; exact hb s (by omega) i
      obtain ⟨I4, J4, a4, ho4⟩ := ih (k + 1) _ _ _ _ _ _ (by omega) hc3 hf3 hs3 hb4 z
      refine ⟨I4, J4, tbX5_readSetup_15_10_44 hFC (br_f c1 ⟨_, _, a1, fun _ => ⟨fun _ => ?_, fun q => absurd ?_ hz⟩, fun q => absurd q (by decide)⟩), ho4⟩
      · rw [nI_1]; exact a4
      · rw [nI_1] at q; exact hI0.mp q
theorem zs_setup (hFS : cw_FS (cw_Fc K) (cw_sd K) (cw_sv K)) (hFC : cw_FC K) (hT : sp_TL L I J) (hJ : J 3 = T) (hm1 : 1 ≤ m) (hm : m ≤ 6) (hn1 : 1 ≤ n) (hn : n ≤ 24) {hk ha he : Nat → Nat} (hh : zt_tok T L 0 (hk 0) (ha 0) (he 0) ∧ (∀ j, j < 3 → zt_tok T L (he j) (hk (j + 1)) (ha (j + 1)) (he (j + 1))) ∧ hk 0 = 1 ∧ he 0 - ha 0 = (cw_tx 0).length ∧ (∀ i, i < (cw_tx 0).length → T (ha 0 + i) = (cw_tx 0).getD i 0) ∧ hk 1 = 2 ∧ tp_nv T (ha 1) (he 1 - ha 1) = nI n ∧ hk 2 = 3 ∧ hk 3 = tk 0 0 ∧ ha 3 = ta 0 0 ∧ he 3 = te 0 0) (hz : zs_ok T L n m tk ta te) : ∃ I2 J2, cw_C (cc_w K) mX5_readSetup [.ref (cw_a (cc_w K) 15), .ref (cw_a (cc_w K) 10)] I (some (.int 1)) I2 ∧ zs_o n m I J I2 J2 := by
  have hTb : sp_TL L (cw_st (cw_st (cw_st I 15 0 0) 15 1 (-1)) 15 4 0) (cw_st (cw_st (cw_st J 0 5 0) 0 6 (-1)) 0 15 0) := hT
  obtain ⟨va, hf, ta, tb⟩ := zt_next (K := K) hTb (e0 := 0) rfl rfl (show zt_tok (J 3) L 0 (hk 0) (ha 0) (he 0) by rw [hJ]; exact hh.1)
  obtain ⟨hh0, hha, w1, w2, w3, w4, w5, w6, g1, g2, g3⟩ := hh
  have hx0 : zt_tok T L (he 0) (hk 1) (ha 1) (he 1) := hha 0 (by omega)
  have hx1 : zt_tok T L (he 1) (hk 2) (ha 2) (he 2) := hha 1 (by omega)
  have hx2 : zt_tok T L (he 2) (hk 3) (ha 3) (he 3) := hha 2 (by omega)
  rw [w1] at hf ta tb
  rw [w4] at hx0
  rw [w6] at hx1
  have hc1 : cu L 1 (ha 0) (he 0) va (tp_KI (cw_st (cw_st (cw_st I 15 0 0) 15 1 (-1)) 15 4 0) (nI 1) (nI (ha 0)) (nI (he 0))) (tp_KJ (cw_st (cw_st (cw_st J 0 5 0) 0 6 (-1)) 0 15 0) (nI (he 0)) (tp_ty 1) (nI (ha 0)) va) := ⟨hT, hf, rfl, rfl, rfl, rfl, rfl, rfl, rfl, rfl, rfl⟩
  have hf1 : fs I J (tp_KI (cw_st (cw_st (cw_st I 15 0 0) 15 1 (-1)) 15 4 0) (nI 1) (nI (ha 0)) (nI (he 0))) (tp_KJ (cw_st (cw_st (cw_st J 0 5 0) 0 6 (-1)) 0 15 0) (nI (he 0)) (tp_ty 1) (nI (ha 0)) va) := by
    refine ⟨fun o ho _ => by simp [cw_st, cw_up, ho], fun o ho _ => by simp [cw_st, cw_up, ho], fun p hp h5 h6 => ?_, fun j _ => rfl⟩
    show tp_g (upd (upd (upd (J 0) 5 0) 6 (-1)) 15 0) (nI (he 0)) (tp_ty 1) (nI (ha 0)) va p = J 0 p
    unfold tp_g
    rw [if_neg (by omega), if_neg (by omega), if_neg (by omega), if_neg (by omega), sp_upd_ne _ _ (by omega), sp_upd_ne _ _ h6, sp_upd_ne _ _ h5]
  have ba : cw_C (cc_w K) mX5_begin [.ref (cw_a (cc_w K) 15)] I none (tp_KI (cw_st (cw_st (cw_st I 15 0 0) 15 1 (-1)) 15 4 0) (nI 1) (nI (ha 0)) (nI (he 0))) := eX5_begin_15 ⟨_, ta, rfl, rfl⟩
  have bb : rw_C K mY11_begin [.ref (cw_a (cc_w K) 0)] J none (tp_KJ (cw_st (cw_st (cw_st J 0 5 0) 0 6 (-1)) 0 15 0) (nI (he 0)) (tp_ty 1) (nI (ha 0)) va) := eY11_begin_0 ⟨_, tb, rfl, rfl⟩
  revert ba bb hc1 hf1
  generalize tp_KI (cw_st (cw_st (cw_st I 15 0 0) 15 1 (-1)) 15 4 0) (nI 1) (nI (ha 0)) (nI (he 0)) = I1
  generalize tp_KJ (cw_st (cw_st (cw_st J 0 5 0) 0 6 (-1)) 0 15 0) (nI (he 0)) (tp_ty 1) (nI (ha 0)) va = J1
  intro hc1 hf1 ba bb
  have hc2 : cu L 1 (ha 0) (he 0) va I1 (cw_up J1 1 (zr (J1 1) 212)) := hc1
  have hf2 : fs I J I1 (cw_up J1 1 (zr (J1 1) 212)) := hf1.J (fun j hj => by unfold zr; rw [if_neg (by omega)])
  have hj2 : (cw_up J1 1 (zr (J1 1) 212)) 3 = T := (hf2.2.1 3 (by omega) (by omega)).trans hJ
  obtain ⟨wa, wb⟩ := zt_isWord (K := K) hFS hc2 (j := 0) (by omega) w2 (by rw [hj2]; exact w3)
  rw [← hj2] at hx0
  obtain ⟨va3, I3, J3, n3, m3, hc3, hkx3, _⟩ := zt_step (K := K) hc2 hx0
  have hf3 := hf2.kf hkx3
  have hj3 : J3 3 = T := (hf3.2.1 3 (by omega) (by omega)).trans hJ
  have tw : cw_C (cc_w K) mX5_takeWord [.ref (cw_a (cc_w K) 15), .ref (cw_sd K 0)] I1 (some (.int 1)) I3 := eX5_takeWord_15 ⟨_, _, wa, fun _ => ⟨_, n3, rfl, rfl⟩, fun q => absurd q (by decide)⟩
  rw [← hj3] at hx1
  obtain ⟨va4, I4, J4, n4, m4, h45, hc4, hkx4⟩ := zt_ranged (K := K) hc3 hx1 (to := 0) (lo := 1) (hi := 24) (d := n) (by omega) (by rw [hj3]; exact w5) (by omega) (by omega) (by omega)
  have hf3' : fs I J I3 (cw_st J3 1 0 (nI n)) := hf3.J (fun j hj => sp_upd_ne _ _ (by omega))
  have hf4 := hf3'.kf hkx4
  have hc4' : cu L 3 (ha 2) (he 2) va4 (cw_st I4 10 0 (nI n)) J4 := hc4
  have hf4' : fs I J (cw_st I4 10 0 (nI n)) J4 := hf4.I (o := 10) (by omega) _
  have hj4 : J4 3 = T := (hf4.2.1 3 (by omega) (by omega)).trans hJ
  have e41 : J4 1 = upd (zr (J1 1) 212) 0 (nI n) := by
    rw [hkx4.2.1 1 (by omega), show (cw_st J3 1 0 (nI n)) 1 = upd (J3 1) 0 (nI n) from rfl, hkx3.2.1 1 (by omega)]
    rfl
  rw [← hj4] at hx2
  obtain ⟨va5, I5, J5, n5, m5, hc5, hkx5⟩ := zt_semi (K := K) hc4' hx2
  rw [← h45] at n5
  have hf5 := hf4'.kf hkx5
  have e51 : J5 1 = upd (zr (J1 1) 212) 0 (nI n) := by rw [hkx5.2.1 1 (by omega), e41]
  have e50 : J5 1 0 = nI n := by rw [e51]; exact sp_upd_same _ _ _
  have e511 : J5 1 1 = nI 0 := by rw [e51]; rfl
  have hrv : sp_rv n 0 (fun _ _ => 0) J5 := ⟨e50, e511, by omega, by omega, fun s c hs => absurd hs (by omega), fun s c hs => absurd hs (by omega)⟩
  have hc6 : cu L (hk 3) (ha 3) (he 3) va5 I5 (cw_up J5 1 (sp_sh (sp_put (fun c => J5 1 (2 + c)) (-1) 0 n) (J5 1))) := hc5
  have hf6 : fs I J I5 (cw_up J5 1 (sp_sh (sp_put (fun c => J5 1 (2 + c)) (-1) 0 n) (J5 1))) := hf5.J (fun j hj => sp_sh_el _ _ j (by omega))
  have e100 : I5 10 0 = nI n := by
    rw [hkx5.1 10 (by omega)]; exact sp_st_at I4 10 0 _
  have hs6 : su n 0 0 0 (fun _ _ => 0) (fun _ => 0) (fun _ _ => 0) I5 (cw_up J5 1 (sp_sh (sp_put (fun c => J5 1 (2 + c)) (-1) 0 n) (J5 1))) := by
    refine ⟨e100, (sp_sh_el (sp_put (fun c => J5 1 (2 + c)) (-1) 0 n) (J5 1) 0 (by omega)).trans e50, (sp_sh_el (sp_put (fun c => J5 1 (2 + c)) (-1) 0 n) (J5 1) 1 (by omega)).trans e511, by omega, by omega, by omega, fun s hs => absurd hs (by omega), fun s hs => absurd hs (by omega), fun s c _ hh => absurd hh (by omega), fun c hc => ?_⟩
    show sp_sh _ (J5 1) (2 + c) = -1
    rw [sp_shv _ _ (by omega)]
    unfold sp_put
    rw [if_pos (by omega)]
  rw [g1, g2, g3] at hc6
  obtain ⟨I9, J9, n9, ho9⟩ := zs_sibs (K := K) hFS hFC hJ hm hz m 0 _ _ _ _ _ _ (by omega) hc6 hf6 hs6 (fun s hs => absurd hs (by omega)) (by omega)
  exact ⟨I9, J9, eX5_readSetup_15_10 hFC ⟨_, ba, _, _, tw, fun q => absurd q (by decide), fun _ => ⟨_, _, n4, fun _ => ⟨_, _, n5, fun _ => n9, fun q => absurd q (by decide)⟩, fun q => absurd q (by decide)⟩⟩, ho9⟩
end ZS
