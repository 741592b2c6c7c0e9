/-! ## the first setup, text 15 -/
def zt_T (i : Nat) : Int32 := (cw_tx 15).getD i 0
def zt_l : List (Nat × Nat × Nat) := [(1, 0, 4), (2, 5, 6), (3, 6, 7), (1, 7, 14), (1, 15, 18), (2, 19, 20), (2, 21, 22), (2, 23, 24), (2, 25, 26), (2, 27, 28), (2, 29, 30), (2, 31, 32), (2, 33, 34), (3, 34, 35), (1, 35, 42), (1, 43, 46), (2, 47, 48), (2, 49, 50), (2, 51, 52), (2, 53, 54), (2, 55, 56), (2, 57, 58), (2, 59, 60), (2, 61, 62), (3, 62, 63), (1, 63, 70), (1, 71, 74), (2, 75, 76), (2, 77, 78), (2, 79, 80), (2, 81, 82), (2, 83, 84), (2, 85, 86), (2, 87, 88), (2, 89, 90), (3, 90, 91), (0, 91, 91)]
def zt_k (j : Nat) : Nat := (zt_l.getD j (0, 91, 91)).1
def zt_a (j : Nat) : Nat := (zt_l.getD j (0, 91, 91)).2.1
def zt_e (j : Nat) : Nat := (zt_l.getD j (0, 91, 91)).2.2
theorem zt_first : zt_tok zt_T 91 0 (zt_k 0) (zt_a 0) (zt_e 0) := by
  unfold zt_tok
  decide +kernel
def zt_td (t : Nat → Int32) (L e0 kd a e : Nat) : Decidable (zt_tok t L e0 kd a e) := by
  delta zt_tok
  exact inferInstance
def zt_ck (j : Nat) : Bool := @decide (zt_tok zt_T 91 (zt_e j) (zt_k (j + 1)) (zt_a (j + 1)) (zt_e (j + 1))) (zt_td zt_T 91 (zt_e j) (zt_k (j + 1)) (zt_a (j + 1)) (zt_e (j + 1)))
theorem zt_ca : ∀ j, j < 36 → zt_ck j = true := by decide +kernel
theorem zt_all : ∀ j, j < 36 → zt_tok zt_T 91 (zt_e j) (zt_k (j + 1)) (zt_a (j + 1)) (zt_e (j + 1)) := fun j hj => @of_decide_eq_true _ (zt_td zt_T 91 (zt_e j) (zt_k (j + 1)) (zt_a (j + 1)) (zt_e (j + 1))) (zt_ca j hj)
def zt_d (j : Nat) : Nat := (zt_T (zt_a j)).toNatClampNeg - 48
theorem zt_digits : ∀ s, s < 3 → ∀ i, i < 8 → zt_k (3 + 11 * s + 2 + i) = 2 ∧ zt_d (3 + 11 * s + 2 + i) ≤ 9 ∧ tp_nv zt_T (zt_a (3 + 11 * s + 2 + i)) (zt_e (3 + 11 * s + 2 + i) - zt_a (3 + 11 * s + 2 + i)) = nI (zt_d (3 + 11 * s + 2 + i)) := by decide +kernel
theorem zt_words : ∀ s, s < 3 → zt_k (3 + 11 * s) = 1 ∧ zt_e (3 + 11 * s) - zt_a (3 + 11 * s) = (cw_tx 1).length ∧ (∀ i, i < (cw_tx 1).length → zt_T (zt_a (3 + 11 * s) + i) = (cw_tx 1).getD i 0) ∧ zt_k (3 + 11 * s + 1) = 1 ∧ zt_e (3 + 11 * s + 1) - zt_a (3 + 11 * s + 1) ≤ 6 ∧ zt_k (3 + 11 * s + 2 + 8) = 3 ∧ ∀ r, r < s → zt_T (zt_a (3 + 11 * r + 1)) ≠ zt_T (zt_a (3 + 11 * s + 1)) := by decide +kernel
theorem zt_head : zt_k 0 = 1 ∧ zt_e 0 - zt_a 0 = (cw_tx 0).length ∧ (∀ i, i < (cw_tx 0).length → zt_T (zt_a 0 + i) = (cw_tx 0).getD i 0) ∧ zt_k 1 = 2 ∧ tp_nv zt_T (zt_a 1) (zt_e 1 - zt_a 1) = nI 8 ∧ zt_k 2 = 3 ∧ zt_k 36 = 0 := by decide +kernel
section ZZ
variable {K : cw_K} {I J I0 J0 : cw_M}
theorem zt_sibs (hFS : cw_FS (cw_Fc K) (cw_sd K) (cw_sv K)) (hFC : cw_FC K) (hJ0 : J0 3 = zt_T) : ∀ (d k : Nat) (I J : cw_M) (v : Nat → Nat → Nat) (nl : Nat → Nat) (nb : Nat → Nat → Int32) (va : Int32), k + d = 3 → cu 91 (zt_k (3 + 11 * k)) (zt_a (3 + 11 * k)) (zt_e (3 + 11 * k)) va I J → fs I0 J0 I J → su 8 k k 0 v nl nb I J → (∀ s, s < k → nb s 0 = zt_T (zt_a (3 + 11 * s + 1))) → d ≠ 0 → ∃ I2 J2, bX5_readSetup_15_10_44 K (some (.int 1)) I2 (nI k) I ∧ bY11_parseSetup_0_80 K (some (.int 1)) J2 J ∧ set_o 8 I0 J0 1 I2 J2 := by
  intro d
  induction d with
  | zero => exact fun k I J v nl nb va _ _ _ _ _ h => absurd rfl h
  | succ d ih =>
    intro k I J v nl nb va hk hc hf hs hb _
    have hk3 : k < 3 := by omega
    obtain ⟨w1, w2, w3, w4, w5, w6, w7⟩ := zt_words k hk3
    have c1 : ¬ (6 : Int32) ≤ nI k := fun z => absurd ((nI_leI (a := 6) (by omega) (by omega)).mp z) (by omega)
    have hcA : cu 91 (zt_k (3 + 11 * k)) (zt_a (3 + 11 * k)) (zt_e (3 + 11 * k)) va (cw_st I 10 1 (nI k)) J := hc
    have hfA : fs I0 J0 (cw_st I 10 1 (nI k)) J := hf.I (o := 10) (by omega) _
    have hsA : su 8 k k 0 v nl nb (cw_st I 10 1 (nI k)) J := hs
    have hj : J 3 = zt_T := (hf.2.1 3 (by omega) (by omega)).trans hJ0
    have hcB := hcA
    rw [w1] at hcB
    obtain ⟨wa, wb⟩ := zt_isWord (K := K) hFS hcB (j := 1) (by omega) w2 (by rw [hj]; exact w3)
    obtain ⟨I2, J2, va2, v2, nl2, nb2, a1, b1, hf2, hc2, hs2, hb2, hb3⟩ := zt_sib (K := K) (T := zt_T) (tk := zt_k) (ta := zt_a) (te := zt_e) (p := 3 + 11 * k) (n := 8) hFC (show k < 6 by omega) (fun j h1 h2 => zt_all j (by omega)) hJ0 w4 w5 (fun i hi => ⟨(zt_digits k hk3 i hi).1, _, (zt_digits k hk3 i hi).2⟩) w6 (fun s hs => by rw [hb s hs]; exact w7 s hs) hcA hfA hsA rfl wa
    have hc3 : cu 91 (zt_k (3 + 11 * (k + 1))) (zt_a (3 + 11 * (k + 1))) (zt_e (3 + 11 * (k + 1))) va2 (cw_st I2 10 1 (nI (k + 1))) J2 := by
      rw [show 3 + 11 * (k + 1) = 3 + 11 * k + 2 + 8 + 1 by omega]
      exact hc2
    have hf3 : fs I0 J0 (cw_st I2 10 1 (nI (k + 1))) J2 := hf2.I (o := 10) (by omega) _
    have hs3 : su 8 (k + 1) (k + 1) 0 v2 nl2 nb2 (cw_st I2 10 1 (nI (k + 1))) J2 := hs2
    have hI0 := cu_cI hc3 (c := 0) (by omega)
    by_cases z : d = 0
    · have e2 : k = 2 := by omega
      have hz : zt_k (3 + 11 * (k + 1)) = 0 := by rw [e2]; exact zt_head.2.2.2.2.2.2
      have hJ2 := cu_cJ hc3 (c := 0) (by omega)
      obtain ⟨w3, _, wb3, hw3⟩ := kw_isWord (K := K) hFS hc3 (j := 1) (by omega)
      cases w3 with
      | false =>
        refine ⟨_, J2, tbX5_readSetup_15_10_44 hFC (br_f c1 ⟨_, _, a1, fun _ => ⟨fun q => absurd ?_ q, fun _ => ⟨rfl, ?_⟩⟩, fun q => absurd q (by decide)⟩), tbY11_parseSetup_0_80 hFC ⟨_, _, wb, fun q => absurd q (by decide), fun _ => ⟨_, _, b1, fun _ => tbY11_parseSetup_0_80 hFC ⟨_, _, wb3, fun _ => ⟨fun _ => ⟨rfl, rfl⟩, fun q => absurd (hJ2.mpr hz) q⟩, fun q => absurd rfl q⟩, fun q => absurd q (by decide)⟩⟩, Or.inr ⟨rfl, hf3, cu_RE hc3, k + 1, v2, nl2, nb2, by omega, by omega, rfl, hs3⟩⟩
        · rw [nI_1]; exact hI0.mpr hz
        · rw [nI_1]
      | true =>
        have := hw3 rfl
        omega
    · have hz : ¬ zt_k (3 + 11 * (k + 1)) = 0 := by rw [(zt_words (k + 1) (by omega)).1]; decide
      have hb4 : ∀ s, s < k + 1 → nb2 s 0 = zt_T (zt_a (3 + 11 * s + 1)) := fun s hs => by
        by_cases w : s = k
        · rw [w]; exact hb2
        · rw [hb3 s (by omega)]; exact hb s (by omega)
      obtain ⟨I4, J4, a4, b4, ho4⟩ := ih (k + 1) _ _ _ _ _ _ (by omega) hc3 hf3 hs3 hb4 z
      refine ⟨I4, J4, tbX5_readSetup_15_10_44 hFC (br_f c1 ⟨_, _, a1, fun _ => ⟨fun _ => ?_, fun q => absurd ?_ hz⟩, fun q => absurd q (by decide)⟩), tbY11_parseSetup_0_80 hFC ⟨_, _, wb, fun q => absurd q (by decide), fun _ => ⟨_, _, b1, fun _ => b4, fun q => absurd q (by decide)⟩⟩, ho4⟩
      · rw [nI_1]; exact a4
      · rw [nI_1] at q; exact hI0.mp q
/-- the first setup: both sides read it, both answer 1 -/
theorem zt_setup (hFS : cw_FS (cw_Fc K) (cw_sd K) (cw_sv K)) (hFC : cw_FC K) (hT : sp_TL 91 I J) (hJ : J 3 = zt_T) : ∃ I2 J1 J2, cw_C (cc_w K) mX5_readSetup [.ref (cw_a (cc_w K) 15), .ref (cw_a (cc_w K) 10)] I (some (.int 1)) I2 ∧ rw_C K mY11_begin [.ref (cw_a (cc_w K) 0)] J none J1 ∧ rw_C K mY11_parseSetup [.ref (cw_a (cc_w K) 0)] J1 (some (.int 1)) J2 ∧ set_o 8 I J 1 I2 J2 := by
  have hTb : sp_TL 91 (cw_st (cw_st (cw_st I 15 0 0) 15 1 (-1)) 15 4 0) (cw_st (cw_st (cw_st J 0 5 0) 0 6 (-1)) 0 15 0) := hT
  obtain ⟨va, hf, ta, tb⟩ := zt_next (K := K) hTb (e0 := 0) rfl rfl (show zt_tok (J 3) 91 0 (zt_k 0) (zt_a 0) (zt_e 0) by rw [hJ]; exact zt_first)
  obtain ⟨w1, w2, w3, w4, w5, w6, w7⟩ := zt_head
  have hx0 : zt_tok zt_T 91 (zt_e 0) (zt_k 1) (zt_a 1) (zt_e 1) := zt_all 0 (by omega)
  have hx1 : zt_tok zt_T 91 (zt_e 1) (zt_k 2) (zt_a 2) (zt_e 2) := zt_all 1 (by omega)
  have hx2 : zt_tok zt_T 91 (zt_e 2) (zt_k 3) (zt_a 3) (zt_e 3) := zt_all 2 (by omega)
  rw [w1] at hf ta tb
  rw [w4] at hx0
  rw [w6] at hx1
  have hc1 : cu 91 1 (zt_a 0) (zt_e 0) va (tp_KI (cw_st (cw_st (cw_st I 15 0 0) 15 1 (-1)) 15 4 0) (nI 1) (nI (zt_a 0)) (nI (zt_e 0))) (tp_KJ (cw_st (cw_st (cw_st J 0 5 0) 0 6 (-1)) 0 15 0) (nI (zt_e 0)) (tp_ty 1) (nI (zt_a 0)) va) := ⟨hT, hf, rfl, rfl, rfl, rfl, rfl, rfl, rfl, rfl, rfl⟩
  have hf1 : fs I J (tp_KI (cw_st (cw_st (cw_st I 15 0 0) 15 1 (-1)) 15 4 0) (nI 1) (nI (zt_a 0)) (nI (zt_e 0))) (tp_KJ (cw_st (cw_st (cw_st J 0 5 0) 0 6 (-1)) 0 15 0) (nI (zt_e 0)) (tp_ty 1) (nI (zt_a 0)) va) := by
    refine ⟨fun o ho _ => by simp [cw_st, cw_up, ho], fun o ho _ => by simp [cw_st, cw_up, ho], fun p hp h5 h6 => ?_, fun j _ => rfl⟩
    show tp_g (upd (upd (upd (J 0) 5 0) 6 (-1)) 15 0) (nI (zt_e 0)) (tp_ty 1) (nI (zt_a 0)) va p = J 0 p
    unfold tp_g
    rw [if_neg (by omega), if_neg (by omega), if_neg (by omega), if_neg (by omega), sp_upd_ne _ _ (by omega), sp_upd_ne _ _ h6, sp_upd_ne _ _ h5]
  have ba : cw_C (cc_w K) mX5_begin [.ref (cw_a (cc_w K) 15)] I none (tp_KI (cw_st (cw_st (cw_st I 15 0 0) 15 1 (-1)) 15 4 0) (nI 1) (nI (zt_a 0)) (nI (zt_e 0))) := eX5_begin_15 ⟨_, ta, rfl, rfl⟩
  have bb : rw_C K mY11_begin [.ref (cw_a (cc_w K) 0)] J none (tp_KJ (cw_st (cw_st (cw_st J 0 5 0) 0 6 (-1)) 0 15 0) (nI (zt_e 0)) (tp_ty 1) (nI (zt_a 0)) va) := eY11_begin_0 ⟨_, tb, rfl, rfl⟩
  revert ba bb hc1 hf1
  generalize tp_KI (cw_st (cw_st (cw_st I 15 0 0) 15 1 (-1)) 15 4 0) (nI 1) (nI (zt_a 0)) (nI (zt_e 0)) = I1
  generalize tp_KJ (cw_st (cw_st (cw_st J 0 5 0) 0 6 (-1)) 0 15 0) (nI (zt_e 0)) (tp_ty 1) (nI (zt_a 0)) va = J1
  intro hc1 hf1 ba bb
  have hc2 : cu 91 1 (zt_a 0) (zt_e 0) va I1 (cw_up J1 1 (zr (J1 1) 212)) := hc1
  have hf2 : fs I J I1 (cw_up J1 1 (zr (J1 1) 212)) := hf1.J (fun j hj => by unfold zr; rw [if_neg (by omega)])
  have hj2 : (cw_up J1 1 (zr (J1 1) 212)) 3 = zt_T := (hf2.2.1 3 (by omega) (by omega)).trans hJ
  have c0 : (212 : Int32) ≤ nI 212 := Int32.le_refl _
  obtain ⟨wa, wb⟩ := zt_isWord (K := K) hFS hc2 (j := 0) (by omega) w2 (by rw [hj2]; exact w3)
  rw [← hj2] at hx0
  obtain ⟨va3, I3, J3, n3, m3, hc3, hk3, _⟩ := zt_step (K := K) hc2 hx0
  have hf3 := hf2.kf hk3
  have hj3 : J3 3 = zt_T := (hf3.2.1 3 (by omega) (by omega)).trans hJ
  have tw : cw_C (cc_w K) mX5_takeWord [.ref (cw_a (cc_w K) 15), .ref (cw_sd K 0)] I1 (some (.int 1)) I3 := eX5_takeWord_15 ⟨_, _, wa, fun _ => ⟨_, n3, rfl, rfl⟩, fun q => absurd q (by decide)⟩
  rw [← hj3] at hx1
  obtain ⟨va4, I4, J4, n4, m4, h45, hc4, hk4⟩ := zt_ranged (K := K) hc3 hx1 (to := 0) (lo := 1) (hi := 24) (d := 8) (by omega) (by rw [hj3]; exact w5) (by omega) (by omega) (by omega)
  have hf3' : fs I J I3 (cw_st J3 1 0 (nI 8)) := hf3.J (fun j hj => sp_upd_ne _ _ (by omega))
  have hf4 := hf3'.kf hk4
  have hc4' : cu 91 3 (zt_a 2) (zt_e 2) va4 (cw_st I4 10 0 (nI 8)) J4 := hc4
  have hf4' : fs I J (cw_st I4 10 0 (nI 8)) J4 := hf4.I (o := 10) (by omega) _
  have hj4 : J4 3 = zt_T := (hf4.2.1 3 (by omega) (by omega)).trans hJ
  have e41 : J4 1 = upd (zr (J1 1) 212) 0 (nI 8) := by
    rw [hk4.2.1 1 (by omega), show (cw_st J3 1 0 (nI 8)) 1 = upd (J3 1) 0 (nI 8) from rfl, hk3.2.1 1 (by omega)]
    rfl
  rw [← hj4] at hx2
  obtain ⟨va5, I5, J5, n5, m5, hc5, hk5⟩ := zt_semi (K := K) hc4' hx2
  rw [← h45] at n5
  have hf5 := hf4'.kf hk5
  have e51 : J5 1 = upd (zr (J1 1) 212) 0 (nI 8) := by rw [hk5.2.1 1 (by omega), e41]
  have e50 : J5 1 0 = nI 8 := by rw [e51]; exact sp_upd_same _ _ _
  have e511 : J5 1 1 = nI 0 := by rw [e51]; rfl
  have hrv : sp_rv 8 0 (fun _ _ => 0) J5 := ⟨e50, e511, by omega, by omega, fun s c hs => absurd hs (by omega), fun s c hs => absurd hs (by omega)⟩
  have hcl := sr_clear (K := K) hrv
  have hc6 : cu 91 (zt_k 3) (zt_a 3) (zt_e 3) va5 I5 (cw_up J5 1 (sp_sh (sp_put (fun c => J5 1 (2 + c)) (-1) 0 8) (J5 1))) := hc5
  have hf6 : fs I J I5 (cw_up J5 1 (sp_sh (sp_put (fun c => J5 1 (2 + c)) (-1) 0 8) (J5 1))) := hf5.J (fun j hj => sp_sh_el _ _ j (by omega))
  have e100 : I5 10 0 = nI 8 := by
    rw [hk5.1 10 (by omega)]; exact sp_st_at I4 10 0 _
  have hs6 : su 8 0 0 0 (fun _ _ => 0) (fun _ => 0) (fun _ _ => 0) I5 (cw_up J5 1 (sp_sh (sp_put (fun c => J5 1 (2 + c)) (-1) 0 8) (J5 1))) := by
    refine ⟨e100, (sp_sh_el (sp_put (fun c => J5 1 (2 + c)) (-1) 0 8) (J5 1) 0 (by omega)).trans e50, (sp_sh_el (sp_put (fun c => J5 1 (2 + c)) (-1) 0 8) (J5 1) 1 (by omega)).trans e511, by omega, by omega, by omega, fun s hs => absurd hs (by omega), fun s hs => absurd hs (by omega), fun s c _ hh => absurd hh (by omega), fun c hc => ?_⟩
    show sp_sh _ (J5 1) (2 + c) = -1
    rw [sp_shv _ _ (by omega)]
    unfold sp_put
    rw [if_pos (by omega)]
  have hc8 : cu 91 (zt_k 3) (zt_a 3) (zt_e 3) va5 (cw_st I5 10 1 0) (cw_up J5 1 (sp_sh (sp_put (fun c => J5 1 (2 + c)) (-1) 0 8) (J5 1))) := hc6
  have hf8 : fs I J (cw_st I5 10 1 0) (cw_up J5 1 (sp_sh (sp_put (fun c => J5 1 (2 + c)) (-1) 0 8) (J5 1))) := hf6.I (o := 10) (by omega) _
  have hj8 : (cw_up J5 1 (sp_sh (sp_put (fun c => J5 1 (2 + c)) (-1) 0 8) (J5 1))) 3 = zt_T := (hf8.2.1 3 (by omega) (by omega)).trans hJ
  obtain ⟨u1, u2, u3, _⟩ := zt_words 0 (by omega)
  have hc9 := hc8
  rw [u1] at hc9
  obtain ⟨_, wb7⟩ := zt_isWord (K := K) hFS hc9 (j := 1) (by omega) u2 (by rw [hj8]; exact u3)
  obtain ⟨I9, J9, n9, m9, ho9⟩ := zt_sibs (K := K) hFS hFC hJ 3 0 _ _ _ _ _ _ (by omega) hc6 hf6 hs6 (fun s hs => absurd hs (by omega)) (by omega)
  exact ⟨I9, J1, J9, eX5_readSetup_15_10 hFC ⟨_, ba, _, _, tw, fun q => absurd q (by decide), fun _ => ⟨_, _, n4, fun _ => ⟨_, _, n5, fun _ => n9, fun q => absurd q (by decide)⟩, fun q => absurd q (by decide)⟩⟩, bb, eY11_parseSetup_0 (sr_zero hFC (tbY11_parseSetup_0_2 hFC (br_t c0 ⟨_, _, wb, fun _ => ⟨_, m3, _, _, m4, fun q => absurd q (by decide), fun _ => ⟨_, _, m5, fun _ => ⟨_, hcl, _, _, wb7, fun _ => m9, fun q => absurd q (by decide)⟩, fun q => absurd q (by decide)⟩⟩, fun q => absurd q (by decide)⟩))), ho9⟩
end ZZ
