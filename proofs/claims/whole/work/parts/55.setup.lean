/-! ## reading a setup, load: both sides -/
section SET
variable {K : cw_K} {I J I0 J0 : cw_M} {L n : Nat}
/-- the outcome of reading a setup -/
def set_o (n : Nat) (I0 J0 : cw_M) (b : Int32) (I2 J2 : cw_M) : Prop := (b = 0 ∧ sp_RE I2 J2 ∧ fs I0 J0 I2 J2) ∨ (b = 1 ∧ fs I0 J0 I2 J2 ∧ sp_RE I2 J2 ∧ ∃ k v nl nb, 1 ≤ k ∧ k ≤ 6 ∧ I2 10 1 = nI k ∧ su n k k 0 v nl nb I2 J2)
theorem sib_noword {kd a e : Nat} {va : Int32} (hFC : cw_FC K) (hc : cu L kd a e va I J) {x : Int32} (hw : cw_C (cc_w K) mX5_isWord [.ref (cw_a (cc_w K) 15), .ref (cw_sd K 1)] I (some (.int 0)) I) : cw_C (cc_w K) mX5_readSibling [.ref (cw_a (cc_w K) 15), .ref (cw_a (cc_w K) 10), .int x] I (some (.int 0)) (kw_I I 1) :=
  eX5_readSibling_15_10 hFC ⟨_, _, eX5_takeWord_15 ⟨_, _, hw, fun q => absurd rfl q, fun _ => ⟨_, _, sc_refuse 1, Or.inl rfl, rfl, rfl⟩⟩, fun _ => ⟨rfl, rfl⟩, fun q => absurd rfl q⟩
theorem cu_RE {kd a e : Nat} {va : Int32} (hc : cu L kd a e va I J) : sp_RE I J := hc.2.2.2.2.2.2.2.2.2
theorem setup_loop (hFS : cw_FS (cw_Fc K) (cw_sd K) (cw_sv K)) (hFC : cw_FC K) : ∀ (d k : Nat) (I J : cw_M) (v : Nat → Nat → Nat) (nl : Nat → Nat) (nb : Nat → Nat → Int32) (kd a e : Nat) (va : Int32), k + d = 6 → cu L kd a e va I J → fs I0 J0 I J → su n k k 0 v nl nb I J → kd ≠ 0 → ∃ b I2 J2, bX5_readSetup_15_10_44 K (some (.int b)) I2 (nI k) I ∧ bX11_parseSetup_0_80 K (some (.int b)) J2 J ∧ set_o n I0 J0 b I2 J2 := by
  intro d
  induction d with
  | zero =>
    intro k I J v nl nb kd a e va hk hc hf hs hkd
    have e0 : k = 6 := by omega
    subst e0
    have c1 : (6 : Int32) ≤ nI 6 := Int32.le_refl _
    have j16 : J 1 1 = 6 := hs.2.2.1
    have hJ0 := cu_cJ hc (c := 0) (by omega)
    obtain ⟨w, wa, wb, _⟩ := kw_isWord (K := K) hFS hc (j := 1) (by omega)
    cases w with
    | false =>
      have h2 := kw_RE hc 1
      exact ⟨0, _, _, tbX5_readSetup_15_10_44 hFC (br_t c1 ⟨_, _, wa, fun _ => ⟨_, _, sc_refuse 1, Or.inl rfl, rfl, rfl⟩, fun q => absurd rfl q⟩), tbX11_parseSetup_0_80 hFC ⟨_, _, wb, fun _ => ⟨fun q => absurd (hJ0.mp q) hkd, fun _ => ⟨_, _, sr_wrong 1, fun _ => ⟨rfl, rfl⟩, fun q => absurd rfl q⟩⟩, fun q => absurd rfl q⟩, Or.inl ⟨rfl, h2.1, hf.kf h2.2⟩⟩
    | true =>
      have h2 := kw_RE hc 4
      exact ⟨0, _, _, tbX5_readSetup_15_10_44 hFC (br_t c1 ⟨_, _, wa, fun q => absurd q (by decide), fun _ => ⟨_, _, sc_refuse 4, Or.inl rfl, rfl, rfl⟩⟩), tbX11_parseSetup_0_80 hFC ⟨_, _, wb, fun q => absurd q (by decide), fun _ => ⟨_, _, eX11_parseNewSibling_0 ⟨fun q => absurd j16 q, fun _ => ⟨_, _, sr_wrong 4, Or.inl rfl, rfl, rfl⟩⟩, fun q => absurd rfl q, fun _ => ⟨rfl, rfl⟩⟩⟩, Or.inl ⟨rfl, h2.1, hf.kf h2.2⟩⟩
  | succ d ih =>
    intro k I J v nl nb kd a e va hk hc hf hs hkd
    have c1 : ¬ (6 : Int32) ≤ nI k := fun z => absurd ((nI_leI (a := 6) (by omega) (by omega)).mp z) (by omega)
    have hJ0 := cu_cJ hc (c := 0) (by omega)
    have hcA : cu L kd a e va (cw_st I 10 1 (nI k)) J := hc
    have hfA : fs I0 J0 (cw_st I 10 1 (nI k)) J := hf.I (o := 10) (by omega) _
    have hsA : su n k k 0 v nl nb (cw_st I 10 1 (nI k)) J := hs
    obtain ⟨w, wa, wb, _⟩ := kw_isWord (K := K) hFS hcA (j := 1) (by omega)
    cases w with
    | false =>
      have h2 := kw_RE hcA 1
      exact ⟨0, _, _, tbX5_readSetup_15_10_44 hFC (br_f c1 ⟨_, _, sib_noword hFC hcA wa, fun q => absurd rfl q, fun _ => ⟨rfl, rfl⟩⟩), tbX11_parseSetup_0_80 hFC ⟨_, _, wb, fun _ => ⟨fun q => absurd (hJ0.mp q) hkd, fun _ => ⟨_, _, sr_wrong 1, fun _ => ⟨rfl, rfl⟩, fun q => absurd rfl q⟩⟩, fun q => absurd rfl q⟩, Or.inl ⟨rfl, h2.1, hfA.kf h2.2⟩⟩
    | true =>
      obtain ⟨b, I2, J2, a1, b1, ho⟩ := sib_read (K := K) hFC (show k < 6 by omega) hcA hfA hsA rfl wa
      rcases ho with ⟨rfl, hr, hf2⟩ | ⟨rfl, hf2, ⟨kd2, a2, e2, va2, hc2⟩, v2, nl2, nb2, hs2⟩
      · exact ⟨0, I2, J2, tbX5_readSetup_15_10_44 hFC (br_f c1 ⟨_, _, a1, fun q => absurd rfl q, fun _ => ⟨rfl, rfl⟩⟩), tbX11_parseSetup_0_80 hFC ⟨_, _, wb, fun q => absurd q (by decide), fun _ => ⟨_, _, b1, fun q => absurd rfl q, fun _ => ⟨rfl, rfl⟩⟩⟩, Or.inl ⟨rfl, hr, hf2⟩⟩
      · have hc3 : cu L kd2 a2 e2 va2 (cw_st I2 10 1 (nI (k + 1))) J2 := hc2
        have hf3 : fs I0 J0 (cw_st I2 10 1 (nI (k + 1))) J2 := hf2.I (o := 10) (by omega) _
        have hs3 : su n (k + 1) (k + 1) 0 v2 nl2 nb2 (cw_st I2 10 1 (nI (k + 1))) J2 := hs2
        have hI0 := cu_cI hc3 (c := 0) (by omega)
        by_cases z : kd2 = 0
        · have hJ2 := cu_cJ hc3 (c := 0) (by omega)
          obtain ⟨w3, _, wb3, hw3⟩ := kw_isWord (K := K) hFS hc3 (j := 1) (by omega)
          cases w3 with
          | false =>
            refine ⟨1, _, J2, tbX5_readSetup_15_10_44 hFC (br_f c1 ⟨_, _, a1, fun _ => ⟨fun q => absurd ?_ q, fun _ => ⟨rfl, ?_⟩⟩, fun q => absurd q (by decide)⟩), tbX11_parseSetup_0_80 hFC ⟨_, _, wb, fun q => absurd q (by decide), fun _ => ⟨_, _, b1, fun _ => tbX11_parseSetup_0_80 hFC ⟨_, _, wb3, fun _ => ⟨fun _ => ⟨rfl, rfl⟩, fun q => absurd (hJ2.mpr z) q⟩, fun q => absurd rfl q⟩, fun q => absurd q (by decide)⟩⟩, Or.inr ⟨rfl, hf3, cu_RE hc3, k + 1, v2, nl2, nb2, by omega, by omega, rfl, hs3⟩⟩
            · rw [nI_1]; exact hI0.mpr z
            · rw [nI_1]
          | true =>
            have := hw3 rfl
            omega
        · obtain ⟨b, I4, J4, a4, b4, ho4⟩ := ih (k + 1) _ _ _ _ _ _ _ _ _ (by omega) hc3 hf3 hs3 z
          refine ⟨b, I4, J4, tbX5_readSetup_15_10_44 hFC (br_f c1 ⟨_, _, a1, fun _ => ⟨fun _ => ?_, fun q => absurd ?_ z⟩, fun q => absurd q (by decide)⟩), tbX11_parseSetup_0_80 hFC ⟨_, _, wb, fun q => absurd q (by decide), fun _ => ⟨_, _, b1, fun _ => b4, fun q => absurd q (by decide)⟩⟩, ho4⟩
          · rw [nI_1]; exact a4
          · rw [nI_1] at q; exact hI0.mp q
/-- the first j places zero -/
def zr (f : Nat → Int32) (i : Nat) : Nat → Int32 := fun j => if j < i then 0 else f j
theorem sr_zero {r : Option Value} {F : cw_M} (hFC : cw_FC K) (h : bX11_parseSetup_0_2 K r F (nI 212) (cw_up J 1 (zr (J 1) 212))) : bX11_parseSetup_0_2 K r F (nI 0) J := by
  have loop : ∀ d i : Nat, i + d = 212 → bX11_parseSetup_0_2 K r F (nI i) (cw_up J 1 (zr (J 1) i)) := by
    intro d
    induction d with
    | zero =>
      intro i hi
      rw [show i = 212 by omega]
      exact h
    | succ d ih =>
      intro i hi
      refine tbX11_parseSetup_0_2 hFC (br_f (fun z => absurd ((nI_leI (a := 212) (by omega) (by omega)).mp z) (by omega)) ⟨vp_in_nI (by omega) (by omega), ?_⟩)
      have h1 := ih (i + 1) (by omega)
      have e1 : upd (zr (J 1) i) i 0 = zr (J 1) (i + 1) := by
        funext j
        simp only [upd, zr]
        by_cases z : j = i
        · rw [if_pos z, if_pos (by omega)]
        · rw [if_neg z]
          by_cases y : j < i
          · rw [if_pos y, if_pos (by omega)]
          · rw [if_neg y, if_neg (by omega)]
      rw [nI_clamp (by omega), nI_1, tp_upst, e1]
      exact h1
  have h1 := loop 212 0 (by omega)
  have e2 : zr (J 1) 0 = J 1 := by
    funext j
    unfold zr
    rw [if_neg (by omega)]
  rw [e2, sp_upself] at h1
  exact h1
theorem fs.refl (I J : cw_M) : fs I J I J := ⟨fun _ _ _ => rfl, fun _ _ _ => rfl, fun _ _ _ _ => rfl, fun _ _ => rfl⟩
theorem rd_setup (hFS : cw_FS (cw_Fc K) (cw_sd K) (cw_sv K)) (hFC : cw_FC K) (hT : sp_TL L I J) : ∃ b I2 J1 J2 n, cw_C (cc_w K) mX5_readSetup [.ref (cw_a (cc_w K) 15), .ref (cw_a (cc_w K) 10)] I (some (.int b)) I2 ∧ cw_C (cr_w K) mX11_begin [.ref (cw_a (cr_w K) 0)] J none J1 ∧ cw_C (cr_w K) mX11_parseSetup [.ref (cw_a (cr_w K) 0)] J1 (some (.int b)) J2 ∧ set_o n I J b I2 J2 := by
  have hTb : sp_TL L (cw_st (cw_st (cw_st I 15 0 0) 15 1 (-1)) 15 4 0) (cw_st (cw_st (cw_st J 0 5 0) 0 6 (-1)) 0 15 0) := hT
  obtain ⟨kd, a, e, va, _, hf, ta, tb⟩ := tk_next (K := K) hTb (e0 := 0) (by omega) rfl rfl
  have hc1 : cu L kd a e va (tp_KI (cw_st (cw_st (cw_st I 15 0 0) 15 1 (-1)) 15 4 0) (nI kd) (nI a) (nI e)) (tp_KJ (cw_st (cw_st (cw_st J 0 5 0) 0 6 (-1)) 0 15 0) (nI e) (tp_ty kd) (nI a) va) := ⟨hT, hf, rfl, rfl, rfl, rfl, rfl, rfl, rfl, rfl, rfl⟩
  have hf1 : fs I J (tp_KI (cw_st (cw_st (cw_st I 15 0 0) 15 1 (-1)) 15 4 0) (nI kd) (nI a) (nI e)) (tp_KJ (cw_st (cw_st (cw_st J 0 5 0) 0 6 (-1)) 0 15 0) (nI e) (tp_ty kd) (nI a) va) := by
    refine ⟨fun o ho _ => by simp [cw_st, cw_up, ho], fun o ho _ => by simp [cw_st, cw_up, ho], fun p hp h5 h6 => ?_, fun j _ => rfl⟩
    show tp_g (upd (upd (upd (J 0) 5 0) 6 (-1)) 15 0) (nI e) (tp_ty kd) (nI a) va p = J 0 p
    unfold tp_g
    rw [if_neg (by omega), if_neg (by omega), if_neg (by omega), if_neg (by omega), sp_upd_ne _ _ (by omega), sp_upd_ne _ _ h6, sp_upd_ne _ _ h5]
  have ba : cw_C (cc_w K) mX5_begin [.ref (cw_a (cc_w K) 15)] I none (tp_KI (cw_st (cw_st (cw_st I 15 0 0) 15 1 (-1)) 15 4 0) (nI kd) (nI a) (nI e)) := eX5_begin_15 ⟨_, ta, rfl, rfl⟩
  have bb : cw_C (cr_w K) mX11_begin [.ref (cw_a (cr_w K) 0)] J none (tp_KJ (cw_st (cw_st (cw_st J 0 5 0) 0 6 (-1)) 0 15 0) (nI e) (tp_ty kd) (nI a) va) := eX11_begin_0 ⟨_, tb, rfl, rfl⟩
  revert ba bb hc1 hf1
  generalize tp_KI (cw_st (cw_st (cw_st I 15 0 0) 15 1 (-1)) 15 4 0) (nI kd) (nI a) (nI e) = I1
  generalize tp_KJ (cw_st (cw_st (cw_st J 0 5 0) 0 6 (-1)) 0 15 0) (nI e) (tp_ty kd) (nI a) va = J1
  intro hc1 hf1 ba bb
  have hc2 : cu L kd a e va I1 (cw_up J1 1 (zr (J1 1) 212)) := hc1
  have hf2 : fs I J I1 (cw_up J1 1 (zr (J1 1) 212)) := hf1.J (fun j hj => by unfold zr; rw [if_neg (by omega)])
  have c0 : (212 : Int32) ≤ nI 212 := Int32.le_refl _
  obtain ⟨w, wa, wb, _⟩ := kw_isWord (K := K) hFS hc2 (j := 0) (by omega)
  cases w with
  | false =>
    have h2 := kw_RE hc2 1
    exact ⟨0, _, J1, _, 0, eX5_readSetup_15_10 hFC ⟨_, ba, _, _, eX5_takeWord_15 ⟨_, _, wa, fun q => absurd rfl q, fun _ => ⟨_, _, sc_refuse 1, Or.inl rfl, rfl, rfl⟩⟩, fun _ => ⟨rfl, rfl⟩, fun q => absurd rfl q⟩, bb, eX11_parseSetup_0 (sr_zero hFC (tbX11_parseSetup_0_2 hFC (br_t c0 ⟨_, _, wb, fun q => absurd rfl q, fun _ => ⟨_, _, sr_wrong 1, Or.inl rfl, rfl, rfl⟩⟩))), Or.inl ⟨rfl, h2.1, hf2.kf h2.2⟩⟩
  | true =>
    obtain ⟨kd3, a3, e3, va3, I3, J3, n3, m3, hc3, hk3, _⟩ := kn_next (K := K) hc2
    have hf3 := hf2.kf hk3
    have tw : cw_C (cc_w K) mX5_takeWord [.ref (cw_a (cc_w K) 15), .ref (cw_sd K 0)] I1 (some (.int 1)) I3 := eX5_takeWord_15 ⟨_, _, wa, fun _ => ⟨_, n3, rfl, rfl⟩, fun q => absurd q (by decide)⟩
    obtain ⟨b4, I4, J4, n4, m4, ho4⟩ := ks_ranged (K := K) hc3 (to := 0) (lo := 1) (hi := 24) (by omega) (by omega) (by omega)
    rcases ho4 with ⟨rfl, hr4, hk4⟩ | ⟨rfl, x, hx1, hx2, h45, ⟨kd4, a4, e4, va4, hc4⟩, hk4⟩
    · exact ⟨0, I4, J1, J4, 0, eX5_readSetup_15_10 hFC ⟨_, ba, _, _, tw, fun q => absurd q (by decide), fun _ => ⟨_, _, n4, fun q => absurd rfl q, fun _ => ⟨rfl, rfl⟩⟩⟩, bb, eX11_parseSetup_0 (sr_zero hFC (tbX11_parseSetup_0_2 hFC (br_t c0 ⟨_, _, wb, fun _ => ⟨_, m3, _, _, m4, fun _ => ⟨rfl, rfl⟩, fun q => absurd rfl q⟩, fun q => absurd q (by decide)⟩))), Or.inl ⟨rfl, hr4, hf3.kf hk4⟩⟩
    · have hf3' : fs I J I3 (cw_st J3 1 0 (nI x)) := hf3.J (fun j hj => sp_upd_ne _ _ (by omega))
      have hf4 := hf3'.kf hk4
      have hc4' : cu L kd4 a4 e4 va4 (cw_st I4 10 0 (nI x)) J4 := hc4
      have hf4' : fs I J (cw_st I4 10 0 (nI x)) J4 := hf4.I (o := 10) (by omega) _
      have e41 : J4 1 = upd (zr (J1 1) 212) 0 (nI x) := by
        rw [hk4.2.1 1 (by omega), show (cw_st J3 1 0 (nI x)) 1 = upd (J3 1) 0 (nI x) from rfl, hk3.2.1 1 (by omega)]
        rfl
      obtain ⟨b5, I5, J5, n5, m5, ho5⟩ := ks_semicolon (K := K) hc4'
      rw [← h45] at n5
      rcases ho5 with ⟨rfl, hr5, hk5⟩ | ⟨rfl, ⟨kd5, a5, e5, va5, hc5⟩, hk5⟩
      · exact ⟨0, I5, J1, J5, 0, eX5_readSetup_15_10 hFC ⟨_, ba, _, _, tw, fun q => absurd q (by decide), fun _ => ⟨_, _, n4, fun _ => ⟨_, _, n5, fun q => absurd rfl q, fun _ => ⟨rfl, rfl⟩⟩, fun q => absurd q (by decide)⟩⟩, bb, eX11_parseSetup_0 (sr_zero hFC (tbX11_parseSetup_0_2 hFC (br_t c0 ⟨_, _, wb, fun _ => ⟨_, m3, _, _, m4, fun q => absurd q (by decide), fun _ => ⟨_, _, m5, fun q => absurd rfl q, fun _ => ⟨rfl, rfl⟩⟩⟩, fun q => absurd q (by decide)⟩))), Or.inl ⟨rfl, hr5, hf4'.kf hk5⟩⟩
      · have hf5 := hf4'.kf hk5
        have e51 : J5 1 = upd (zr (J1 1) 212) 0 (nI x) := by rw [hk5.2.1 1 (by omega), e41]
        have e50 : J5 1 0 = nI x := by rw [e51]; exact sp_upd_same _ _ _
        have e511 : J5 1 1 = nI 0 := by rw [e51]; rfl
        have hrv : sp_rv x 0 (fun _ _ => 0) J5 := ⟨e50, e511, hx2, by omega, fun s c hs => absurd hs (by omega), fun s c hs => absurd hs (by omega)⟩
        have hcl := sr_clear (K := K) hrv
        have hc6 : cu L kd5 a5 e5 va5 I5 (cw_up J5 1 (sp_sh (sp_put (fun c => J5 1 (2 + c)) (-1) 0 x) (J5 1))) := hc5
        have hf6 : fs I J I5 (cw_up J5 1 (sp_sh (sp_put (fun c => J5 1 (2 + c)) (-1) 0 x) (J5 1))) := hf5.J (fun j hj => sp_sh_el _ _ j (by omega))
        have e100 : I5 10 0 = nI x := by
          rw [hk5.1 10 (by omega)]; exact sp_st_at I4 10 0 _
        have hs6 : su x 0 0 0 (fun _ _ => 0) (fun _ => 0) (fun _ _ => 0) I5 (cw_up J5 1 (sp_sh (sp_put (fun c => J5 1 (2 + c)) (-1) 0 x) (J5 1))) := by
          refine ⟨e100, (sp_sh_el (sp_put (fun c => J5 1 (2 + c)) (-1) 0 x) (J5 1) 0 (by omega)).trans e50, (sp_sh_el (sp_put (fun c => J5 1 (2 + c)) (-1) 0 x) (J5 1) 1 (by omega)).trans e511, hx1, hx2, by omega, fun s hs => absurd hs (by omega), fun s hs => absurd hs (by omega), fun s c _ hh => absurd hh (by omega), fun c hc => ?_⟩
          show sp_sh _ (J5 1) (2 + c) = -1
          rw [sp_shv _ _ (by omega)]
          unfold sp_put
          rw [if_pos (by omega)]
        have hJ6 := cu_cJ hc6 (c := 0) (by omega)
        have hc8 : cu L kd5 a5 e5 va5 (cw_st I5 10 1 0) (cw_up J5 1 (sp_sh (sp_put (fun c => J5 1 (2 + c)) (-1) 0 x) (J5 1))) := hc6
        have hf8 : fs I J (cw_st I5 10 1 0) (cw_up J5 1 (sp_sh (sp_put (fun c => J5 1 (2 + c)) (-1) 0 x) (J5 1))) := hf6.I (o := 10) (by omega) _
        obtain ⟨w7, wa8, wb7, hw7⟩ := kw_isWord (K := K) hFS hc8 (j := 1) (by omega)
        have h2 := kw_RE hc8 1
        cases w7 with
        | false =>
          exact ⟨0, _, J1, _, 0, eX5_readSetup_15_10 hFC ⟨_, ba, _, _, tw, fun q => absurd q (by decide), fun _ => ⟨_, _, n4, fun _ => ⟨_, _, n5, fun _ => tbX5_readSetup_15_10_44 hFC (br_f (by decide) ⟨_, _, sib_noword hFC hc8 wa8, fun q => absurd rfl q, fun _ => ⟨rfl, rfl⟩⟩), fun q => absurd q (by decide)⟩, fun q => absurd q (by decide)⟩⟩, bb, eX11_parseSetup_0 (sr_zero hFC (tbX11_parseSetup_0_2 hFC (br_t c0 ⟨_, _, wb, fun _ => ⟨_, m3, _, _, m4, fun q => absurd q (by decide), fun _ => ⟨_, _, m5, fun _ => ⟨_, hcl, _, _, wb7, fun q => absurd rfl q, fun _ => ⟨_, _, sr_wrong 1, Or.inl rfl, rfl, rfl⟩⟩, fun q => absurd q (by decide)⟩⟩, fun q => absurd q (by decide)⟩))), Or.inl ⟨rfl, h2.1, hf8.kf h2.2⟩⟩
        | true =>
          obtain ⟨b9, I9, J9, n9, m9, ho9⟩ := setup_loop (K := K) hFS hFC 6 0 _ _ _ _ _ _ _ _ _ (by omega) hc6 hf6 hs6 (by rw [hw7 rfl]; omega)
          exact ⟨b9, I9, J1, J9, x, eX5_readSetup_15_10 hFC ⟨_, ba, _, _, tw, fun q => absurd q (by decide), fun _ => ⟨_, _, n4, fun _ => ⟨_, _, n5, fun _ => n9, fun q => absurd q (by decide)⟩, fun q => absurd q (by decide)⟩⟩, bb, eX11_parseSetup_0 (sr_zero hFC (tbX11_parseSetup_0_2 hFC (br_t c0 ⟨_, _, wb, fun _ => ⟨_, m3, _, _, m4, fun q => absurd q (by decide), fun _ => ⟨_, _, m5, fun _ => ⟨_, hcl, _, _, wb7, fun _ => m9, fun q => absurd q (by decide)⟩, fun q => absurd q (by decide)⟩⟩, fun q => absurd q (by decide)⟩))), ho9⟩
end SET
