/-! ## reading a script, both sides -/
/-- what reading a script leaves alone -/
def fc (I0 J0 I J : cw_M) : Prop := (∀ o, o ≠ 15 → o ≠ 25 → o ≠ 26 → o ≠ 27 → I o = I0 o) ∧ (∀ o, o ≠ 0 → o ≠ 10 → J o = J0 o) ∧ ∀ p, p < 15 → p ≠ 5 → p ≠ 6 → J 0 p = J0 0 p
theorem fc.refl (I J : cw_M) : fc I J I J := ⟨fun _ _ _ _ _ => rfl, fun _ _ _ => rfl, fun _ _ _ _ => rfl⟩
theorem fc.trans {I0 J0 I J I2 J2 : cw_M} (h : fc I0 J0 I J) (g : fc I J I2 J2) : fc I0 J0 I2 J2 := ⟨fun o h1 h2 h3 h4 => (g.1 o h1 h2 h3 h4).trans (h.1 o h1 h2 h3 h4), fun o h1 h2 => (g.2.1 o h1 h2).trans (h.2.1 o h1 h2), fun p h1 h2 h3 => (g.2.2 p h1 h2 h3).trans (h.2.2 p h1 h2 h3)⟩
theorem kf.fc {I J I2 J2 : cw_M} (h : kf I J I2 J2) : fc I J I2 J2 := ⟨fun o h1 _ _ _ => h.1 o h1, fun o h1 _ => h.2.1 o h1, h.2.2⟩
theorem fc_st10 (I J : cw_M) (f : Nat → Int32) : fc I J I (cw_up J 10 f) := ⟨fun _ _ _ _ _ => rfl, fun o _ h2 => by simp [cw_up, h2], fun _ _ _ _ => rfl⟩
theorem fc_up (I J : cw_M) {o : Nat} (ho : 25 ≤ o ∧ o ≤ 27) (f : Nat → Int32) : fc I J (cw_up I o f) J := ⟨fun p h1 h2 h3 h4 => by
  have : p ≠ o := by omega
  simp [cw_up, this], fun _ _ _ => rfl, fun _ _ _ _ => rfl⟩
/-- the names are there -/
def sx (k : Nat) (nl : Nat → Nat) (nb : Nat → Nat → Int32) (I J : cw_M) : Prop := k ≤ 6 ∧ I 5 1 = nI k ∧ J 1 1 = nI k ∧ sp_NM k nl nb (I 6) (I 7) ∧ sp_NB k nl nb (J 1)
theorem sx.fc {k : Nat} {nl : Nat → Nat} {nb : Nat → Nat → Int32} {I J I2 J2 : cw_M} (h : sx k nl nb I J) (g : fc I J I2 J2) : sx k nl nb I2 J2 := by
  unfold sx
  rw [g.1 5 (by omega) (by omega) (by omega) (by omega), g.1 6 (by omega) (by omega) (by omega) (by omega), g.1 7 (by omega) (by omega) (by omega) (by omega), g.2.1 1 (by omega) (by omega)]
  exact h
/-- one argument taken: the class puts it at p, the reference at t -/
def ar (I J I2 J2 : cw_M) (p t : Nat) (x : Int32) : Prop := I2 27 = upd (I 27) p x ∧ J2 10 = upd (J 10) t x ∧ (∀ o, o ≠ 15 → o ≠ 27 → I2 o = I o) ∧ (∀ o, o ≠ 0 → o ≠ 10 → J2 o = J o) ∧ ∀ p, p < 15 → p ≠ 5 → p ≠ 6 → J2 0 p = J 0 p
theorem ar.fc {I J I2 J2 : cw_M} {p t : Nat} {x : Int32} (h : ar I J I2 J2 p t x) : fc I J I2 J2 := ⟨fun o h1 _ _ h4 => h.2.2.1 o h1 h4, h.2.2.2.1, h.2.2.2.2⟩
section SCR
variable {K : cw_K} {I J : cw_M} {L kd a e k : Nat} {va : Int32} {nl : Nat → Nat} {nb : Nat → Nat → Int32}
theorem sn_no {len : Nat} (hk : k ≤ 6) (k1 : I 5 1 = nI k) (hN : sp_NM k nl nb (I 6) (I 7)) (hl : 6 < len) (hl2 : len ≤ 600) {x : Int32} : cw_C (cc_w K) mX1_findName [.ref (cw_a (cc_w K) 5), .ref (cw_a (cc_w K) 1), .int x, .int (nI len)] I (some (.int (-1))) I := by
  have loop : ∀ d s : Nat, s + d = k → bX1_findName_5_1_3 K (some (.int (-1))) I x (nI len) (nI s) I := by
    intro d
    induction d with
    | zero =>
      intro s hs
      exact tbX1_findName_5_1_3 (br_t (by rw [k1, show s = k by omega]; exact Int32.le_refl _) ⟨rfl, rfl⟩)
    | succ d ih =>
      intro s hs
      have h6 := (hN s (by omega)).1
      have e1 : I 7 (nI s).toNatClampNeg = nI (nl s) := by rw [nI_clamp (by omega)]; exact (hN s (by omega)).2.1
      have g1 : cw_C (cc_w K) mX1_isName [.ref (cw_a (cc_w K) 5), .int (nI s), .ref (cw_a (cc_w K) 1), .int x, .int (nI len)] I (some (.int 0)) I := eX1_isName_5_1 ⟨vp_in_nI (by omega) (by omega), fun q => absurd ((nI_eq (a := nl s) (b := len) (by omega) (by omega)).mp (e1.symm.trans q)) (by omega), fun _ => ⟨rfl, rfl⟩⟩
      refine tbX1_findName_5_1_3 (br_f (by rw [k1]; exact fun z => absurd ((nI_leI (by omega) (by omega)).mp z) (by omega)) ⟨_, _, g1, fun _ => ?_, fun q => absurd rfl q⟩)
      rw [nI_1]
      exact ih (s + 1) (by omega)
  exact eX1_findName_5_1 (loop k 0 (by omega))
theorem sr_nameOf (hFC : cw_FC K) : ∀ i : Nat, i < 8 → cw_C (cr_w K) mX11_nameOf [.int (nI i)] J (some (.ref (cw_sd K (2 + i)))) J
  | 0, _ => eX11_nameOf hFC ⟨fun _ => ⟨rfl, rfl⟩, fun q => absurd q (by decide), fun q => absurd q (by decide), fun q => absurd q (by decide), fun q => absurd q (by decide), fun q => absurd q (by decide), fun q => absurd q (by decide), fun q0 q1 q2 q3 q4 q5 q6 => absurd rfl q0⟩
  | 1, _ => eX11_nameOf hFC ⟨fun q => absurd q (by decide), fun _ => ⟨rfl, rfl⟩, fun q => absurd q (by decide), fun q => absurd q (by decide), fun q => absurd q (by decide), fun q => absurd q (by decide), fun q => absurd q (by decide), fun q0 q1 q2 q3 q4 q5 q6 => absurd rfl q1⟩
  | 2, _ => eX11_nameOf hFC ⟨fun q => absurd q (by decide), fun q => absurd q (by decide), fun _ => ⟨rfl, rfl⟩, fun q => absurd q (by decide), fun q => absurd q (by decide), fun q => absurd q (by decide), fun q => absurd q (by decide), fun q0 q1 q2 q3 q4 q5 q6 => absurd rfl q2⟩
  | 3, _ => eX11_nameOf hFC ⟨fun q => absurd q (by decide), fun q => absurd q (by decide), fun q => absurd q (by decide), fun _ => ⟨rfl, rfl⟩, fun q => absurd q (by decide), fun q => absurd q (by decide), fun q => absurd q (by decide), fun q0 q1 q2 q3 q4 q5 q6 => absurd rfl q3⟩
  | 4, _ => eX11_nameOf hFC ⟨fun q => absurd q (by decide), fun q => absurd q (by decide), fun q => absurd q (by decide), fun q => absurd q (by decide), fun _ => ⟨rfl, rfl⟩, fun q => absurd q (by decide), fun q => absurd q (by decide), fun q0 q1 q2 q3 q4 q5 q6 => absurd rfl q4⟩
  | 5, _ => eX11_nameOf hFC ⟨fun q => absurd q (by decide), fun q => absurd q (by decide), fun q => absurd q (by decide), fun q => absurd q (by decide), fun q => absurd q (by decide), fun _ => ⟨rfl, rfl⟩, fun q => absurd q (by decide), fun q0 q1 q2 q3 q4 q5 q6 => absurd rfl q5⟩
  | 6, _ => eX11_nameOf hFC ⟨fun q => absurd q (by decide), fun q => absurd q (by decide), fun q => absurd q (by decide), fun q => absurd q (by decide), fun q => absurd q (by decide), fun q => absurd q (by decide), fun _ => ⟨rfl, rfl⟩, fun q0 q1 q2 q3 q4 q5 q6 => absurd rfl q6⟩
  | 7, _ => eX11_nameOf hFC ⟨fun q => absurd q (by decide), fun q => absurd q (by decide), fun q => absurd q (by decide), fun q => absurd q (by decide), fun q => absurd q (by decide), fun q => absurd q (by decide), fun q => absurd q (by decide), fun _ _ _ _ _ _ _ => ⟨rfl, rfl⟩⟩
  | i + 8, h => absurd h (by omega)
/-- the command's word -/
theorem kv_verb (hFS : cw_FS (cw_Fc K) (cw_sd K) (cw_sv K)) (hFV : cw_FV K) (hFC : cw_FC K) (h : cu L kd a e va I J) : (cw_C (cc_w K) mX5_findVerb [.ref (cw_a (cc_w K) 15)] I (some .null) I ∧ cw_C (cr_w K) mX11_commandHere [.ref (cw_a (cr_w K) 0)] J (some (.int (-1))) J) ∨ ∃ w, w < 8 ∧ cw_C (cc_w K) mX5_findVerb [.ref (cw_a (cc_w K) 15)] I (some (.ref (cw_vd K w))) I ∧ cw_C (cr_w K) mX11_commandHere [.ref (cw_a (cr_w K) 0)] J (some (.int (nI w))) J := by
  have loop : ∀ d i : Nat, i + d = 8 → (bX5_findVerb_15_2 K (some .null) I (nI i) I ∧ bX11_commandHere_0_2 K (some (.int (-1))) J (nI i) J) ∨ ∃ w, w < 8 ∧ bX5_findVerb_15_2 K (some (.ref (cw_vd K w))) I (nI i) I ∧ bX11_commandHere_0_2 K (some (.int (nI w))) J (nI i) J := by
    intro d
    induction d with
    | zero =>
      intro i hi
      refine Or.inl ⟨tbX5_findVerb_15_2 hFV (br_t ?_ ⟨rfl, rfl⟩), tbX11_commandHere_0_2 (br_t ?_ ⟨rfl, rfl⟩)⟩
      · rw [show i = 8 by omega]; exact Int32.le_refl _
      · rw [show i = 8 by omega]; decide
    | succ d ih =>
      intro i hi
      have z1 : ¬ (8 : Int32) ≤ nI i := fun z => absurd ((nI_leI (a := 8) (by omega) (by omega)).mp z) (by omega)
      have z2 : ¬ (7 : Int32) < nI i := fun z => absurd ((nI_ltI (a := 7) (by omega) (by omega)).mp z) (by omega)
      have ei : (nI i).toNatClampNeg = i := nI_clamp (by omega)
      have hin : vp_in (nI i) 8 := vp_in_nI (by omega) (by omega)
      obtain ⟨b, wa, wb, _⟩ := kw_isWord (K := K) hFS h (j := 2 + i) (by omega)
      have wa2 : cw_C (cc_w K) mX5_isWord [.ref (cw_a (cc_w K) 15), .ref (cw_sd K (2 + (nI i).toNatClampNeg))] I (some (.int (if b then 1 else 0))) I := by rw [ei]; exact wa
      have hn := sr_nameOf (K := K) (J := J) hFC i (by omega)
      cases b with
      | true =>
        refine Or.inr ⟨i, by omega, tbX5_findVerb_15_2 hFV (br_f z1 ⟨hin, by rw [ei]; omega, _, _, wa2, fun q => absurd q (by decide), fun _ => ⟨hin, by rw [ei], rfl⟩⟩), tbX11_commandHere_0_2 (br_f z2 ⟨_, _, hn, _, _, wb, fun q => absurd q (by decide), fun _ => ⟨rfl, rfl⟩⟩)⟩
      | false =>
        have e1 : nI i + 1 = nI (i + 1) := by rw [nI_1]
        rcases ih (i + 1) (by omega) with ⟨h1, h2⟩ | ⟨w, hw, h1, h2⟩
        · exact Or.inl ⟨tbX5_findVerb_15_2 hFV (br_f z1 ⟨hin, by rw [ei]; omega, _, _, wa2, fun _ => (by rw [e1]; exact h1), fun q => absurd rfl q⟩), tbX11_commandHere_0_2 (br_f z2 ⟨_, _, hn, _, _, wb, fun _ => (by rw [e1]; exact h2), fun q => absurd rfl q⟩)⟩
        · exact Or.inr ⟨w, hw, tbX5_findVerb_15_2 hFV (br_f z1 ⟨hin, by rw [ei]; omega, _, _, wa2, fun _ => (by rw [e1]; exact h1), fun q => absurd rfl q⟩), tbX11_commandHere_0_2 (br_f z2 ⟨_, _, hn, _, _, wb, fun _ => (by rw [e1]; exact h2), fun q => absurd rfl q⟩)⟩
  rcases loop 8 0 (by omega) with ⟨h1, h2⟩ | ⟨w, hw, h1, h2⟩
  · exact Or.inl ⟨eX5_findVerb_15 h1, eX11_commandHere_0 h2⟩
  · exact Or.inr ⟨w, hw, eX5_findVerb_15 h1, eX11_commandHere_0 h2⟩
/-- a number of a command -/
theorem ka_num (h : cu L kd a e va I J) {t : Nat} (ht : t < 120) : ∃ b I2 J2, cw_C (cc_w K) mX5_takeNumber [.ref (cw_a (cc_w K) 15), .int 0, .int 99] I (some (.int b)) I2 ∧ cw_C (cr_w K) mX11_parseNumber [.ref (cw_a (cr_w K) 0), .int (nI t)] J (some (.int b)) J2 ∧ ((b = 0 ∧ sp_RE I2 J2 ∧ fc I J I2 J2) ∨ (b = 1 ∧ ∃ d, d ≤ 99 ∧ I2 15 5 = nI d ∧ (∃ kd a e va, cu L kd a e va I2 J2) ∧ kf I (cw_st J 10 t (nI d)) I2 J2)) := by
  have hI := cu_cI h (c := 2) (by omega)
  have hJ := cu_cJ h (c := 2) (by omega)
  by_cases z : kd = 2
  · subst z
    have hn := ks_number (K := K) h
    have hva : ∃ d, d ≤ 99 ∧ va = nI d := by
      obtain ⟨_, ⟨_, _, g3⟩, _⟩ := h
      rcases g3 with g3 | g3 | g3 | g3 | g3
      · omega
      · omega
      · exact g3.2.2.2.2
      · omega
      · omega
    obtain ⟨d, hd, ed⟩ := hva
    have h18 : J 0 18 = nI d := by rw [h.2.2.2.2.2.2.2.2.1, ed]
    rw [ed] at hn
    have hC2 : cu L 2 a e va (cw_st I 15 5 (nI d)) (cw_st J 10 t (nI d)) := h
    obtain ⟨kd2, a2, e2, va2, I2, J2, a1, b1, h2, f2, f3⟩ := kn_next (K := K) hC2
    have r1 : (0 : Int32) ≤ nI d := nI_le (a := 0) (by omega) (by omega)
    have r2 : nI d ≤ 99 := nI_le (b := 99) hd (by omega)
    refine ⟨1, I2, J2, eX5_takeNumber_15 ⟨fun _ => ⟨_, _, hn, fun q => absurd r1 (Int32.not_le.mpr q), fun _ => ⟨fun _ => ⟨_, a1, rfl, rfl⟩, fun q => absurd r2 q⟩⟩, fun q => absurd (hI.mpr rfl) q⟩, eX11_parseNumber_0 ⟨fun _ => ⟨vp_in_nI (by omega) (by omega), J2, ?_, rfl, rfl⟩, fun q => absurd (hJ.mpr rfl) q⟩, Or.inr ⟨rfl, d, hd, f3.trans rfl, ⟨_, _, _, _, h2⟩, ⟨fun o ho => (f2.1 o ho).trans (by simp [cw_up, ho]), f2.2.1, f2.2.2⟩⟩⟩
    rw [h18, nI_clamp (by omega)]; exact b1
  · have h2 := kw_RE h 1
    exact ⟨0, _, _, eX5_takeNumber_15 ⟨fun q => absurd (hI.mp q) z, fun _ => ⟨_, _, sc_refuse 1, Or.inl rfl, rfl, rfl⟩⟩, eX11_parseNumber_0 ⟨fun q => absurd (hJ.mp q) z, fun _ => ⟨_, _, sr_wrong 1, Or.inl rfl, rfl, rfl⟩⟩, Or.inl ⟨rfl, h2.1, h2.2.fc⟩⟩
/-- a name of a command -/
theorem ka_nam (h : cu L kd a e va I J) (hs : sx k nl nb I J) {t : Nat} (ht : t < 120) : ∃ b I2 J2, cw_C (cc_w K) mX5_takeKnownName [.ref (cw_a (cc_w K) 15), .ref (cw_a (cc_w K) 5)] I (some (.int b)) I2 ∧ cw_C (cr_w K) mX11_parseSibling [.ref (cw_a (cr_w K) 0), .int (nI t)] J (some (.int b)) J2 ∧ ((b = 0 ∧ sp_RE I2 J2 ∧ fc I J I2 J2) ∨ (b = 1 ∧ ∃ d, d < k ∧ I2 15 5 = nI d ∧ (∃ kd a e va, cu L kd a e va I2 J2) ∧ kf I (cw_st J 10 t (nI d)) I2 J2)) := by
  have hI := cu_cI h (c := 1) (by omega)
  have hJ := cu_cJ h (c := 1) (by omega)
  have hc0 := h
  obtain ⟨⟨hL, _, _, t4⟩, ⟨g1, g2, g3⟩, h1, h2, h3, h4, h5, h6, h7, h8⟩ := hc0
  obtain ⟨hk, k1, k2, hN, hB⟩ := hs
  have eI : I 15 4 - I 15 3 = nI (e - a) := by rw [h2, h3]; exact sp_sub g1
  have eJ : J 0 15 - J 0 17 = nI (e - a) := by rw [h4, h6]; exact sp_sub g1
  have hin : vp_in (nI t) 120 := vp_in_nI (by omega) (by omega)
  have et : (nI t).toNatClampNeg = t := nI_clamp (by omega)
  by_cases z : kd = 1
  · by_cases y : e - a ≤ 6
    · have yJ : J 0 15 - J 0 17 ≤ 6 := by rw [eJ]; exact nI_le (b := 6) y (by omega)
      obtain ⟨r, hr, fa, fb⟩ := sn_5 (K := K) (a := a) (len := e - a) hk k1 k2 hN hB t4 hL (by omega)
      rw [← eI, ← h2] at fa
      rw [← eJ, ← h6] at fb
      have sw : cw_C (cr_w K) mX11_isShortWord [.ref (cw_a (cr_w K) 0)] J (some (.int 1)) J := eX11_isShortWord_0 ⟨fun _ => ⟨fun _ => ⟨rfl, rfl⟩, fun q => absurd yJ q⟩, fun q => absurd (hJ.mpr z) q⟩
      have hC2 : cu L kd a e va (cw_st I 15 5 r) (cw_st J 10 t r) := h
      rcases sp_okw_n1 hr hk with rfl | ⟨hr1, s, hs, rfl⟩
      · have h2r := kw_RE hC2 3
        have f2 : fc I J (kw_I (cw_st I 15 5 (-1)) 3) (kw_J (cw_st J 10 t (-1)) 3) := ⟨fun o ho _ _ _ => (h2r.2.1 o ho).trans (by simp [cw_up, ho]), fun o h0 h10 => (h2r.2.2.1 o h0).trans (by simp [cw_up, h10]), fun p q1 q2 q3 => h2r.2.2.2 p q1 q2 q3⟩
        refine ⟨0, _, _, eX5_takeKnownName_15_5 ⟨fun _ => ⟨_, _, fa, fun q => absurd rfl q, fun _ => ⟨_, _, sc_refuse 3, Or.inl rfl, rfl, rfl⟩⟩, fun q => absurd (hI.mpr z) q⟩, eX11_parseSibling_0 ⟨_, _, sw, fun _ => ⟨_, _, fb, hin, hin, ?_⟩, fun q => absurd q (by decide)⟩, Or.inl ⟨rfl, h2r.1, f2⟩⟩
        rw [et]
        refine ⟨fun q => absurd (sp_st_at J 10 t (-1)) q, fun _ => ⟨_, _, sr_wrong 3, Or.inl rfl, rfl, rfl⟩⟩
      · obtain ⟨kd2, a2, e2, va2, I2, J2, a1, b1, h2', f2, f3⟩ := kn_next (K := K) hC2
        refine ⟨1, I2, J2, eX5_takeKnownName_15_5 ⟨fun _ => ⟨_, _, fa, fun _ => ⟨_, a1, rfl, rfl⟩, fun q => absurd q hr1⟩, fun q => absurd (hI.mpr z) q⟩, eX11_parseSibling_0 ⟨_, _, sw, fun _ => ⟨_, _, fb, hin, hin, ?_⟩, fun q => absurd q (by decide)⟩, Or.inr ⟨rfl, s, hs, f3.trans rfl, ⟨_, _, _, _, h2'⟩, ⟨fun o ho => (f2.1 o ho).trans (by simp [cw_up, ho]), f2.2.1, f2.2.2⟩⟩⟩
        rw [et]
        exact ⟨fun _ => ⟨_, b1, rfl, rfl⟩, fun q => absurd ((sp_st_at J 10 t (nI s)).symm.trans q) hr1⟩
    · have yJ : ¬ J 0 15 - J 0 17 ≤ 6 := by rw [eJ]; exact fun q => absurd ((nI_leI (b := 6) (by omega) (by omega)).mp q) (by omega)
      have fa := sn_no (K := K) (x := nI a) hk k1 hN (show 6 < e - a by omega) (by omega)
      rw [← eI, ← h2] at fa
      have hC2 : cu L kd a e va (cw_st I 15 5 (-1)) J := h
      have h2r := kw_RE hC2 3
      have f2 : fc I J (kw_I (cw_st I 15 5 (-1)) 3) (kw_J J 3) := ⟨fun o ho _ _ _ => (h2r.2.1 o ho).trans (by simp [cw_up, ho]), fun o h0 _ => h2r.2.2.1 o h0, fun p q1 q2 q3 => h2r.2.2.2 p q1 q2 q3⟩
      exact ⟨0, _, _, eX5_takeKnownName_15_5 ⟨fun _ => ⟨_, _, fa, fun q => absurd rfl q, fun _ => ⟨_, _, sc_refuse 3, Or.inl rfl, rfl, rfl⟩⟩, fun q => absurd (hI.mpr z) q⟩, eX11_parseSibling_0 ⟨_, _, eX11_isShortWord_0 ⟨fun _ => ⟨fun q => absurd q yJ, fun _ => ⟨_, _, sr_wrong 3, fun _ => ⟨rfl, rfl⟩, fun q => absurd rfl q⟩⟩, fun q => absurd (hJ.mpr z) q⟩, fun q => absurd rfl q, fun _ => ⟨rfl, rfl⟩⟩, Or.inl ⟨rfl, h2r.1, f2⟩⟩
  · have h2r := kw_RE h 1
    exact ⟨0, _, _, eX5_takeKnownName_15_5 ⟨fun q => absurd (hI.mp q) z, fun _ => ⟨_, _, sc_refuse 1, Or.inl rfl, rfl, rfl⟩⟩, eX11_parseSibling_0 ⟨_, _, eX11_isShortWord_0 ⟨fun q => absurd (hJ.mp q) z, fun _ => ⟨_, _, sr_wrong 1, Or.inl rfl, rfl, rfl⟩⟩, fun q => absurd rfl q, fun _ => ⟨rfl, rfl⟩⟩, Or.inl ⟨rfl, h2r.1, h2r.2.fc⟩⟩
theorem sc_putArgument {c i : Nat} {x : Int32} (h25 : I 25 0 = nI (c + 1)) (hc : c < 30) (hi : i < 3) : cw_C (cc_w K) mX7_putArgument [.ref (cw_a (cc_w K) 25), .int (nI i), .int x] I none (cw_st I 27 (c * 3 + i) x) := by
  refine eX7_putArgument_25 (br_f ?_ (br_f ?_ ⟨?_, rfl, ?_⟩))
  · rw [h25]; exact fun z => absurd ((nI_leI (b := 0) (by omega) (by omega)).mp z) (by omega)
  · exact fun z => absurd ((nI_leI (a := 3) (by omega) (by omega)).mp z) (by omega)
  · rw [h25, nI_pred, show nI c * 3 = nI (c * 3) from sp_mul c 3, nI_add]; exact vp_in_nI (by omega) (by omega)
  · rw [h25, nI_pred, show nI c * 3 = nI (c * 3) from sp_mul c 3, nI_add, nI_clamp (by omega)]
/-- what one argument's place of the class's loop wants and gives -/
def al (K : cw_K) (w i : Nat) (b : Int32) (I I2 : cw_M) : Prop := ∀ (r : Option Value) (F : cw_M), (b = 0 → r = some (.int 0) ∧ F = I2) → (b = 1 → bX5_readCommand_15_25_5_27 K r F w (nI (i + 1)) I2) → bX5_readCommand_15_25_5_27 K r F w (nI i) I
theorem al_num (hFS : cw_FS (cw_Fc K) (cw_sd K) (cw_sv K)) (hFV : cw_FV K) {w i c t : Nat} (hw : w < 8) (hp : cw_pat w < 16) (hi : i < (cw_tx (cw_pat w)).length) (hi3 : i < 3) (hch : ¬ (cw_tx (cw_pat w)).getD i 0 = 110) (h : cu L kd a e va I J) (h25 : I 25 0 = nI (c + 1)) (hc : c < 30) (ht : t < 120) : ∃ b I2 J2, al K w i b I I2 ∧ cw_C (cr_w K) mX11_parseNumber [.ref (cw_a (cr_w K) 0), .int (nI t)] J (some (.int b)) J2 ∧ ((b = 0 ∧ sp_RE I2 J2 ∧ fc I J I2 J2) ∨ (b = 1 ∧ ∃ d, d ≤ 99 ∧ (∃ kd a e va, cu L kd a e va I2 J2) ∧ ar I J I2 J2 (c * 3 + i) t (nI d))) := by
  obtain ⟨b, I2, J2, a1, b1, ho⟩ := ka_num (K := K) h ht
  have h100 := cw_tx_le (cw_pat w) hp
  have z1 : ¬ cw_ln (cw_pat w) ≤ nI i := fun z => absurd ((nI_leI (a := (cw_tx (cw_pat w)).length) (by omega) (by omega)).mp z) (by omega)
  have hin : vp_in (nI i) (cw_tx (cw_pat w)).length := vp_in_nI (by omega) (by omega)
  have hc1 : ¬ cw_ch (cw_pat w) (nI i) = 110 := by
    show ¬ (cw_tx (cw_pat w)).getD (nI i).toNatClampNeg 0 = 110
    rw [nI_clamp (by omega)]; exact hch
  rcases ho with ⟨rfl, hr, hf⟩ | ⟨rfl, d, hd, h5, hcu, hf⟩
  · exact ⟨0, I2, J2, fun r F f0 _ => tbX5_readCommand_15_25_5_27 hFS hFV ⟨hw, hp, br_f z1 ⟨hw, ⟨hp, hin⟩, fun _ => ⟨_, _, a1, fun q => absurd rfl q, fun _ => f0 rfl⟩, fun q => absurd q hc1⟩⟩, b1, Or.inl ⟨rfl, hr, hf⟩⟩
  · have e25 : I2 25 0 = nI (c + 1) := by rw [hf.1 25 (by omega)]; exact h25
    have hp2 := sc_putArgument (K := K) (x := I2 15 5) e25 hc hi3
    refine ⟨1, cw_st I2 27 (c * 3 + i) (nI d), J2, fun r F _ f1 => tbX5_readCommand_15_25_5_27 hFS hFV ⟨hw, hp, br_f z1 ⟨hw, ⟨hp, hin⟩, fun _ => ⟨_, _, a1, fun _ => ⟨_, hp2, ?_⟩, fun q => absurd q (by decide)⟩, fun q => absurd q hc1⟩⟩, b1, Or.inr ⟨rfl, d, hd, hcu, ?_, ?_, fun o h1 h2 => ?_, fun o h1 h2 => ?_, fun p q1 q2 q3 => ?_⟩⟩
    · rw [nI_1, h5]; exact f1 rfl
    · show upd (I2 27) (c * 3 + i) (nI d) = _
      rw [hf.1 27 (by omega)]
    · rw [hf.2.1 10 (by omega)]; rfl
    · exact (by simp [cw_up, h2] : (cw_st I2 27 (c * 3 + i) (nI d)) o = I2 o).trans (hf.1 o h1)
    · exact (hf.2.1 o h1).trans (by simp [cw_up, h2])
    · exact (hf.2.2 p q1 q2 q3).trans rfl
theorem al_nam (hFS : cw_FS (cw_Fc K) (cw_sd K) (cw_sv K)) (hFV : cw_FV K) {w i c t : Nat} (hw : w < 8) (hp : cw_pat w < 16) (hi : i < (cw_tx (cw_pat w)).length) (hi3 : i < 3) (hch : (cw_tx (cw_pat w)).getD i 0 = 110) (h : cu L kd a e va I J) (hs : sx k nl nb I J) (h25 : I 25 0 = nI (c + 1)) (hc : c < 30) (ht : t < 120) : ∃ b I2 J2, al K w i b I I2 ∧ cw_C (cr_w K) mX11_parseSibling [.ref (cw_a (cr_w K) 0), .int (nI t)] J (some (.int b)) J2 ∧ ((b = 0 ∧ sp_RE I2 J2 ∧ fc I J I2 J2) ∨ (b = 1 ∧ ∃ d, d < k ∧ (∃ kd a e va, cu L kd a e va I2 J2) ∧ ar I J I2 J2 (c * 3 + i) t (nI d))) := by
  obtain ⟨b, I2, J2, a1, b1, ho⟩ := ka_nam (K := K) h hs ht
  have h100 := cw_tx_le (cw_pat w) hp
  have z1 : ¬ cw_ln (cw_pat w) ≤ nI i := fun z => absurd ((nI_leI (a := (cw_tx (cw_pat w)).length) (by omega) (by omega)).mp z) (by omega)
  have hin : vp_in (nI i) (cw_tx (cw_pat w)).length := vp_in_nI (by omega) (by omega)
  have hc1 : cw_ch (cw_pat w) (nI i) = 110 := by
    show (cw_tx (cw_pat w)).getD (nI i).toNatClampNeg 0 = 110
    rw [nI_clamp (by omega)]; exact hch
  rcases ho with ⟨rfl, hr, hf⟩ | ⟨rfl, d, hd, h5, hcu, hf⟩
  · exact ⟨0, I2, J2, fun r F f0 _ => tbX5_readCommand_15_25_5_27 hFS hFV ⟨hw, hp, br_f z1 ⟨hw, ⟨hp, hin⟩, fun q => absurd hc1 q, fun _ => ⟨_, _, a1, fun _ => f0 rfl, fun q => absurd rfl q⟩⟩⟩, b1, Or.inl ⟨rfl, hr, hf⟩⟩
  · have e25 : I2 25 0 = nI (c + 1) := by rw [hf.1 25 (by omega)]; exact h25
    have hp2 := sc_putArgument (K := K) (x := I2 15 5) e25 hc hi3
    refine ⟨1, cw_st I2 27 (c * 3 + i) (nI d), J2, fun r F _ f1 => tbX5_readCommand_15_25_5_27 hFS hFV ⟨hw, hp, br_f z1 ⟨hw, ⟨hp, hin⟩, fun q => absurd hc1 q, fun _ => ⟨_, _, a1, fun q => absurd q (by decide), fun _ => ⟨_, hp2, ?_⟩⟩⟩⟩, b1, Or.inr ⟨rfl, d, hd, hcu, ?_, ?_, fun o h1 h2 => ?_, fun o h1 h2 => ?_, fun p q1 q2 q3 => ?_⟩⟩
    · rw [nI_1, h5]; exact f1 rfl
    · show upd (I2 27) (c * 3 + i) (nI d) = _
      rw [hf.1 27 (by omega)]
    · rw [hf.2.1 10 (by omega)]; rfl
    · exact (by simp [cw_up, h2] : (cw_st I2 27 (c * 3 + i) (nI d)) o = I2 o).trans (hf.1 o h1)
    · exact (hf.2.1 o h1).trans (by simp [cw_up, h2])
    · exact (hf.2.2 p q1 q2 q3).trans rfl
end SCR
