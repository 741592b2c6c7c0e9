/-! ## the parser's cursor, both sides -/
def cu (L kd a e : Nat) (va : Int32) (I J : cw_M) : Prop := sp_TL L I J ∧ tp_tf (J 3) L kd a e va ∧ I 15 2 = nI kd ∧ I 15 3 = nI a ∧ I 15 4 = nI e ∧ J 0 15 = nI e ∧ J 0 16 = tp_ty kd ∧ J 0 17 = nI a ∧ J 0 18 = va ∧ sp_RE I J
/-- nothing but the parsers' own numbers has changed -/
def kf (I J I2 J2 : cw_M) : Prop := (∀ o, o ≠ 15 → I2 o = I o) ∧ (∀ o, o ≠ 0 → J2 o = J o) ∧ ∀ p, p < 15 → p ≠ 5 → p ≠ 6 → J2 0 p = J 0 p
theorem kf.refl (I J : cw_M) : kf I J I J := ⟨fun _ _ => rfl, fun _ _ => rfl, fun _ _ _ _ => rfl⟩
theorem kf.trans {I J I2 J2 I3 J3 : cw_M} (h : kf I J I2 J2) (g : kf I2 J2 I3 J3) : kf I J I3 J3 := ⟨fun o ho => (g.1 o ho).trans (h.1 o ho), fun o ho => (g.2.1 o ho).trans (h.2.1 o ho), fun p h1 h2 h3 => (g.2.2 p h1 h2 h3).trans (h.2.2 p h1 h2 h3)⟩
theorem cu_kd {L kd a e : Nat} {va : Int32} {I J : cw_M} (h : cu L kd a e va I J) : kd < 6 ∧ kd ≠ 4 := by
  obtain ⟨_, ⟨_, _, h1⟩, _⟩ := h
  rcases h1 with h1 | h1 | h1 | h1 | h1 <;> omega
theorem tp_ty_eq : ∀ kd, kd < 6 → kd ≠ 4 → ∀ c, c < 4 → (tp_ty kd = nI c ↔ kd = c) := by decide
section CUR
variable {K : cw_K} {I J : cw_M} {L kd a e : Nat} {va : Int32}
theorem cu_cI (h : cu L kd a e va I J) {c : Nat} (hc : c < 6) : (I 15 2 = nI c ↔ kd = c) := by
  have h2 := cu_kd h
  rw [h.2.2.1]
  exact nI_eq (by omega) (by omega)
theorem cu_cJ (h : cu L kd a e va I J) {c : Nat} (hc : c < 4) : (J 0 16 = nI c ↔ kd = c) := by
  have h2 := cu_kd h
  rw [h.2.2.2.2.2.2.1]
  exact tp_ty_eq kd h2.1 h2.2 c hc
abbrev kw_I (I : cw_M) (c : Int32) : cw_M := cw_up I 15 (upd (upd (I 15) 0 c) 1 (I 15 3))
abbrev kw_J (J : cw_M) (c : Int32) : cw_M := cw_up J 0 (upd (upd (J 0) 5 c) 6 (J 0 17))
theorem sc_refuse (c : Int32) : cw_C (cc_w K) mX5_refuse [.ref (cw_a (cc_w K) 15), .int c] I (some (.int 0)) (kw_I I c) := by
  refine eX5_refuse_15 ⟨rfl, ?_⟩
  rw [show (cw_st I 15 0 c) 15 3 = I 15 3 from rfl, show cw_st I 15 0 c = cw_up I 15 (upd (I 15) 0 c) from rfl, tp_upst]
theorem sr_wrong (c : Int32) : rw_C K mY11_wrong [.ref (cw_a (cc_w K) 0), .int c] J (some (.int 0)) (kw_J J c) := by
  refine eY11_wrong_0 ⟨rfl, ?_⟩
  rw [show (cw_st J 0 5 c) 0 17 = J 0 17 from rfl, show cw_st J 0 5 c = cw_up J 0 (upd (J 0) 5 c) from rfl, tp_upst]
/-- both refuse -/
theorem kw_RE (h : cu L kd a e va I J) (c : Int32) : sp_RE (kw_I I c) (kw_J J c) ∧ kf I J (kw_I I c) (kw_J J c) := by
  refine ⟨⟨rfl, ?_⟩, fun o ho => by simp [cw_up, ho], fun o ho => by simp [cw_up, ho], fun p h1 h2 h3 => ?_⟩
  · show I 15 3 = J 0 17
    rw [h.2.2.2.1, h.2.2.2.2.2.2.2.1]
  · show upd (upd (J 0) 5 c) 6 (J 0 17) p = J 0 p
    rw [sp_upd_ne _ _ h3, sp_upd_ne _ _ h2]
/-- the next token -/
theorem kn_next (h : cu L kd a e va I J) : ∃ kd2 a2 e2 va2 I2 J2, cw_C (cc_w K) mX5_advance [.ref (cw_a (cc_w K) 15)] I none I2 ∧ rw_C K mY11_token [.ref (cw_a (cc_w K) 0)] J none J2 ∧ cu L kd2 a2 e2 va2 I2 J2 ∧ kf I J I2 J2 ∧ I2 15 5 = I 15 5 := by
  obtain ⟨hT, hf, h1, h2, h3, h4, h5, h6, h7, h8⟩ := h
  obtain ⟨kd2, a2, e2, va2, _, hf2, a1, b1⟩ := tk_next (K := K) hT hf.2.1 h3 h4
  refine ⟨kd2, a2, e2, va2, _, _, a1, b1, ⟨hT, hf2, rfl, rfl, rfl, rfl, rfl, rfl, rfl, h8⟩, ⟨fun o ho => by simp [cw_up, ho], fun o ho => by simp [cw_up, ho], fun p hp _ _ => ?_⟩, rfl⟩
  show tp_g (J 0) (nI e2) (tp_ty kd2) (nI a2) va2 p = J 0 p
  unfold tp_g
  rw [if_neg (by omega), if_neg (by omega), if_neg (by omega), if_neg (by omega)]
theorem cw_tx_le : ∀ j, j < 16 → (cw_tx j).length ≤ 100 := by decide
/-- the same word? -/
theorem kw_isWord (hFS : cw_FS (cw_Fc K) (cw_sd K) (cw_sv K)) (h : cu L kd a e va I J) {j : Nat} (hj : cw_tk j) : ∃ b : Bool, cw_C (cc_w K) mX5_isWord [.ref (cw_a (cc_w K) 15), .ref (cw_sd K j)] I (some (.int (if b then 1 else 0))) I ∧ rw_C K mY11_isWord [.ref (cw_a (cc_w K) 0), .ref (cw_sd K j)] J (some (.int (if b then 1 else 0))) J ∧ (b = true → kd = 1) := by
  have hI := cu_cI h (c := 1) (by omega)
  have hJ := cu_cJ h (c := 1) (by omega)
  obtain ⟨⟨hL, _, _, t4⟩, ⟨g1, g2, _⟩, h1, h2, h3, h4, h5, h6, h7, h8⟩ := h
  have hl := cw_tx_le j (by omega)
  have eI : I 15 4 - I 15 3 = nI (e - a) := by rw [h2, h3]; exact sp_sub g1
  have eJ : J 0 15 - J 0 17 = nI (e - a) := by rw [h4, h6]; exact sp_sub g1
  by_cases z : kd = 1
  · by_cases y : e - a = (cw_tx j).length
    · have loop : ∀ d i : Nat, i + d = (cw_tx j).length → ∃ b : Bool, bX5_isWord_15_28 K (some (.int (if b then 1 else 0))) I j (nI i) I ∧ bY11_isWord_0_28 K (some (.int (if b then 1 else 0))) J j (nI i) J := by
        intro d
        induction d with
        | zero =>
          intro i hi
          have z1 : cw_ln j ≤ nI i := by
            show nI (cw_tx j).length ≤ nI i
            rw [show i = (cw_tx j).length by omega]
            exact Int32.le_refl _
          exact ⟨true, tbX5_isWord_15_28 hFS ⟨hj, br_t z1 ⟨rfl, rfl⟩⟩, tbY11_isWord_0_28 hFS ⟨hj, br_t z1 ⟨rfl, rfl⟩⟩⟩
        | succ d ih =>
          intro i hi
          have z1 : ¬ cw_ln j ≤ nI i := fun q => absurd ((nI_leI (a := (cw_tx j).length) (by omega) (by omega)).mp q) (by omega)
          have i1 : vp_in (I 15 3 + nI i) 600 := by rw [h2, nI_add]; exact vp_in_nI (by omega) (by omega)
          have i2 : vp_in (J 0 17 + nI i) 600 := by rw [h6, nI_add]; exact vp_in_nI (by omega) (by omega)
          have i3 : vp_in (nI i) (cw_tx j).length := vp_in_nI (by omega) (by omega)
          have eb : I 2 (I 15 3 + nI i).toNatClampNeg = J 3 (J 0 17 + nI i).toNatClampNeg := by
            rw [h2, h6, nI_add, nI_clamp (by omega)]
            exact t4 _ (by omega)
          by_cases w : J 3 (J 0 17 + nI i).toNatClampNeg = cw_ch j (nI i)
          · obtain ⟨b, a1, b1⟩ := ih (i + 1) (by omega)
            refine ⟨b, tbX5_isWord_15_28 hFS ⟨hj, br_f z1 ⟨i1, ⟨hj, i3⟩, fun _ => ?_, fun q => absurd (by rw [eb]; exact w) q⟩⟩, tbY11_isWord_0_28 hFS ⟨hj, br_f z1 ⟨i2, ⟨hj, i3⟩, fun _ => ?_, fun q => absurd w q⟩⟩⟩
            · rw [nI_1]; exact a1
            · rw [nI_1]; exact b1
          · exact ⟨false, tbX5_isWord_15_28 hFS ⟨hj, br_f z1 ⟨i1, ⟨hj, i3⟩, fun q => absurd (by rw [eb] at q; exact q) w, fun _ => ⟨rfl, rfl⟩⟩⟩, tbY11_isWord_0_28 hFS ⟨hj, br_f z1 ⟨i2, ⟨hj, i3⟩, fun q => absurd q w, fun _ => ⟨rfl, rfl⟩⟩⟩⟩
      obtain ⟨b, a1, b1⟩ := loop (cw_tx j).length 0 (by omega)
      refine ⟨b, eX5_isWord_15 hFS ⟨fun q => absurd (hI.mpr z) q, fun _ => ⟨hj, fun _ => a1, fun q => absurd ?_ q⟩⟩, eY11_isWord_0 hFS ⟨fun q => absurd (hJ.mpr z) q, fun _ => ⟨hj, fun _ => b1, fun q => absurd ?_ q⟩⟩, fun _ => z⟩
      · rw [eI, y]; rfl
      · rw [eJ, y]; rfl
    · have y2 : ¬ nI (e - a) = cw_ln j := fun q => y ((nI_eq (b := (cw_tx j).length) (by omega) (by omega)).mp q)
      refine ⟨false, eX5_isWord_15 hFS ⟨fun q => absurd (hI.mpr z) q, fun _ => ⟨hj, fun q => absurd ?_ y2, fun _ => ⟨rfl, rfl⟩⟩⟩, eY11_isWord_0 hFS ⟨fun q => absurd (hJ.mpr z) q, fun _ => ⟨hj, fun q => absurd ?_ y2, fun _ => ⟨rfl, rfl⟩⟩⟩, fun q => by cases q⟩
      · rw [eI] at q; exact q
      · rw [eJ] at q; exact q
  · exact ⟨false, eX5_isWord_15 hFS ⟨fun _ => ⟨rfl, rfl⟩, fun q => absurd (hI.mp q) z⟩, eY11_isWord_0 hFS ⟨fun _ => ⟨rfl, rfl⟩, fun q => absurd (hJ.mp q) z⟩, fun q => by cases q⟩
/-- what a step of both parsers leaves: both refuse, or both go on -/
def ko (L : Nat) (I J : cw_M) (b : Int32) (I2 J2 : cw_M) : Prop := (b = 0 ∧ sp_RE I2 J2 ∧ kf I J I2 J2) ∨ (b = 1 ∧ (∃ kd a e va, cu L kd a e va I2 J2) ∧ kf I J I2 J2)
theorem ks_semicolon (h : cu L kd a e va I J) : ∃ b I2 J2, cw_C (cc_w K) mX5_takeSemicolon [.ref (cw_a (cc_w K) 15)] I (some (.int b)) I2 ∧ rw_C K mY11_semicolon [.ref (cw_a (cc_w K) 0)] J (some (.int b)) J2 ∧ ko L I J b I2 J2 := by
  have hI := cu_cI h (c := 3) (by omega)
  have hJ := cu_cJ h (c := 3) (by omega)
  by_cases z : kd = 3
  · obtain ⟨kd2, a2, e2, va2, I2, J2, a1, b1, h2, f2, _⟩ := kn_next (K := K) h
    exact ⟨1, I2, J2, eX5_takeSemicolon_15 ⟨fun _ => ⟨_, a1, rfl, rfl⟩, fun q => absurd (hI.mpr z) q⟩, eY11_semicolon_0 ⟨fun _ => ⟨_, b1, rfl, rfl⟩, fun q => absurd (hJ.mpr z) q⟩, Or.inr ⟨rfl, ⟨_, _, _, _, h2⟩, f2⟩⟩
  · have h2 := kw_RE h 1
    exact ⟨0, _, _, eX5_takeSemicolon_15 ⟨fun q => absurd (hI.mp q) z, fun _ => ⟨_, _, sc_refuse 1, Or.inl rfl, rfl, rfl⟩⟩, eY11_semicolon_0 ⟨fun q => absurd (hJ.mp q) z, fun _ => ⟨_, _, sr_wrong 1, Or.inl rfl, rfl, rfl⟩⟩, Or.inl ⟨rfl, h2⟩⟩
/-- the number of a token -/
theorem ks_number (h : cu L 2 a e va I J) : cw_C (cc_w K) mX5_numberOfToken [.ref (cw_a (cc_w K) 15)] I (some (.int va)) I := by
  obtain ⟨⟨hL, _, _, t4⟩, ⟨g1, g2, g3⟩, h1, h2, h3, h4, h5, h6, h7, h8⟩ := h
  have g4 : a < e ∧ e ≤ a + 2 ∧ va = tp_nv (J 3) a (e - a) := by
    rcases g3 with g3 | g3 | g3 | g3 | g3
    · omega
    · omega
    · exact ⟨g3.2.1, g3.2.2.1, g3.2.2.2.1⟩
    · omega
    · omega
  have loop : ∀ d c : Nat, c + d = e - a → bX5_numberOfToken_15_7 K (some (.int va)) I (tp_nv (J 3) a c) (nI (a + c)) I := by
    intro d
    induction d with
    | zero =>
      intro c hc
      refine tbX5_numberOfToken_15_7 (br_t ?_ ⟨?_, rfl⟩)
      · rw [h3, show a + c = e by omega]; exact Int32.le_refl _
      · rw [g4.2.2, show c = e - a by omega]
    | succ d ih =>
      intro c hc
      refine tbX5_numberOfToken_15_7 (br_f ?_ ⟨vp_in_nI (by omega) (by omega), ?_⟩)
      · rw [h3]; exact fun q => absurd ((nI_leI (by omega) (by omega)).mp q) (by omega)
      · have h9 := ih (c + 1) (by omega)
        rw [nI_1, nI_clamp (by omega), t4 (a + c) (by omega)]
        exact h9
  refine eX5_numberOfToken_15 ?_
  rw [h2]
  exact loop (e - a) 0 (by omega)
/-- a number of the setup, stored by the reference at once -/
theorem ks_ranged (h : cu L kd a e va I J) {to lo hi : Nat} (hto : to < 2120) (hlo : lo ≤ 99) (hhi : hi ≤ 99) : ∃ b I2 J2, cw_C (cc_w K) mX5_takeNumber [.ref (cw_a (cc_w K) 15), .int (nI lo), .int (nI hi)] I (some (.int b)) I2 ∧ rw_C K mY11_parseRanged [.ref (cw_a (cc_w K) 0), .int (nI to), .int (nI lo), .int (nI hi)] J (some (.int b)) J2 ∧ ((b = 0 ∧ sp_RE I2 J2 ∧ kf I J I2 J2) ∨ (b = 1 ∧ ∃ d, lo ≤ d ∧ d ≤ hi ∧ I2 15 5 = nI d ∧ (∃ kd a e va, cu L kd a e va I2 J2) ∧ kf I (cw_st J 1 to (nI d)) I2 J2)) := by
  have hI := cu_cI h (c := 2) (by omega)
  have hJ := cu_cJ h (c := 2) (by omega)
  by_cases z : kd = 2
  · subst z
    have hn := ks_number (K := K) h
    have hva : ∃ d, d ≤ 99 ∧ va = nI d := by
      obtain ⟨_, ⟨_, _, g3⟩, _⟩ := h
      rcases g3 with g3 | g3 | g3 | g3 | g3
      · omega
      · omega
      · exact g3.2.2.2.2
      · omega
      · omega
    obtain ⟨d, hd, ed⟩ := hva
    have h18 : J 0 18 = nI d := by rw [h.2.2.2.2.2.2.2.2.1, ed]
    rw [ed] at hn
    have hC : cu L 2 a e va (cw_st I 15 5 (nI d)) J := h
    by_cases y : lo ≤ d ∧ d ≤ hi
    · have hC2 : cu L 2 a e va (cw_st I 15 5 (nI d)) (cw_st J 1 to (nI d)) := h
      obtain ⟨kd2, a2, e2, va2, I2, J2, a1, b1, h2, f2, f3⟩ := kn_next (K := K) hC2
      have r1 : nI lo ≤ nI d := nI_le y.1 (by omega)
      have r2 : nI d ≤ nI hi := nI_le y.2 (by omega)
      refine ⟨1, I2, J2, eX5_takeNumber_15 ⟨fun _ => ⟨_, _, hn, fun q => absurd r1 (Int32.not_le.mpr q), fun _ => ⟨fun _ => ⟨_, a1, rfl, rfl⟩, fun q => absurd r2 q⟩⟩, fun q => absurd (hI.mpr rfl) q⟩, eY11_parseRanged_0 ⟨fun _ => ⟨_, _, sr_in, fun _ => ⟨vp_in_nI (by omega) (by omega), J2, ?_, rfl, rfl⟩, fun q => absurd ?_ (sp_bit0 q)⟩, fun q => absurd (hJ.mpr rfl) q⟩, Or.inr ⟨rfl, d, y.1, y.2, f3.trans rfl, ⟨_, _, _, _, h2⟩, ⟨fun o ho => (f2.1 o ho).trans (by simp [cw_up, ho]), f2.2.1, f2.2.2⟩⟩⟩
      · rw [h18, nI_clamp (by omega)]; exact b1
      · rw [h18]; exact ⟨r1, r2⟩
    · have w : ¬ (nI lo ≤ nI d ∧ nI d ≤ nI hi) := fun q => y ⟨(nI_leI (by omega) (by omega)).mp q.1, (nI_leI (by omega) (by omega)).mp q.2⟩
      have h2 := kw_RE hC 2
      have f2 : kf I J (kw_I (cw_st I 15 5 (nI d)) 2) (kw_J J 2) := ⟨fun o ho => (h2.2.1 o ho).trans (by simp [cw_up, ho]), h2.2.2.1, h2.2.2.2⟩
      exact ⟨0, _, _, eX5_takeNumber_15 ⟨fun _ => ⟨_, _, hn, fun _ => ⟨_, _, sc_refuse 2, Or.inl rfl, rfl, rfl⟩, fun q => ⟨fun q2 => absurd ⟨Int32.not_lt.mp q, q2⟩ w, fun _ => ⟨_, _, sc_refuse 2, Or.inl rfl, rfl, rfl⟩⟩⟩, fun q => absurd (hI.mpr rfl) q⟩, eY11_parseRanged_0 ⟨fun _ => ⟨_, _, sr_in, fun q => absurd (sp_bit1 q) (by rw [h18]; exact w), fun _ => ⟨_, _, sr_wrong 2, Or.inl rfl, rfl, rfl⟩⟩, fun q => absurd (hJ.mpr rfl) q⟩, Or.inl ⟨rfl, h2.1, f2⟩⟩
  · have h2 := kw_RE h 1
    exact ⟨0, _, _, eX5_takeNumber_15 ⟨fun q => absurd (hI.mp q) z, fun _ => ⟨_, _, sc_refuse 1, Or.inl rfl, rfl, rfl⟩⟩, eY11_parseRanged_0 ⟨fun q => absurd (hJ.mp q) z, fun _ => ⟨_, _, sr_wrong 1, Or.inl rfl, rfl, rfl⟩⟩, Or.inl ⟨rfl, h2⟩⟩
end CUR
