/-! ## executing a script, both sides -/
/-- what stands between two commands -/
def xs (n k : Nat) (nl : Nat → Nat) (nb : Nat → Nat → Int32) (u q c : Nat) (f26 f27 g : Nat → Int32) (I J : cw_M) : Prop := (∃ v ow, sp_P n k v ow nl nb u q I J) ∧ J 0 9 = 0 ∧ I 25 0 = nI c ∧ I 26 = f26 ∧ I 27 = f27 ∧ J 10 = g
section EXE
variable {K : cw_K} {I J : cw_M} {n k u q c p t : Nat} {nl : Nat → Nat} {nb : Nat → Nat → Int32} {f26 f27 g : Nat → Int32}
/-- one command: both allow it or both do not, and both carry it out -/
def xo (K : cw_K) (n k : Nat) (nl : Nat → Nat) (nb : Nat → Nat → Int32) (u q c : Nat) (f26 f27 g : Nat → Int32) (w p t : Nat) (I J : cw_M) : Prop := ∃ b I1 J1, cw_C (cc_w K) mX7_isAllowed [.ref (cw_a (cc_w K) 25), .ref (cw_vd K w), .int (f27 p), .int (f27 (p + 1)), .int (f27 (p + 2))] I (some (.int b)) I1 ∧ cw_C (cr_w K) mX11_canDo [.ref (cw_a (cr_w K) 0), .int (nI w), .int (g (t + 1)), .int (g (t + 2)), .int (g (t + 3))] J (some (.int b)) J1 ∧ xs n k nl nb u q c f26 f27 g I1 J1 ∧ (b = 0 ∨ (b = 1 ∧ ∃ I2 J2, cw_C (cc_w K) mX7_carryOut [.ref (cw_a (cc_w K) 25), .ref (cw_vd K w), .int (f27 p), .int (f27 (p + 1)), .int (f27 (p + 2))] I1 none I2 ∧ cw_C (cr_w K) mX11_doIt [.ref (cw_a (cr_w K) 0), .int (nI w), .int (g (t + 1)), .int (g (t + 2)), .int (g (t + 3))] J1 none J2 ∧ xs n k nl nb u q c f26 f27 g I2 J2))
theorem sp_bit01 {pr : Prop} {d : Decidable pr} : (@ite Int32 pr d 1 0) = 0 ∨ (@ite Int32 pr d 1 0) = 1 := by
  by_cases h : pr
  · rw [if_pos h]; exact Or.inr rfl
  · rw [if_neg h]; exact Or.inl rfl
theorem xo_0 (hFV : cw_FV K) (h : xs n k nl nb u q c f26 f27 g I J) (hg : cg k 0 f27 g p t) : xo K n k nl nb u q c f26 f27 g 0 p t I J := by
  have h0 := h
  obtain ⟨⟨v, ow, hP⟩, h9, h25, h26, h27, h10⟩ := h
  have hc := hP.1
  have hk := hc.k6
  have hn := hc.n24
  obtain ⟨s, a, b, hs, ha, hb, q1, q2, q3, q4, q5, q6⟩ := hg.1 (Or.inl rfl)
  by_cases z : sp_rng n (nI a) (nI b)
  · have hab : a ≤ b := Nat.le_of_not_lt (fun y => z.2.2 ((nI_ltI (by omega) (by omega)).mpr y))
    have hbn : b < n := (nI_ltI (by omega) (by omega)).mp z.2.1.2
    have hO := hP.own (fC := sp_put (I 9) (nI s) a (b + 1)) (m := sp_put (J 1) (nI s) (2 + a) (2 + (b + 1))) (sp_okw_put hc.gI (sp_okw_nI hs) a (b + 1)) (sp_put_eq hc.oI hc.oJ (nI s) a (b + 1)) (sp_put_el (by omega))
    refine ⟨1, I, J, ?_, ?_, h0, Or.inr ⟨rfl, cw_up I 9 (sp_put (I 9) (nI s) a (b + 1)), cw_up J 1 (sp_put (J 1) (nI s) (2 + a) (2 + (b + 1))), ?_, ?_, ⟨v, _, hO⟩, h9, h25, h26, h27, h10⟩⟩
    · have h1 := sc_hasRun (K := K) hc.cv (x := nI a) (y := nI b)
      rw [if_pos z] at h1
      rw [q1, q3, q5]
      exact eX7_isAllowed_25 hFV ⟨by decide, vp_in_nI (n := 0) (N := 8) (by omega) (by omega), fun _ => ⟨_, _, h1, Or.inr rfl, rfl, rfl⟩, fun q => absurd q (by decide), fun q => absurd q (by decide), fun q => absurd q (by decide), fun q => absurd q (by decide), fun q => absurd q (by decide), fun q1 q2 q3 q4 q5 q6 => absurd (by decide) q1⟩
    · have h1 := sr_isRange (K := K) hc.rv (x := nI a) (y := nI b)
      rw [if_pos z] at h1
      rw [q2, q4, q6]
      exact eX11_canDo_0 ⟨fun _ => ⟨_, _, h1, Or.inr rfl, rfl, rfl⟩, fun q => absurd q (by decide), fun q => absurd q (by decide), fun q => absurd q (by decide), fun q => absurd q (by decide), fun q => absurd q (by decide), fun q => absurd q (by decide), fun q => absurd q (by decide), fun q0 q1 q2 q3 q4 q5 q6 q7 => absurd rfl q0⟩
    · rw [q1, q3, q5]
      refine eX7_carryOut_25 hFV ⟨by decide, vp_in_nI (n := 0) (N := 8) (by omega) (by omega), fun _ => ⟨_, ?_, rfl, rfl⟩, fun q => absurd q (by decide), fun q => absurd q (by decide), fun q => absurd q (by decide), fun q => absurd q (by decide), fun q => absurd q (by decide), fun q => absurd q (by decide), fun q => absurd q (by decide), fun q1 q2 q3 q4 q5 q6 q7 q8 => absurd (by decide) q1⟩
      rw [nI_1]
      exact sc_assign_9 (K := K) (x := nI s) (show a ≤ b + 1 by omega) (by omega)
    · rw [q2, q4, q6]
      exact eX11_doIt_0 ⟨fun _ => ⟨_, sr_own2 hab (by omega), rfl, rfl⟩, fun q => absurd q (by decide), fun q => absurd q (by decide), fun q => absurd q (by decide), fun q => absurd q (by decide), fun q => absurd q (by decide), fun q => absurd q (by decide), fun q0 q1 q2 q3 q4 q5 q6 => absurd rfl q0⟩
  · refine ⟨0, I, J, ?_, ?_, h0, Or.inl rfl⟩
    · have h1 := sc_hasRun (K := K) hc.cv (x := nI a) (y := nI b)
      rw [if_neg z] at h1
      rw [q1, q3, q5]
      exact eX7_isAllowed_25 hFV ⟨by decide, vp_in_nI (n := 0) (N := 8) (by omega) (by omega), fun _ => ⟨_, _, h1, Or.inl rfl, rfl, rfl⟩, fun q => absurd q (by decide), fun q => absurd q (by decide), fun q => absurd q (by decide), fun q => absurd q (by decide), fun q => absurd q (by decide), fun q1 q2 q3 q4 q5 q6 => absurd (by decide) q1⟩
    · have h1 := sr_isRange (K := K) hc.rv (x := nI a) (y := nI b)
      rw [if_neg z] at h1
      rw [q2, q4, q6]
      exact eX11_canDo_0 ⟨fun _ => ⟨_, _, h1, Or.inl rfl, rfl, rfl⟩, fun q => absurd q (by decide), fun q => absurd q (by decide), fun q => absurd q (by decide), fun q => absurd q (by decide), fun q => absurd q (by decide), fun q => absurd q (by decide), fun q => absurd q (by decide), fun q0 q1 q2 q3 q4 q5 q6 q7 => absurd rfl q0⟩
theorem xo_1 (hFV : cw_FV K) (h : xs n k nl nb u q c f26 f27 g I J) (hg : cg k 1 f27 g p t) : xo K n k nl nb u q c f26 f27 g 1 p t I J := by
  have h0 := h
  obtain ⟨⟨v, ow, hP⟩, h9, h25, h26, h27, h10⟩ := h
  have hc := hP.1
  have hk := hc.k6
  have hn := hc.n24
  obtain ⟨a, b, ha, hb, q1, q2, q3, q4⟩ := hg.2.1 rfl
  by_cases z : sp_rng n (nI a) (nI b)
  · have hab : a ≤ b := Nat.le_of_not_lt (fun y => z.2.2 ((nI_ltI (by omega) (by omega)).mpr y))
    have hbn : b < n := (nI_ltI (by omega) (by omega)).mp z.2.1.2
    have hO := hP.own (fC := sp_put (I 9) (-1) a (b + 1)) (m := sp_put (J 1) (-1) (2 + a) (2 + (b + 1))) (sp_okw_put hc.gI (Or.inl rfl) a (b + 1)) (sp_put_eq hc.oI hc.oJ (-1) a (b + 1)) (sp_put_el (by omega))
    refine ⟨1, I, J, ?_, ?_, h0, Or.inr ⟨rfl, cw_up I 9 (sp_put (I 9) (-1) a (b + 1)), cw_up J 1 (sp_put (J 1) (-1) (2 + a) (2 + (b + 1))), ?_, ?_, ⟨v, _, hO⟩, h9, h25, h26, h27, h10⟩⟩
    · have h1 := sc_hasRun (K := K) hc.cv (x := nI a) (y := nI b)
      rw [if_pos z] at h1
      rw [q1, q3]
      exact eX7_isAllowed_25 hFV ⟨by decide, vp_in_nI (n := 1) (N := 8) (by omega) (by omega), fun q => absurd q (by decide), fun _ => ⟨_, _, h1, Or.inr rfl, rfl, rfl⟩, fun q => absurd q (by decide), fun q => absurd q (by decide), fun q => absurd q (by decide), fun q => absurd q (by decide), fun q1 q2 q3 q4 q5 q6 => absurd (by decide) q2⟩
    · have h1 := sr_isRange (K := K) hc.rv (x := nI a) (y := nI b)
      rw [if_pos z] at h1
      rw [q2, q4]
      exact eX11_canDo_0 ⟨fun q => absurd q (by decide), fun _ => ⟨_, _, h1, Or.inr rfl, rfl, rfl⟩, fun q => absurd q (by decide), fun q => absurd q (by decide), fun q => absurd q (by decide), fun q => absurd q (by decide), fun q => absurd q (by decide), fun q => absurd q (by decide), fun q0 q1 q2 q3 q4 q5 q6 q7 => absurd rfl q1⟩
    · rw [q1, q3]
      refine eX7_carryOut_25 hFV ⟨by decide, vp_in_nI (n := 1) (N := 8) (by omega) (by omega), fun q => absurd q (by decide), fun _ => ⟨_, ?_, rfl, rfl⟩, fun q => absurd q (by decide), fun q => absurd q (by decide), fun q => absurd q (by decide), fun q => absurd q (by decide), fun q => absurd q (by decide), fun q => absurd q (by decide), fun q1 q2 q3 q4 q5 q6 q7 q8 => absurd (by decide) q2⟩
      rw [nI_1]
      exact sc_assign_9 (K := K) (x := -1) (show a ≤ b + 1 by omega) (by omega)
    · rw [q2, q4]
      exact eX11_doIt_0 ⟨fun q => absurd q (by decide), fun _ => ⟨_, sr_own2 hab (by omega), rfl, rfl⟩, fun q => absurd q (by decide), fun q => absurd q (by decide), fun q => absurd q (by decide), fun q => absurd q (by decide), fun q => absurd q (by decide), fun q0 q1 q2 q3 q4 q5 q6 => absurd rfl q1⟩
  · refine ⟨0, I, J, ?_, ?_, h0, Or.inl rfl⟩
    · have h1 := sc_hasRun (K := K) hc.cv (x := nI a) (y := nI b)
      rw [if_neg z] at h1
      rw [q1, q3]
      exact eX7_isAllowed_25 hFV ⟨by decide, vp_in_nI (n := 1) (N := 8) (by omega) (by omega), fun q => absurd q (by decide), fun _ => ⟨_, _, h1, Or.inl rfl, rfl, rfl⟩, fun q => absurd q (by decide), fun q => absurd q (by decide), fun q => absurd q (by decide), fun q => absurd q (by decide), fun q1 q2 q3 q4 q5 q6 => absurd (by decide) q2⟩
    · have h1 := sr_isRange (K := K) hc.rv (x := nI a) (y := nI b)
      rw [if_neg z] at h1
      rw [q2, q4]
      exact eX11_canDo_0 ⟨fun q => absurd q (by decide), fun _ => ⟨_, _, h1, Or.inl rfl, rfl, rfl⟩, fun q => absurd q (by decide), fun q => absurd q (by decide), fun q => absurd q (by decide), fun q => absurd q (by decide), fun q => absurd q (by decide), fun q => absurd q (by decide), fun q0 q1 q2 q3 q4 q5 q6 q7 => absurd rfl q1⟩
theorem xo_2 (hFV : cw_FV K) (h : xs n k nl nb u q c f26 f27 g I J) (hg : cg k 2 f27 g p t) : xo K n k nl nb u q c f26 f27 g 2 p t I J := by
  have h0 := h
  obtain ⟨⟨v, ow, hP⟩, h9, h25, h26, h27, h10⟩ := h
  have hc := hP.1
  have hk := hc.k6
  have hn := hc.n24
  obtain ⟨s, b, hs, ht, q1, q2, q3, q4⟩ := hg.2.2.1 (Or.inl rfl)
  by_cases z : nI s = nI b
  · refine ⟨0, I, J, ?_, ?_, h0, Or.inl rfl⟩
    · rw [q1, q3]
      exact eX7_isAllowed_25 hFV ⟨by decide, vp_in_nI (n := 2) (N := 8) (by omega) (by omega), fun q => absurd q (by decide), fun q => absurd q (by decide), fun _ => ⟨fun _ => ⟨rfl, rfl⟩, fun q => absurd z q⟩, fun q => absurd q (by decide), fun q => absurd q (by decide), fun q => absurd q (by decide), fun q1 q2 q3 q4 q5 q6 => absurd (by decide) q3⟩
    · rw [q2, q4]
      exact eX11_canDo_0 ⟨fun q => absurd q (by decide), fun q => absurd q (by decide), fun _ => ⟨fun _ => ⟨rfl, rfl⟩, fun q => absurd z q⟩, fun q => absurd q (by decide), fun q => absurd q (by decide), fun q => absurd q (by decide), fun q => absurd q (by decide), fun q => absurd q (by decide), fun q0 q1 q2 q3 q4 q5 q6 q7 => absurd rfl q2⟩
  · have ec : ∀ c, c < n → sp_x (fun c => J 1 (2 + c)) (nI s) (nI b) n c = sp_x (I 9) (nI s) (nI b) n c := fun c hc' => by
      have e1 : (fun c => J 1 (2 + c)) c = I 9 c := by rw [hc.oI c hc']; exact hc.oJ c hc'
      unfold sp_x
      rw [if_pos hc', if_pos hc', e1]
    have hO := hP.own (fC := sp_x (I 9) (nI s) (nI b) n) (m := sp_sh (sp_x (fun c => J 1 (2 + c)) (nI s) (nI b) n) (J 1)) (sp_okw_x hc.gI (sp_okw_nI hs) (sp_okw_nI ht) n) (fun c hc' => by rw [sp_shv _ _ (by omega)]; exact ec c hc') (sp_sh_el _ _)
    refine ⟨1, I, J, ?_, ?_, h0, Or.inr ⟨rfl, cw_up I 9 (sp_x (I 9) (nI s) (nI b) n), cw_up J 1 (sp_sh (sp_x (fun c => J 1 (2 + c)) (nI s) (nI b) n) (J 1)), ?_, ?_, ⟨v, _, hO⟩, h9, h25, h26, h27, h10⟩⟩
    · rw [q1, q3]
      exact eX7_isAllowed_25 hFV ⟨by decide, vp_in_nI (n := 2) (N := 8) (by omega) (by omega), fun q => absurd q (by decide), fun q => absurd q (by decide), fun _ => ⟨fun q => absurd q z, fun _ => ⟨rfl, rfl⟩⟩, fun q => absurd q (by decide), fun q => absurd q (by decide), fun q => absurd q (by decide), fun q1 q2 q3 q4 q5 q6 => absurd (by decide) q3⟩
    · rw [q2, q4]
      exact eX11_canDo_0 ⟨fun q => absurd q (by decide), fun q => absurd q (by decide), fun _ => ⟨fun q => absurd q z, fun _ => ⟨rfl, rfl⟩⟩, fun q => absurd q (by decide), fun q => absurd q (by decide), fun q => absurd q (by decide), fun q => absurd q (by decide), fun q => absurd q (by decide), fun q0 q1 q2 q3 q4 q5 q6 q7 => absurd rfl q2⟩
    · rw [q1, q3]
      exact eX7_carryOut_25 hFV ⟨by decide, vp_in_nI (n := 2) (N := 8) (by omega) (by omega), fun q => absurd q (by decide), fun q => absurd q (by decide), fun _ => ⟨_, sc_exchangeShares hc.cv (nI s) (nI b), rfl, rfl⟩, fun q => absurd q (by decide), fun q => absurd q (by decide), fun q => absurd q (by decide), fun q => absurd q (by decide), fun q => absurd q (by decide), fun q1 q2 q3 q4 q5 q6 q7 q8 => absurd (by decide) q3⟩
    · rw [q2, q4]
      exact eX11_doIt_0 ⟨fun q => absurd q (by decide), fun q => absurd q (by decide), fun _ => ⟨_, sr_exchange hc.rv (nI s) (nI b), rfl, rfl⟩, fun q => absurd q (by decide), fun q => absurd q (by decide), fun q => absurd q (by decide), fun q => absurd q (by decide), fun q0 q1 q2 q3 q4 q5 q6 => absurd rfl q2⟩
theorem xo_4 (hFV : cw_FV K) (h : xs n k nl nb u q c f26 f27 g I J) (hg : cg k 4 f27 g p t) : xo K n k nl nb u q c f26 f27 g 4 p t I J := by
  have h0 := h
  obtain ⟨⟨v, ow, hP⟩, h9, h25, h26, h27, h10⟩ := h
  have hc := hP.1
  have hk := hc.k6
  have hn := hc.n24
  obtain ⟨s, b, hs, ht, q1, q2, q3, q4⟩ := hg.2.2.1 (Or.inr rfl)
  by_cases z : nI s = nI b
  · refine ⟨0, I, J, ?_, ?_, h0, Or.inl rfl⟩
    · rw [q1, q3]
      exact eX7_isAllowed_25 hFV ⟨by decide, vp_in_nI (n := 4) (N := 8) (by omega) (by omega), fun q => absurd q (by decide), fun q => absurd q (by decide), fun q => absurd q (by decide), fun _ => ⟨fun _ => ⟨rfl, rfl⟩, fun q => absurd z q⟩, fun q => absurd q (by decide), fun q => absurd q (by decide), fun q1 q2 q3 q4 q5 q6 => absurd (by decide) q4⟩
    · rw [q2, q4]
      exact eX11_canDo_0 ⟨fun q => absurd q (by decide), fun q => absurd q (by decide), fun q => absurd q (by decide), fun q => absurd q (by decide), fun _ => ⟨fun _ => ⟨rfl, rfl⟩, fun q => absurd z q⟩, fun q => absurd q (by decide), fun q => absurd q (by decide), fun q => absurd q (by decide), fun q0 q1 q2 q3 q4 q5 q6 q7 => absurd rfl q4⟩
  · have ec : ∀ c, c < n → sp_rdv v n s b (J 1) (2 + c) = sp_dv v n s b (I 9) c := fun c hc' => by
      unfold sp_rdv
      rw [if_pos (by omega), show 2 + c - 2 = c by omega]
      unfold sp_dv
      by_cases y1 : c < sp_ct v n s n
      · rw [if_pos y1, if_pos y1]
      · rw [if_neg y1, if_neg y1, if_pos hc', if_pos hc']
    have hO := hP.own (fC := sp_dv v n s b (I 9)) (m := sp_rdv v n s b (J 1)) (sp_okw_dv hc.gI hs ht) ec (fun j hj => by unfold sp_rdv; rw [if_neg (by omega)])
    refine ⟨1, I, J, ?_, ?_, h0, Or.inr ⟨rfl, cw_up I 9 (sp_dv v n s b (I 9)), cw_up J 1 (sp_rdv v n s b (J 1)), ?_, ?_, ⟨v, _, hO⟩, h9, h25, h26, h27, h10⟩⟩
    · rw [q1, q3]
      exact eX7_isAllowed_25 hFV ⟨by decide, vp_in_nI (n := 4) (N := 8) (by omega) (by omega), fun q => absurd q (by decide), fun q => absurd q (by decide), fun q => absurd q (by decide), fun _ => ⟨fun q => absurd q z, fun _ => ⟨rfl, rfl⟩⟩, fun q => absurd q (by decide), fun q => absurd q (by decide), fun q1 q2 q3 q4 q5 q6 => absurd (by decide) q4⟩
    · rw [q2, q4]
      exact eX11_canDo_0 ⟨fun q => absurd q (by decide), fun q => absurd q (by decide), fun q => absurd q (by decide), fun q => absurd q (by decide), fun _ => ⟨fun q => absurd q z, fun _ => ⟨rfl, rfl⟩⟩, fun q => absurd q (by decide), fun q => absurd q (by decide), fun q => absurd q (by decide), fun q0 q1 q2 q3 q4 q5 q6 q7 => absurd rfl q4⟩
    · rw [q1, q3]
      exact eX7_carryOut_25 hFV ⟨by decide, vp_in_nI (n := 4) (N := 8) (by omega) (by omega), fun q => absurd q (by decide), fun q => absurd q (by decide), fun q => absurd q (by decide), fun _ => ⟨_, _, sc_cutAndChoose hc.cv hs ht, rfl, rfl⟩, fun q => absurd q (by decide), fun q => absurd q (by decide), fun q => absurd q (by decide), fun q => absurd q (by decide), fun q1 q2 q3 q4 q5 q6 q7 q8 => absurd (by decide) q4⟩
    · rw [q2, q4]
      exact eX11_doIt_0 ⟨fun q => absurd q (by decide), fun q => absurd q (by decide), fun q => absurd q (by decide), fun q => absurd q (by decide), fun _ => ⟨_, _, sr_divide hc.rv hc.n1 hs ht, rfl, rfl⟩, fun q => absurd q (by decide), fun q => absurd q (by decide), fun q0 q1 q2 q3 q4 q5 q6 => absurd rfl q4⟩
theorem xo_3 (hFV : cw_FV K) (h : xs n k nl nb u q c f26 f27 g I J) (hg : cg k 3 f27 g p t) : xo K n k nl nb u q c f26 f27 g 3 p t I J := by
  have h0 := h
  obtain ⟨⟨v, ow, hP⟩, h9, h25, h26, h27, h10⟩ := h
  have hc := hP.1
  have hk := hc.k6
  have hn := hc.n24
  obtain ⟨s, a, b, hs, ha, hb, q1, q2, q3, q4, q5, q6⟩ := hg.1 (Or.inr rfl)
  have h1 := sc_hasCell (K := K) hc.cv (x := nI a)
  have r1 := sr_isCell (K := K) hc.rv (x := nI a)
  by_cases z : 0 ≤ nI a ∧ nI a < nI n
  · rw [if_pos z] at h1 r1
    have han : a < n := (nI_ltI (by omega) (by omega)).mp z.2
    by_cases y : b ≤ 9
    · have y9 : ¬ (9 : Int32) < nI b := fun w => absurd ((nI_ltI (a := 9) (by omega) (by omega)).mp w) (by omega)
      have hO := hP.val hs han y
      refine ⟨1, I, J, ?_, ?_, h0, Or.inr ⟨rfl, cw_st I 8 (s * 24 + a) (nI b), cw_st J 1 (33 + s * 31 + a) (nI b), ?_, ?_, ⟨_, ow, hO⟩, h9, h25, h26, h27, h10⟩⟩
      · rw [q1, q3, q5]
        exact eX7_isAllowed_25 hFV ⟨by decide, vp_in_nI (n := 3) (N := 8) (by omega) (by omega), fun q => absurd q (by decide), fun q => absurd q (by decide), fun q => absurd q (by decide), fun q => absurd q (by decide), fun _ => ⟨_, _, h1, fun q => absurd q (by decide), fun _ => ⟨fun q => absurd q y9, fun _ => ⟨rfl, rfl⟩⟩⟩, fun q => absurd q (by decide), fun q1 q2 q3 q4 q5 q6 => absurd (by decide) q5⟩
      · rw [q2, q4, q6]
        exact eX11_canDo_0 ⟨fun q => absurd q (by decide), fun q => absurd q (by decide), fun q => absurd q (by decide), fun _ => ⟨_, _, r1, fun q => absurd q (by decide), fun _ => ⟨fun q => absurd q y9, fun _ => ⟨rfl, rfl⟩⟩⟩, fun q => absurd q (by decide), fun q => absurd q (by decide), fun q => absurd q (by decide), fun q => absurd q (by decide), fun q0 q1 q2 q3 q4 q5 q6 q7 => absurd rfl q3⟩
      · rw [q1, q3, q5]
        exact eX7_carryOut_25 hFV ⟨by decide, vp_in_nI (n := 3) (N := 8) (by omega) (by omega), fun q => absurd q (by decide), fun q => absurd q (by decide), fun q => absurd q (by decide), fun q => absurd q (by decide), fun _ => ⟨_, sc_putValue (by omega) (by omega), rfl, rfl⟩, fun q => absurd q (by decide), fun q => absurd q (by decide), fun q => absurd q (by decide), fun q1 q2 q3 q4 q5 q6 q7 q8 => absurd (by decide) q5⟩
      · rw [q2, q4, q6]
        refine eX11_doIt_0 ⟨fun q => absurd q (by decide), fun q => absurd q (by decide), fun q => absurd q (by decide), fun _ => ?_, fun q => absurd q (by decide), fun q => absurd q (by decide), fun q => absurd q (by decide), fun q0 q1 q2 q3 q4 q5 q6 => absurd rfl q3⟩
        rw [sp_ixr]
        exact ⟨vp_in_nI (by omega) (by omega), rfl, by rw [nI_clamp (by omega)]⟩
    · have y9 : (9 : Int32) < nI b := nI_lt (a := 9) (by omega) (by omega)
      refine ⟨0, I, J, ?_, ?_, h0, Or.inl rfl⟩
      · rw [q1, q3, q5]
        exact eX7_isAllowed_25 hFV ⟨by decide, vp_in_nI (n := 3) (N := 8) (by omega) (by omega), fun q => absurd q (by decide), fun q => absurd q (by decide), fun q => absurd q (by decide), fun q => absurd q (by decide), fun _ => ⟨_, _, h1, fun q => absurd q (by decide), fun _ => ⟨fun _ => ⟨rfl, rfl⟩, fun q => absurd y9 q⟩⟩, fun q => absurd q (by decide), fun q1 q2 q3 q4 q5 q6 => absurd (by decide) q5⟩
      · rw [q2, q4, q6]
        exact eX11_canDo_0 ⟨fun q => absurd q (by decide), fun q => absurd q (by decide), fun q => absurd q (by decide), fun _ => ⟨_, _, r1, fun q => absurd q (by decide), fun _ => ⟨fun _ => ⟨rfl, rfl⟩, fun q => absurd y9 q⟩⟩, fun q => absurd q (by decide), fun q => absurd q (by decide), fun q => absurd q (by decide), fun q => absurd q (by decide), fun q0 q1 q2 q3 q4 q5 q6 q7 => absurd rfl q3⟩
  · rw [if_neg z] at h1 r1
    refine ⟨0, I, J, ?_, ?_, h0, Or.inl rfl⟩
    · rw [q1, q3, q5]
      exact eX7_isAllowed_25 hFV ⟨by decide, vp_in_nI (n := 3) (N := 8) (by omega) (by omega), fun q => absurd q (by decide), fun q => absurd q (by decide), fun q => absurd q (by decide), fun q => absurd q (by decide), fun _ => ⟨_, _, h1, fun _ => ⟨rfl, rfl⟩, fun q => absurd rfl q⟩, fun q => absurd q (by decide), fun q1 q2 q3 q4 q5 q6 => absurd (by decide) q5⟩
    · rw [q2, q4, q6]
      exact eX11_canDo_0 ⟨fun q => absurd q (by decide), fun q => absurd q (by decide), fun q => absurd q (by decide), fun _ => ⟨_, _, r1, fun _ => ⟨rfl, rfl⟩, fun q => absurd rfl q⟩, fun q => absurd q (by decide), fun q => absurd q (by decide), fun q => absurd q (by decide), fun q => absurd q (by decide), fun q0 q1 q2 q3 q4 q5 q6 q7 => absurd rfl q3⟩
theorem xo_5 (hFV : cw_FV K) (h : xs n k nl nb u q c f26 f27 g I J) (hg : cg k 5 f27 g p t) : xo K n k nl nb u q c f26 f27 g 5 p t I J := by
  have h0 := h
  obtain ⟨⟨v, ow, hP⟩, h9, h25, h26, h27, h10⟩ := h
  have hc := hP.1
  have hk := hc.k6
  have hn := hc.n24
  have ec : ∀ c, c < n → sp_kn v n k k 0 0 (sp_put (fun c => J 1 (2 + c)) (-1) 0 n) c = sp_kn v n k k 0 0 (I 9) c := sp_kn_congr (by omega) k 0 0 _ _ (by omega) (sp_wt0 k (by omega)) (Or.inl hc.k1) (fun c hc _ => absurd hc (Nat.not_lt_zero c))
  obtain ⟨h7, g2⟩ := sr_knife (K := K) hc.rv hc.n1
  have hO := hP.own (fC := sp_kn v n k k 0 0 (I 9)) (m := sp_sh (sp_kn v n k k 0 0 (sp_put (fun c => J 1 (2 + c)) (-1) 0 n)) (J 1)) (sp_okw_kn k 0 0 _ hc.gI) (fun c hc' => by rw [sp_shv _ _ (by omega)]; exact ec c hc') (sp_sh_el _ _)
  exact ⟨1, I, J, eX7_isAllowed_25 hFV ⟨by decide, vp_in_nI (n := 5) (N := 8) (by omega) (by omega), fun q => absurd q (by decide), fun q => absurd q (by decide), fun q => absurd q (by decide), fun q => absurd q (by decide), fun q => absurd q (by decide), fun q => absurd q (by decide), fun _ _ _ _ _ _ => ⟨rfl, rfl⟩⟩, eX11_canDo_0 ⟨fun q => absurd q (by decide), fun q => absurd q (by decide), fun q => absurd q (by decide), fun q => absurd q (by decide), fun q => absurd q (by decide), fun _ => ⟨rfl, rfl⟩, fun q => absurd q (by decide), fun q => absurd q (by decide), fun q0 q1 q2 q3 q4 q5 q6 q7 => absurd rfl q5⟩, h0, Or.inr ⟨rfl, _, _, eX7_carryOut_25 hFV ⟨by decide, vp_in_nI (n := 5) (N := 8) (by omega) (by omega), fun q => absurd q (by decide), fun q => absurd q (by decide), fun q => absurd q (by decide), fun q => absurd q (by decide), fun q => absurd q (by decide), fun q => absurd q (by decide), fun _ => ⟨_, sc_knife_9 hc.cv hc.k1, rfl, rfl⟩, fun q => absurd q (by decide), fun q1 q2 q3 q4 q5 q6 q7 q8 => absurd (by decide) q7⟩, eX11_doIt_0 ⟨fun q => absurd q (by decide), fun q => absurd q (by decide), fun q => absurd q (by decide), fun q => absurd q (by decide), fun q => absurd q (by decide), fun _ => ⟨_, _, g2, rfl, rfl⟩, fun q => absurd q (by decide), fun q0 q1 q2 q3 q4 q5 q6 => absurd rfl q5⟩, ⟨v, _, hO⟩, h9, h25, h26, h27, h10⟩⟩
theorem xo_6 (hFV : cw_FV K) (h : xs n k nl nb u q c f26 f27 g I J) (hg : cg k 6 f27 g p t) : xo K n k nl nb u q c f26 f27 g 6 p t I J := by
  have h0 := h
  obtain ⟨⟨v, ow, hP⟩, h9, h25, h26, h27, h10⟩ := h
  have hc := hP.1
  have hk := hc.k6
  have hn := hc.n24
  obtain ⟨s, hs, q1, q2⟩ := hg.2.2.2 (Or.inl rfl)
  have ec := sp_rb_congr (v := v) (n := n) (k := k) n (fun c => J 1 (2 + c)) (I 9) s 0 (fun c hc' => by rw [hc.oI c hc']; exact hc.oJ c hc')
  have hO := hP.own (fC := (sp_rb v n k n (I 9) s 0).1) (m := sp_sh (sp_rb v n k n (fun c => J 1 (2 + c)) s 0).1 (J 1)) (sp_okw_rb n _ s 0 hs hc.gI) (fun c hc' => by rw [sp_shv _ _ (by omega)]; exact ec.2 c hc') (sp_sh_el _ _)
  refine ⟨1, I, J, eX7_isAllowed_25 hFV ⟨by decide, vp_in_nI (n := 6) (N := 8) (by omega) (by omega), fun q => absurd q (by decide), fun q => absurd q (by decide), fun q => absurd q (by decide), fun q => absurd q (by decide), fun q => absurd q (by decide), fun q => absurd q (by decide), fun _ _ _ _ _ _ => ⟨rfl, rfl⟩⟩, eX11_canDo_0 ⟨fun q => absurd q (by decide), fun q => absurd q (by decide), fun q => absurd q (by decide), fun q => absurd q (by decide), fun q => absurd q (by decide), fun q => absurd q (by decide), fun _ => ⟨rfl, rfl⟩, fun q => absurd q (by decide), fun q0 q1 q2 q3 q4 q5 q6 q7 => absurd rfl q6⟩, h0, Or.inr ⟨rfl, cw_up I 9 (sp_rb v n k n (I 9) s 0).1, cw_up J 1 (sp_sh (sp_rb v n k n (fun c => J 1 (2 + c)) s 0).1 (J 1)), ?_, ?_, ⟨v, _, hO⟩, h9, h25, h26, h27, h10⟩⟩
  · rw [q1]
    exact eX7_carryOut_25 hFV ⟨by decide, vp_in_nI (n := 6) (N := 8) (by omega) (by omega), fun q => absurd q (by decide), fun q => absurd q (by decide), fun q => absurd q (by decide), fun q => absurd q (by decide), fun q => absurd q (by decide), fun q => absurd q (by decide), fun q => absurd q (by decide), fun _ => ⟨_, _, sc_robin_9 hc.cv hs, rfl, rfl⟩, fun q1 q2 q3 q4 q5 q6 q7 q8 => absurd (by decide) q8⟩
  · rw [q2]
    exact eX11_doIt_0 ⟨fun q => absurd q (by decide), fun q => absurd q (by decide), fun q => absurd q (by decide), fun q => absurd q (by decide), fun q => absurd q (by decide), fun q => absurd q (by decide), fun _ => ⟨_, _, sr_robin hc.rv hs, rfl, rfl⟩, fun q0 q1 q2 q3 q4 q5 q6 => absurd rfl q6⟩
theorem xo_7 (hFV : cw_FV K) (h : xs n k nl nb u q c f26 f27 g I J) (hg : cg k 7 f27 g p t) : xo K n k nl nb u q c f26 f27 g 7 p t I J := by
  have h0 := h
  obtain ⟨⟨v, ow, hP⟩, h9, h25, h26, h27, h10⟩ := h
  have hc := hP.1
  have hk := hc.k6
  have hn := hc.n24
  obtain ⟨s, hs, q1, q2⟩ := hg.2.2.2 (Or.inr rfl)
  obtain ⟨f17, f18, f19, -, h1⟩ := sc_findCycle (K := K) hc.cv hc.oI hs
  obtain ⟨f5, f6, -, g1⟩ := sr_findCycle (K := K) hc.rv hc.oJ hs
  have hP1 : sp_P n k v ow nl nb u q (sp_cyI I f17 f18 f19) (sp_cyJ J f5 f6) := hP
  cases e : sp_len (sp_w v ow n) k s with
  | none =>
    have e0 : sp_oi (sp_len (sp_w v ow n) k s) = -1 := by rw [e]; rfl
    refine ⟨0, sp_cyI I f17 f18 f19, sp_cyJ J f5 f6, ?_, ?_, ⟨⟨v, ow, hP1⟩, h9, h25, h26, h27, h10⟩, Or.inl rfl⟩
    · rw [q1]
      exact eX7_isAllowed_25 hFV ⟨by decide, vp_in_nI (n := 7) (N := 8) (by omega) (by omega), fun q => absurd q (by decide), fun q => absurd q (by decide), fun q => absurd q (by decide), fun q => absurd q (by decide), fun q => absurd q (by decide), fun _ => ⟨_, _, h1, fun _ => ⟨rfl, rfl⟩, fun q => absurd e0 q⟩, fun q1 q2 q3 q4 q5 q6 => absurd (by decide) q6⟩
    · rw [q2]
      exact eX11_canDo_0 ⟨fun q => absurd q (by decide), fun q => absurd q (by decide), fun q => absurd q (by decide), fun q => absurd q (by decide), fun q => absurd q (by decide), fun q => absurd q (by decide), fun q => absurd q (by decide), fun _ => ⟨_, _, g1, fun _ => ⟨rfl, rfl⟩, fun q => absurd e0 q⟩, fun q0 q1 q2 q3 q4 q5 q6 q7 => absurd rfl q7⟩
  | some len =>
    have e0 := sp_oi_len hk e
    obtain ⟨a17, a18, a19, h2⟩ := sc_rotateThrough (K := K) hP1.1.cv hP1.1.oI hs e
    obtain ⟨b5, b6, g2⟩ := sr_turnCycle (K := K) hP1.1.rv hP1.1.oJ hs e
    have ec : ∀ c, c < n → sp_mp (sp_ro (sp_w v ow n) k s len) (fun c => J 1 (2 + c)) n c = sp_mp (sp_ro (sp_w v ow n) k s len) (I 9) n c := fun c hc' => by
      have e1 : (fun c => J 1 (2 + c)) c = I 9 c := by rw [hc.oI c hc']; exact hc.oJ c hc'
      unfold sp_mp
      rw [if_pos hc', if_pos hc', e1]
    have hO := hP1.own (fC := sp_mp (sp_ro (sp_w v ow n) k s len) (I 9) n) (m := sp_sh (sp_mp (sp_ro (sp_w v ow n) k s len) (fun c => J 1 (2 + c)) n) (J 1)) (sp_okw_mp hc.gI hs hk e n) (fun c hc' => by rw [sp_shv _ _ (by omega)]; exact ec c hc') (sp_sh_el _ _)
    refine ⟨1, sp_cyI I f17 f18 f19, sp_cyJ J f5 f6, ?_, ?_, ⟨⟨v, ow, hP1⟩, h9, h25, h26, h27, h10⟩, Or.inr ⟨rfl, cw_up (sp_cyI (sp_cyI I f17 f18 f19) a17 a18 a19) 9 (sp_mp (sp_ro (sp_w v ow n) k s len) (I 9) n), cw_up (sp_cyJ (sp_cyJ J f5 f6) b5 b6) 1 (sp_sh (sp_mp (sp_ro (sp_w v ow n) k s len) (fun c => J 1 (2 + c)) n) (J 1)), ?_, ?_, ⟨v, _, hO⟩, h9, h25, h26, h27, h10⟩⟩
    · rw [q1]
      exact eX7_isAllowed_25 hFV ⟨by decide, vp_in_nI (n := 7) (N := 8) (by omega) (by omega), fun q => absurd q (by decide), fun q => absurd q (by decide), fun q => absurd q (by decide), fun q => absurd q (by decide), fun q => absurd q (by decide), fun _ => ⟨_, _, h1, fun q => absurd q e0, fun _ => ⟨rfl, rfl⟩⟩, fun q1 q2 q3 q4 q5 q6 => absurd (by decide) q6⟩
    · rw [q2]
      exact eX11_canDo_0 ⟨fun q => absurd q (by decide), fun q => absurd q (by decide), fun q => absurd q (by decide), fun q => absurd q (by decide), fun q => absurd q (by decide), fun q => absurd q (by decide), fun q => absurd q (by decide), fun _ => ⟨_, _, g1, fun q => absurd q e0, fun _ => ⟨rfl, rfl⟩⟩, fun q0 q1 q2 q3 q4 q5 q6 q7 => absurd rfl q7⟩
    · rw [q1]
      exact eX7_carryOut_25 hFV ⟨by decide, vp_in_nI (n := 7) (N := 8) (by omega) (by omega), fun q => absurd q (by decide), fun q => absurd q (by decide), fun q => absurd q (by decide), fun q => absurd q (by decide), fun q => absurd q (by decide), fun _ => ⟨_, _, h2, rfl, rfl⟩, fun q => absurd q (by decide), fun q => absurd q (by decide), fun q1 q2 q3 q4 q5 q6 q7 q8 => absurd (by decide) q6⟩
    · rw [q2]
      exact eX11_doIt_0 ⟨fun q => absurd q (by decide), fun q => absurd q (by decide), fun q => absurd q (by decide), fun q => absurd q (by decide), fun q => absurd q (by decide), fun q => absurd q (by decide), fun q => absurd q (by decide), fun _ _ _ _ _ _ _ => ⟨_, _, g2, rfl, rfl⟩⟩
theorem xo_all (hFV : cw_FV K) (h : xs n k nl nb u q c f26 f27 g I J) : ∀ w, w < 8 → cg k w f27 g p t → xo K n k nl nb u q c f26 f27 g w p t I J
  | 0, _, hg => xo_0 hFV h hg
  | 1, _, hg => xo_1 hFV h hg
  | 2, _, hg => xo_2 hFV h hg
  | 3, _, hg => xo_3 hFV h hg
  | 4, _, hg => xo_4 hFV h hg
  | 5, _, hg => xo_5 hFV h hg
  | 6, _, hg => xo_6 hFV h hg
  | 7, _, hg => xo_7 hFV h hg
  | w + 8, h, _ => absurd h (by omega)
theorem x_loop (hFV : cw_FV K) (hc30 : c ≤ 30) (hcm : ∀ i, i < c → cm k f26 f27 g i) : ∀ (d i : Nat) (I J : cw_M), i + d = c → xs n k nl nb u q c f26 f27 g I J → ∃ m I2 J2, bX7_execute_25_2 K (some (.int m)) I2 (nI i) I ∧ bX11_runScript_0_42 K (some (.int m)) J2 (nI c) (nI i) J ∧ xs n k nl nb u q c f26 f27 g I2 J2 := by
  intro d
  induction d with
  | zero =>
    intro i I J hi h
    have e0 : i = c := by omega
    subst e0
    have h25 := h.2.2.1
    exact ⟨nI i, I, J, tbX7_execute_25_2 (br_t (by rw [h25]; exact Int32.le_refl _) ⟨by rw [h25], rfl⟩), tbX11_runScript_0_42 (br_t (Int32.le_refl _) ⟨rfl, rfl⟩), h⟩
  | succ d ih =>
    intro i I J hi h
    obtain ⟨w, hw, m1, m2, m3⟩ := hcm i (by omega)
    obtain ⟨b, I1, J1, a1, b1, h1, ho⟩ := xo_all (K := K) hFV h w hw m3
    have h25 := h.2.2.1
    have h26 := h.2.2.2.1
    have h27 := h.2.2.2.2.1
    have h10 := h.2.2.2.2.2
    have z1 : ¬ I 25 0 ≤ nI i := by rw [h25]; exact fun y => absurd ((nI_leI (by omega) (by omega)).mp y) (by omega)
    have z2 : ¬ nI c ≤ nI i := fun y => absurd ((nI_leI (by omega) (by omega)).mp y) (by omega)
    have ei : (nI i).toNatClampNeg = i := nI_clamp (by omega)
    have n0 : nI i * 3 = nI (i * 3) := sp_mul i 3
    have n1 : nI i * 3 + 1 = nI (i * 3 + 1) := by rw [n0]; exact nI_add _ 1
    have n2 : nI i * 3 + 2 = nI (i * 3 + 2) := by rw [n0]; exact nI_add _ 2
    have p0 : nI i * 4 = nI (i * 4) := sp_mul i 4
    have p1 : nI i * 4 + 1 = nI (i * 4 + 1) := by rw [p0]; exact nI_add _ 1
    have p2 : nI i * 4 + 2 = nI (i * 4 + 2) := by rw [p0]; exact nI_add _ 2
    have p3 : nI i * 4 + 3 = nI (i * 4 + 3) := by rw [p0]; exact nI_add _ 3
    have w0 : ¬ nI (w + 1) = 0 := fun y => absurd ((nI_eq (b := 0) (by omega) (by omega)).mp y) (by omega)
    have ew : (nI (w + 1)).toNatClampNeg - 1 = w := by rw [nI_clamp (by omega)]; omega
    have hI : ∀ r F, (bX7_execute_25_2 K r F (nI i) I) = (bX7_execute_25_2 K r F (nI i) I) := fun _ _ => rfl
    rcases ho with rfl | ⟨rfl, I2, J2, a2, b2, h2⟩
    · refine ⟨nI i, I1, J1, tbX7_execute_25_2 (br_f z1 ?_), tbX11_runScript_0_42 (br_f z2 ?_), h1⟩
      · rw [ei, h26, h27, m1, ew, n1, n2, n0, nI_clamp (by omega), nI_clamp (by omega), nI_clamp (by omega)]
        exact ⟨vp_in_nI (by omega) (by omega), fun y => absurd y w0, fun _ => ⟨vp_in_nI (by omega) (by omega), vp_in_nI (by omega) (by omega), vp_in_nI (by omega) (by omega), _, _, a1, fun y => absurd rfl y, fun _ => ⟨rfl, rfl⟩⟩⟩
      · rw [h10, p1, p2, p3, p0, nI_clamp (by omega), nI_clamp (by omega), nI_clamp (by omega), nI_clamp (by omega), m2]
        exact ⟨vp_in_nI (by omega) (by omega), vp_in_nI (by omega) (by omega), vp_in_nI (by omega) (by omega), vp_in_nI (by omega) (by omega), _, _, b1, fun y => absurd rfl y, fun _ => ⟨rfl, rfl⟩⟩
    · obtain ⟨m, I3, J3, a3, b3, h3⟩ := ih (i + 1) I2 J2 (by omega) h2
      have h10b := h1.2.2.2.2.2
      refine ⟨m, I3, J3, tbX7_execute_25_2 (br_f z1 ?_), tbX11_runScript_0_42 (br_f z2 ?_), h3⟩
      · rw [ei, h26, h27, m1, ew, n1, n2, n0, nI_clamp (by omega), nI_clamp (by omega), nI_clamp (by omega)]
        refine ⟨vp_in_nI (by omega) (by omega), fun y => absurd y w0, fun _ => ⟨vp_in_nI (by omega) (by omega), vp_in_nI (by omega) (by omega), vp_in_nI (by omega) (by omega), _, _, a1, fun _ => ⟨_, a2, ?_⟩, fun y => absurd y (by decide)⟩⟩
        rw [nI_1]; exact a3
      · rw [h10, p1, p2, p3, p0, nI_clamp (by omega), nI_clamp (by omega), nI_clamp (by omega), nI_clamp (by omega), m2]
        refine ⟨vp_in_nI (by omega) (by omega), vp_in_nI (by omega) (by omega), vp_in_nI (by omega) (by omega), vp_in_nI (by omega) (by omega), 1, J1, b1, fun _ => ⟨vp_in_nI (by omega) (by omega), vp_in_nI (by omega) (by omega), vp_in_nI (by omega) (by omega), vp_in_nI (by omega) (by omega), ?_⟩, fun y => absurd y (by decide)⟩
        rw [h10b, m2, nI_1]; exact ⟨_, b2, b3⟩
theorem fc.P {I0 J0 : cw_M} {v : Nat → Nat → Nat} {ow : Nat → Int32} (hf : fc I0 J0 I J) (hr : sp_RE I J) (h : sp_P n k v ow nl nb u q I0 J0) : sp_P n k v ow nl nb u q (cw_st I 1 1 0) (cw_st J 0 4 0) := by
  obtain ⟨hc, hu, ht, ⟨W, w1, w2, w3, w4⟩, he⟩ := h
  have hc2 := hc.rI (I2 := cw_st I 1 1 0) (fun o h5 h9 => by simp only [cw_st, cw_up]; rw [if_neg (by omega)]; exact hf.1 o (by omega) (by omega) (by omega) (by omega))
  have hu2 := hu.rI (I2 := cw_st I 1 1 0) (fun o h5 => by simp only [cw_st, cw_up]; rw [if_neg (by omega)]; exact hf.1 o (by omega) (by omega) (by omega) (by omega))
  have e1 : (cw_st J 0 4 0) 1 = J0 1 := hf.2.1 1 (by omega) (by omega)
  have e2 : (cw_st J 0 4 0) 2 = J0 2 := hf.2.1 2 (by omega) (by omega)
  have e3 : (cw_st J 0 4 0) 0 2 = J0 0 2 := hf.2.2 2 (by omega) (by omega) (by omega)
  refine ⟨by rw [e1]; exact hc2, by rw [e1, e2, e3]; exact hu2, ⟨0, by omega, rfl, rfl, fun j hj => absurd hj (by omega)⟩, ⟨W, w1, ?_, ?_, fun j hj => ?_⟩, hr⟩
  · exact (congrFun (hf.1 3 (by omega) (by omega) (by omega) (by omega)) 1).trans w2
  · exact (hf.2.2 8 (by omega) (by omega) (by omega)).trans w3
  · show I 4 j = J 4 j
    rw [hf.1 4 (by omega) (by omega) (by omega) (by omega), hf.2.1 4 (by omega) (by omega)]; exact w4 j hj
theorem ca_runScript (hFT : cw_FT (cw_f (cc_w K))) (hl : K.1.stackTraces = false) (hFS : cw_FS (cw_Fc K) (cw_sd K) (cw_sv K)) (hFV : cw_FV K) (hFC : cw_FC K) (h : sp_Rel I J) : sp_Q K mX10_runScript mX11_runScript [] I J ∨ sp_X K mX10_runScript mX11_runScript [] "java/lang/IllegalArgumentException" 1 I J := by
  obtain ⟨n, k, v, ow, nl, nb, u, q, hP⟩ := h
  have hP0 := hP
  obtain ⟨hc, hu, ⟨L, ht⟩, ho, he⟩ := hP
  have hT : sp_TL L I J := ht
  have hs : sx k nl nb I J := ⟨hc.k6, hc.cv.2.1, hc.rv.2.1, hc.2.2.2.2.2.2.2.2.1, hc.2.2.2.2.2.2.2.2.2.2.2.2.2⟩
  obtain ⟨b, m, I2, J1, J2, a1, b1, c1, ho⟩ := rd_script (K := K) hFS hFV hFC hT hs
  rcases ho with ⟨rfl, rfl, hr, hf⟩ | ⟨rfl, hr, hf, c, hc30, rfl, h25, hcm⟩
  · have hR : sp_Rel (cw_st I2 1 1 0) (cw_st (cw_st J2 0 4 0) 0 9 1) := ⟨n, k, v, ow, nl, nb, u, q, hf.P hr hP0⟩
    exact Or.inr ⟨_, _, _, xX10_runScript_0 hFT hl ⟨_, _, a1, fun q => absurd rfl q, fun _ => ⟨rfl, rfl⟩⟩, eX11_runScript_0 ⟨_, b1, _, _, c1, fun q => absurd rfl q, fun _ => ⟨_, _, sr_fails1, fun q => absurd q (by decide), fun _ => ⟨rfl, rfl⟩⟩⟩, rfl, hR⟩
  · have hP1 := hf.P hr hP0
    have hR := hP1.rem
    have cn : ¬ nI c = -1 := fun y => by
      have z3 : (0 : Int32) ≤ nI c := nI_le (a := 0) (by omega) (by omega)
      rw [y] at z3
      exact absurd z3 (by decide)
    have hx : xs n k nl nb (min (u + 1) 6) (sp_nq q) c (I2 26) (I2 27) (J2 10) (sp_mem (cw_st I2 1 1 0) q u) (sp_R (cw_st J2 0 4 0) u) := ⟨⟨v, ow, hR⟩, sp_R9 _ u, h25, rfl, rfl, sp_rem_o _ u (by omega) (by omega)⟩
    obtain ⟨m, I3, J3, a3, b3, h3⟩ := x_loop (K := K) hFV hc30 hcm c 0 _ _ (by omega) hx
    obtain ⟨⟨v3, ow3, hP3⟩, h9, _⟩ := h3
    exact Or.inl ⟨_, I3, J3, eX10_runScript_0 ⟨_, _, a1, fun _ => ⟨_, sc_remember (I := cw_st I2 1 1 0) hP1.2.1.qI hP1.2.1.q6 hP1.2.1.uI hP1.2.1.u6, _, _, eX7_execute_25 a3, rfl, rfl⟩, fun q => absurd q (by decide)⟩, eX11_runScript_0 ⟨_, b1, _, _, c1, fun _ => ⟨_, _, sr_fails0, fun _ => ⟨_, sr_R (J := cw_st J2 0 4 0) hP1.2.1.uJ hP1.2.1.u6, b3⟩, fun q => absurd rfl q⟩, fun q => absurd q cn⟩, h9, n, k, v3, ow3, nl, nb, _, _, hP3⟩
end EXE
