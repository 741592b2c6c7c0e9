/-! ## the texts: append, truncate, findSibling, writeOwners, outputByte; both sides step by step -/
def sp_TL (L : Nat) (I J : cw_M) : Prop := L ≤ 600 ∧ I 1 1 = nI L ∧ J 0 4 = nI L ∧ ∀ j, j < L → I 2 j = J 3 j
def sp_O (W : Nat) (I J : cw_M) : Prop := W ≤ 240 ∧ I 3 1 = nI W ∧ J 0 8 = nI W ∧ ∀ j, j < W → I 4 j = J 4 j
def sp_PT (n k : Nat) (v : Nat → Nat → Nat) (ow : Nat → Int32) (nl : Nat → Nat) (nb : Nat → Nat → Int32) (u q L : Nat) (I J : cw_M) : Prop := sp_RC n k v ow nl nb I (J 1) ∧ sp_RU n k nl nb u q I (J 0 2) (J 1) (J 2) ∧ sp_TL L I J ∧ sp_RO I J ∧ sp_RE I J ∧ J 0 9 = 0
def sp_PW (n k : Nat) (v : Nat → Nat → Nat) (ow : Nat → Int32) (nl : Nat → Nat) (nb : Nat → Nat → Int32) (u q W : Nat) (I J : cw_M) : Prop := sp_RC n k v ow nl nb I (J 1) ∧ sp_RU n k nl nb u q I (J 0 2) (J 1) (J 2) ∧ sp_RT I J ∧ sp_O W I J ∧ sp_RE I J ∧ J 0 9 = 0
section TXT
variable {K : cw_K} {I J : cw_M} {n k u q : Nat} {v : Nat → Nat → Nat} {ow : Nat → Int32} {nl : Nat → Nat} {nb : Nat → Nat → Int32}
theorem sp_PT.rel {L : Nat} (h : sp_PT n k v ow nl nb u q L I J) : sp_Rel I J := by
  obtain ⟨hc, hu, ht, ho, he, _⟩ := h
  exact ⟨n, k, v, ow, nl, nb, u, q, hc, hu, ⟨L, ht⟩, ho, he⟩
theorem sp_PW.rel {W : Nat} (h : sp_PW n k v ow nl nb u q W I J) : sp_Rel I J := by
  obtain ⟨hc, hu, ht, ho, he, _⟩ := h
  exact ⟨n, k, v, ow, nl, nb, u, q, hc, hu, ht, ⟨W, ho⟩, he⟩
theorem sp_upd_same (f : Nat → Int32) (i : Nat) (x : Int32) : upd f i x i = x := by simp only [upd, if_true]
theorem sp_upd_ne (f : Nat → Int32) {i j : Nat} (x : Int32) (h : j ≠ i) : upd f i x j = f j := by simp only [upd, if_neg h]
/-- one more byte of both inputs -/
theorem sp_TL.push {L : Nat} (h : sp_TL L I J) (hL : L < 600) (b : Int32) : sp_TL (L + 1) (cw_st (cw_st I 2 L b) 1 1 (nI (L + 1))) (cw_st (cw_st J 3 L b) 0 4 (nI (L + 1))) := by
  obtain ⟨h1, h2, h3, h4⟩ := h
  refine ⟨by omega, rfl, rfl, fun j hj => ?_⟩
  show upd (I 2) L b j = upd (J 3) L b j
  by_cases z : j = L
  · rw [z, sp_upd_same, sp_upd_same]
  · rw [sp_upd_ne _ _ z, sp_upd_ne _ _ z]; exact h4 j (by omega)
theorem sa_step {L : Nat} (h : sp_PT n k v ow nl nb u q L I J) (hL : L < 600) (x y : Int32) (hy : ¬ y < 0) : ∃ I2 J2, sp_PT n k v ow nl nb u q (L + 1) I2 J2 ∧ (∀ r F, bX8_addFourBytes_1_3 K r F x (y + (-8)) I2 → bX8_addFourBytes_1_3 K r F x y I) ∧ (∀ r F, bX11_appendWord_0_3 K r F x (y + (-8)) J2 → bX11_appendWord_0_3 K r F x y J) := by
  obtain ⟨hc, hu, ht, ho, he, h9⟩ := h
  have e1 : I 1 1 = nI L := ht.2.1
  have e2 : J 0 4 = nI L := ht.2.2.1
  refine ⟨cw_st (cw_st I 2 L ((x >>> (y &&& 31)) &&& 255)) 1 1 (nI (L + 1)), cw_st (cw_st J 3 L ((x >>> (y &&& 31)) &&& 255)) 0 4 (nI (L + 1)), ⟨hc, hu, ht.push hL ((x >>> (y &&& 31)) &&& 255), ho, he, h9⟩, fun r F hb => ?_, fun r F hb => ?_⟩
  · refine tbX8_addFourBytes_1_3 (br_f hy ⟨_, eX8_add_1 (br_f ?_ ⟨?_, rfl, rfl⟩), ?_⟩)
    · rw [e1]; intro z; exact absurd ((nI_leI (a := 600) (by omega) (by omega)).mp z) (by omega)
    · rw [e1]; exact vp_in_nI (by omega) (by omega)
    · have e3 : ∀ f, (cw_up I 2 f) 1 1 + 1 = nI (L + 1) := fun f => by
        show I 1 1 + 1 = _
        rw [e1, nI_1]
      rw [e3, e1, nI_clamp (by omega)]
      exact hb
  · refine tbX11_appendWord_0_3 (br_f hy ⟨?_, ?_⟩)
    · rw [e2]; exact vp_in_nI (by omega) (by omega)
    · have e3 : ∀ f, (cw_up J 3 f) 0 4 + 1 = nI (L + 1) := fun f => by
        show J 0 4 + 1 = _
        rw [e2, nI_1]
      rw [e3, e2, nI_clamp (by omega)]
      exact hb
theorem sa_word {L : Nat} (h : sp_PT n k v ow nl nb u q L I J) (hL : L + 4 ≤ 600) (x : Int32) : ∃ I2 J2, sp_PT n k v ow nl nb u q (L + 4) I2 J2 ∧ cw_C (cc_w K) mX8_addFourBytes [.ref (cw_a (cc_w K) 1), .int x] I none I2 ∧ cw_C (cr_w K) mX11_appendWord [.ref (cw_a (cr_w K) 0), .int x] J none J2 := by
  obtain ⟨I1, J1, h1, a1, b1⟩ := sa_step (K := K) h (by omega) x 24 (by decide)
  obtain ⟨I2, J2, h2, a2, b2⟩ := sa_step (K := K) h1 (by omega) x 16 (by decide)
  obtain ⟨I3, J3, h3, a3, b3⟩ := sa_step (K := K) h2 (by omega) x 8 (by decide)
  obtain ⟨I4, J4, h4, a4, b4⟩ := sa_step (K := K) h3 (by omega) x 0 (by decide)
  rw [show (24 : Int32) + (-8) = 16 by decide] at a1 b1
  rw [show (16 : Int32) + (-8) = 8 by decide] at a2 b2
  rw [show (8 : Int32) + (-8) = 0 by decide] at a3 b3
  rw [show (0 : Int32) + (-8) = -8 by decide] at a4 b4
  exact ⟨I4, J4, h4, eX8_addFourBytes_1 (a1 _ _ (a2 _ _ (a3 _ _ (a4 _ _ (tbX8_addFourBytes_1_3 (br_t (by decide) ⟨rfl, rfl⟩)))))), eX11_appendWord_0 (b1 _ _ (b2 _ _ (b3 _ _ (b4 _ _ (tbX11_appendWord_0_3 (br_t (by decide) ⟨rfl, rfl⟩))))))⟩
theorem ca_append (hFT : cw_FT (cw_f (cc_w K))) (hl : K.1.stackTraces = false) (h : sp_Rel I J) {a b c d e : Int32} : sp_Q K mX10_append mX11_append [.int a, .int b, .int c, .int d, .int e] I J ∨ sp_X K mX10_append mX11_append [.int a, .int b, .int c, .int d, .int e] "java/lang/IllegalStateException" 1 I J := by
  have hh := h
  obtain ⟨n, k, v, ow, nl, nb, u, q, hc, hu, ⟨L, ht⟩, ho, he⟩ := hh
  have e1 : I 1 1 + 20 = nI (L + 20) := by rw [ht.2.1]; exact nI_add L 20
  have e2 : J 0 4 + 20 = nI (L + 20) := by rw [ht.2.2.1]; exact nI_add L 20
  have hL := ht.1
  by_cases z : L + 20 ≤ 600
  · have z1 : nI (L + 20) ≤ 600 := nI_le (b := 600) z (by omega)
    have h0 : sp_PT n k v ow nl nb u q L I (cw_st J 0 9 0) := ⟨hc, hu, ht, ho, he, rfl⟩
    obtain ⟨I1, J1, h1, a1, b1⟩ := sa_word (K := K) h0 (by omega) a
    obtain ⟨I2, J2, h2, a2, b2⟩ := sa_word (K := K) h1 (by omega) b
    obtain ⟨I3, J3, h3, a3, b3⟩ := sa_word (K := K) h2 (by omega) c
    obtain ⟨I4, J4, h4, a4, b4⟩ := sa_word (K := K) h3 (by omega) d
    obtain ⟨I5, J5, h5, a5, b5⟩ := sa_word (K := K) h4 (by omega) e
    refine Or.inl ⟨nI (L + 4 + 4 + 4 + 4 + 4), I5, J5, eX10_append_0 (br_t (by rw [e1]; exact z1) ⟨_, a1, _, a2, _, a3, _, a4, _, a5, ?_, rfl⟩), eX11_append_0 (br_t (by rw [e2]; exact z1) ⟨_, _, sr_fails0, fun _ => ⟨_, b1, _, b2, _, b3, _, b4, _, b5, ?_, rfl⟩, fun q => absurd rfl q⟩), h5.2.2.2.2.2, h5.rel⟩
    · rw [h5.2.2.1.2.1]
    · rw [h5.2.2.1.2.2.1]
  · have z1 : ¬ nI (L + 20) ≤ 600 := fun y => z ((nI_leI (b := 600) (by omega) (by omega)).mp y)
    exact Or.inr ⟨_, _, _, xX10_append_0 hFT hl (br_f (by rw [e1]; exact z1) ⟨rfl, rfl⟩), eX11_append_0 (br_f (by rw [e2]; exact z1) ⟨_, _, sr_fails1, fun q => absurd q (by decide), fun _ => ⟨rfl, rfl⟩⟩), rfl, h⟩
theorem ca_truncate (hFT : cw_FT (cw_f (cc_w K))) (hl : K.1.stackTraces = false) (h : sp_Rel I J) {x : Int32} : sp_Q K mX10_truncate mX11_truncate [.int x] I J ∨ sp_X K mX10_truncate mX11_truncate [.int x] "java/lang/IllegalArgumentException" 1 I J := by
  have hh := h
  obtain ⟨n, k, v, ow, nl, nb, u, q, hc, hu, ⟨L, ht⟩, ho, he⟩ := hh
  obtain ⟨t1, t2, t3, t4⟩ := ht
  by_cases z : 0 ≤ x ∧ x ≤ nI L
  · obtain ⟨d, hd, rfl⟩ := sp_inC (by omega) z
    have hr : sp_Rel (cw_st I 1 1 (nI d)) (cw_st (cw_st J 0 9 0) 0 4 (nI d)) := ⟨n, k, v, ow, nl, nb, u, q, hc, hu, ⟨d, by omega, rfl, rfl, fun j hj => t4 j (by omega)⟩, ho, he⟩
    exact Or.inl ⟨_, _, _, eX10_truncate_0 ⟨fun q => absurd z.1 (Int32.not_le.mpr q), fun _ => ⟨fun _ => ⟨rfl, rfl⟩, fun q => absurd (by rw [t2]; exact z.2) q⟩⟩, eX11_truncate_0 ⟨_, _, sr_in, fun _ => ⟨_, _, sr_fails0, fun _ => ⟨rfl, rfl⟩, fun q => absurd rfl q⟩, fun q => absurd ⟨z.1, by rw [t3]; exact z.2⟩ (sp_bit0 q)⟩, rfl, hr⟩
  · exact Or.inr ⟨_, _, _, xX10_truncate_0 hFT hl ⟨fun _ => ⟨rfl, rfl⟩, fun q => ⟨fun q2 => absurd ⟨Int32.not_lt.mp q, by rw [← t2]; exact q2⟩ z, fun _ => ⟨rfl, rfl⟩⟩⟩, eX11_truncate_0 ⟨_, _, sr_in, fun q => absurd (sp_bit1 q) (by rw [t3]; exact z), fun _ => ⟨_, _, sr_fails1, fun q => absurd q (by decide), fun _ => ⟨rfl, rfl⟩⟩⟩, rfl, h⟩
theorem ca_outputByte (hFT : cw_FT (cw_f (cc_w K))) (hl : K.1.stackTraces = false) (h : sp_Rel I J) {x : Int32} : sp_Q K mX10_outputByte mX11_outputByte [.int x] I J ∨ sp_X K mX10_outputByte mX11_outputByte [.int x] "java/lang/IndexOutOfBoundsException" 1 I J := by
  have hh := h
  obtain ⟨n, k, v, ow, nl, nb, u, q, hc, hu, ht, ⟨W, w1, w2, w3, w4⟩, he⟩ := hh
  by_cases z : 0 ≤ x ∧ x < nI W
  · obtain ⟨d, hd, rfl⟩ := sp_inB (by omega) z
    have e1 : I 4 (nI d).toNatClampNeg = J 4 (nI d).toNatClampNeg := by rw [nI_clamp (by omega)]; exact w4 d hd
    exact Or.inl ⟨_, _, _, eX10_outputByte_0 ⟨fun q => absurd z.1 (Int32.not_le.mpr q), fun _ => ⟨fun _ => ⟨vp_in_nI (by omega) (by omega), rfl, rfl⟩, fun q => absurd (by rw [w2]; exact z.2) q⟩⟩, eX11_outputByte_0 ⟨_, _, sr_in, fun _ => ⟨_, _, sr_fails0, fun _ => ⟨vp_in_nI (by omega) (by omega), by rw [e1]; rfl, rfl⟩, fun q => absurd rfl q⟩, fun q => absurd ⟨z.1, by rw [w3, sp_pred (by omega)]; exact z.2⟩ (sp_bit0 q)⟩, rfl, h⟩
  · exact Or.inr ⟨_, _, _, xX10_outputByte_0 hFT hl ⟨fun _ => ⟨rfl, rfl⟩, fun q => ⟨fun q2 => absurd ⟨Int32.not_lt.mp q, by rw [← w2]; exact q2⟩ z, fun _ => ⟨rfl, rfl⟩⟩⟩, eX11_outputByte_0 ⟨_, _, sr_in, fun q => absurd (sp_bit1 q) (by rw [w3, sp_pred (by omega)]; exact z), fun _ => ⟨_, _, sr_fails1, fun q => absurd q (by decide), fun _ => ⟨rfl, rfl⟩⟩⟩, rfl, h⟩
/-! writing -/
theorem so_add {W : Nat} (h : sp_PW n k v ow nl nb u q W I J) (hW : W < 240) (b : Int32) : ∃ I2 J2, cw_C (cc_w K) mX8_add [.ref (cw_a (cc_w K) 3), .int b] I none I2 ∧ cw_C (cr_w K) mX11_put [.ref (cw_a (cr_w K) 0), .int b] J none J2 ∧ sp_PW n k v ow nl nb u q (W + 1) I2 J2 := by
  obtain ⟨hc, hu, ht, ⟨w1, w2, w3, w4⟩, he, h9⟩ := h
  have e3 : ∀ f, (cw_up I 4 f) 3 1 + 1 = nI (W + 1) := fun f => by
    show I 3 1 + 1 = _
    rw [w2, nI_1]
  have e4 : ∀ f, (cw_up J 4 f) 0 8 + 1 = nI (W + 1) := fun f => by
    show J 0 8 + 1 = _
    rw [w3, nI_1]
  refine ⟨cw_st (cw_st I 4 W b) 3 1 (nI (W + 1)), cw_st (cw_st J 4 W b) 0 8 (nI (W + 1)), eX8_add_3 (br_f ?_ ⟨?_, rfl, ?_⟩), eX11_put_0 ⟨?_, rfl, ?_⟩, hc, hu, ht, ⟨by omega, rfl, rfl, fun j hj => ?_⟩, he, h9⟩
  · rw [w2]; intro z; exact absurd ((nI_leI (a := 600) (by omega) (by omega)).mp z) (by omega)
  · rw [w2]; exact vp_in_nI (by omega) (by omega)
  · rw [e3, w2, nI_clamp (by omega)]
  · rw [w3]; exact vp_in_nI (by omega) (by omega)
  · rw [e4, w3, nI_clamp (by omega)]
  · show upd (I 4) W b j = upd (J 4) W b j
    by_cases z : j = W
    · rw [z, sp_upd_same, sp_upd_same]
    · rw [sp_upd_ne _ _ z, sp_upd_ne _ _ z]; exact w4 j (by omega)
theorem so_num {W : Nat} (h : sp_PW n k v ow nl nb u q W I J) (hW : W + 2 ≤ 240) (x : Int32) : ∃ I2 J2 W2, W < W2 ∧ W2 ≤ W + 2 ∧ sp_PW n k v ow nl nb u q W2 I2 J2 ∧ cw_C (cc_w K) mX8_addNumber [.ref (cw_a (cc_w K) 3), .int x] I none I2 ∧ (∀ cont : cw_M → Prop, cont J2 → ((x < 10 → (¬ (10 : Int32) = 0 ∧ (∃ J_38 : cw_M, cw_C (cr_w K) mX11_put [.ref (cw_a (cr_w K) 0), .int (48 + (x - x / 10 * 10))] J none J_38 ∧ cont J_38))) ∧ (¬ x < 10 → (¬ (10 : Int32) = 0 ∧ (∃ J_27 : cw_M, cw_C (cr_w K) mX11_put [.ref (cw_a (cr_w K) 0), .int (48 + (x / 10))] J none J_27 ∧ (¬ (10 : Int32) = 0 ∧ (∃ J_38 : cw_M, cw_C (cr_w K) mX11_put [.ref (cw_a (cr_w K) 0), .int (48 + (x - x / 10 * 10))] J_27 none J_38 ∧ cont J_38))))))) := by
  by_cases z : x < 10
  · obtain ⟨I2, J2, a1, b1, h2⟩ := so_add (K := K) h (by omega) (48 + (x - x / 10 * 10))
    exact ⟨I2, J2, W + 1, by omega, by omega, h2, eX8_addNumber_3 (br_t z ⟨by decide, _, a1, rfl, rfl⟩), fun cont hc => br_t z ⟨by decide, _, b1, hc⟩⟩
  · obtain ⟨I1, J1, a1, b1, h1⟩ := so_add (K := K) h (by omega) (48 + (x / 10))
    obtain ⟨I2, J2, a2, b2, h2⟩ := so_add (K := K) h1 (by omega) (48 + (x - x / 10 * 10))
    exact ⟨I2, J2, W + 1 + 1, by omega, by omega, h2, eX8_addNumber_3 (br_f z ⟨by decide, _, a1, by decide, _, a2, rfl, rfl⟩), fun cont hc => br_f z ⟨by decide, _, b1, by decide, _, b2, hc⟩⟩
theorem so_name {s : Nat} (hs : s < k) : ∀ (d i W : Nat) (I J : cw_M), i + d = nl s → W + d ≤ 240 → sp_PW n k v ow nl nb u q W I J → ∃ I2 J2, bX10_writePiece_0_51 K none I2 (nI s) (nI i) I ∧ bX11_putRun_0_64 K none J2 (26 + nI s * 31) (nI i) J ∧ sp_PW n k v ow nl nb u q (W + d) I2 J2 := by
  intro d
  induction d with
  | zero =>
    intro i W I J hi hW h
    have hc := h.1
    have hk := hc.k6
    have hN := hc.2.2.2.2.2.2.2.2.1 s hs
    have hB := hc.2.2.2.2.2.2.2.2.2.2.2.2.2 s hs
    have hnl := hN.1
    have e7 : I 7 (nI s).toNatClampNeg = nI (nl s) := by rw [nI_clamp (by omega)]; exact hN.2.1
    have f7 : J 1 (26 + nI s * 31).toNatClampNeg = nI (nl s) := by rw [sp_ixn, nI_clamp (by omega)]; exact hB.1
    have e0 : i = nl s := by omega
    refine ⟨I, J, tbX10_writePiece_0_51 ⟨vp_in_nI (by omega) (by omega), br_t ?_ ⟨rfl, rfl⟩⟩, tbX11_putRun_0_64 ⟨by rw [sp_ixn]; exact vp_in_nI (by omega) (by omega), br_t ?_ ⟨rfl, rfl⟩⟩, h⟩
    · rw [e7, e0]; exact Int32.le_refl _
    · rw [f7, e0]; exact Int32.le_refl _
  | succ d ih =>
    intro i W I J hi hW h
    have hc := h.1
    have hk := hc.k6
    have hN := hc.2.2.2.2.2.2.2.2.1 s hs
    have hB := hc.2.2.2.2.2.2.2.2.2.2.2.2.2 s hs
    have hnl := hN.1
    have e7 : I 7 (nI s).toNatClampNeg = nI (nl s) := by rw [nI_clamp (by omega)]; exact hN.2.1
    have f7 : J 1 (26 + nI s * 31).toNatClampNeg = nI (nl s) := by rw [sp_ixn, nI_clamp (by omega)]; exact hB.1
    have e9 : I 6 (nI s * 6 + nI i).toNatClampNeg = nb s i := by rw [sp_6, nI_clamp (by omega)]; exact hN.2.2 i (by omega)
    have f9 : J 1 (26 + nI s * 31 + 1 + nI i).toNatClampNeg = nb s i := by rw [sp_ixn2, nI_clamp (by omega)]; exact hB.2 i (by omega)
    obtain ⟨I1, J1, a1, b1, h1⟩ := so_add (K := K) h (by omega) (nb s i)
    obtain ⟨I2, J2, a2, b2, h2⟩ := ih (i + 1) (W + 1) I1 J1 (by omega) (by omega) h1
    rw [show W + 1 + d = W + (d + 1) by omega] at h2
    refine ⟨I2, J2, tbX10_writePiece_0_51 ⟨vp_in_nI (by omega) (by omega), br_f ?_ ⟨by rw [sp_6]; exact vp_in_nI (by omega) (by omega), ?_⟩⟩, tbX11_putRun_0_64 ⟨by rw [sp_ixn]; exact vp_in_nI (by omega) (by omega), br_f ?_ ⟨by rw [sp_ixn2]; exact vp_in_nI (by omega) (by omega), ?_⟩⟩, h2⟩
    · rw [e7]; exact fun z => absurd ((nI_leI (by omega) (by omega)).mp z) (by omega)
    · rw [e9, nI_1]; exact ⟨_, a1, a2⟩
    · rw [f7]; exact fun z => absurd ((nI_leI (by omega) (by omega)).mp z) (by omega)
    · rw [f9, nI_1]; exact ⟨_, b1, b2⟩
/-- what stands behind the number of a piece -/
theorem so_tail {W : Nat} (h : sp_PW n k v ow nl nb u q W I J) (hW : W + 6 ≤ 240) {x : Int32} (hx : sp_okw k x) : ∃ I2 J2 W2, W ≤ W2 ∧ W2 ≤ W + 6 ∧ sp_PW n k v ow nl nb u q W2 I2 J2 ∧ ((¬ x = (-1) → bX10_writePiece_0_51 K none I2 x 0 I) ∧ (x = (-1) → (∃ J_44 : cw_M, cw_C (cc_w K) mX8_add [.ref (cw_a (cc_w K) 3), .int 45] I none J_44 ∧ ((none : Option Value) = none ∧ I2 = J_44)))) ∧ ((¬ x = (-1) → bX11_putRun_0_64 K none J2 (26 + (x * 31)) 0 J) ∧ (x = (-1) → (∃ J_49 : cw_M, cw_C (cr_w K) mX11_put [.ref (cw_a (cr_w K) 0), .int 45] J none J_49 ∧ ((none : Option Value) = none ∧ J2 = J_49)))) := by
  rcases hx with rfl | ⟨s, hs, rfl⟩
  · obtain ⟨I1, J1, a1, b1, h1⟩ := so_add (K := K) h (by omega) 45
    exact ⟨I1, J1, W + 1, by omega, by omega, h1, ⟨fun z => absurd rfl z, fun _ => ⟨_, a1, rfl, rfl⟩⟩, ⟨fun z => absurd rfl z, fun _ => ⟨_, b1, rfl, rfl⟩⟩⟩
  · have hk := h.1.k6
    have hnl := h.1.nl6 s hs
    obtain ⟨I1, J1, a1, b1, h1⟩ := so_name (K := K) hs (nl s) 0 W I J (by omega) (by omega) h
    have z : ¬ nI s = -1 := fun y => by
      have z3 : (0 : Int32) ≤ nI s := nI_le (a := 0) (by omega) (by omega)
      rw [y] at z3
      exact absurd z3 (by decide)
    exact ⟨I1, J1, W + nl s, by omega, by omega, h1, ⟨fun _ => a1, fun y => absurd y z⟩, ⟨fun _ => b1, fun y => absurd y z⟩⟩
end TXT
