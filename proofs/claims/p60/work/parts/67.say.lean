/-! ## the law's own: pick, word, say -/
theorem ce_le_cc (K : cw_K) : cw_le (ce_w K) (cc_w K) := ⟨rfl, rfl, rfl, Nat.zero_le _, fun j hj => absurd hj (Nat.not_lt_zero j), fun j hj => absurd hj (Nat.not_lt_zero j), fun _ _ _ h => h⟩
/-- what the script gives: its int at i, without its sign, mod m; 0 behind its end -/
def la_pk (sn : Nat) (sf : Nat → Int32) (i m : Nat) : Nat := if i < sn then (sf i).toBitVec.toNat % 2 ^ 31 % m else 0
theorem la_pk_lt {sn i m : Nat} {sf : Nat → Int32} (hm : 0 < m) : la_pk sn sf i m < m := by
  unfold la_pk
  split
  · exact Nat.mod_lt _ hm
  · exact hm
section SAY
variable {K : cw_K} {I : cw_M} {sa sn ta tv : Nat} {sf : Nat → Int32} {tl : List Int32}
theorem la_pick (hFz : cw_Fsc (cw_Fc K) sa sn sf) (hsn : sn < 2 ^ 31) {i m : Nat} (hi : i < 2 ^ 31) (hm : 0 < m) (hm2 : m < 2 ^ 31) : cw_C (ce_w K) mL_pick [.ref sa, .int (nI i), .int (nI m)] I (some (.int (nI (la_pk sn sf i m)))) I := by
  refine eL_pick hFz ⟨fun q => ?_, fun q => ?_⟩
  · have q1 := (nI_leI hsn hi).mp q
    unfold la_pk
    rw [if_neg (by omega)]
    exact ⟨rfl, rfl⟩
  · have q1 : i < sn := Nat.not_le.mp (fun z => q (nI_le z hi))
    have e : sf i &&& 2147483647 = nI ((sf i).toBitVec.toNat % 2 ^ 31) := pk_and (sf i) 31 (by decide)
    have hl : (sf i).toBitVec.toNat % 2 ^ 31 < 2 ^ 31 := Nat.mod_lt _ (by omega)
    rw [nI_clamp hi, e, pk_rem hl hm hm2]
    refine ⟨vp_in_nI q1 hsn, nI_ne0 hm hm2, ?_, rfl⟩
    unfold la_pk
    rw [if_pos q1]
/-! words -/
/-- the letter at i, a space behind the end -/
def wd_b (tl : List Int32) (i : Nat) : Nat := if i < tl.length then (tl.getD i 0).toNatClampNeg else 32
theorem wd_b_lt (hb : cw_Btx tl) (i : Nat) : wd_b tl i < 128 := by
  unfold wd_b
  split
  · rename_i h
    obtain ⟨b, h1, h2⟩ := hb.2 i h
    rw [h2, nI_clamp (by omega)]
    exact h1
  · omega
theorem wd_b_at (hb : cw_Btx tl) {i : Nat} (h : i < tl.length) : tl.getD i 0 = nI (wd_b tl i) := by
  obtain ⟨b, h1, h2⟩ := hb.2 i h
  unfold wd_b
  rw [if_pos h, h2, nI_clamp (by omega)]
/-- four letters in a number -/
def wd_v (tl : List Int32) (a : Nat) : Nat → Nat
  | 0 => 0
  | i + 1 => wd_v tl a i * 256 + wd_b tl (a + i)
theorem wd_v_lt (hb : cw_Btx tl) (a : Nat) : ∀ i, wd_v tl a i < 256 ^ i
  | 0 => by
    show 0 < 256 ^ 0
    decide
  | i + 1 => by
    have h := wd_v_lt hb a i
    have h2 := wd_b_lt hb (a + i)
    show wd_v tl a i * 256 + wd_b tl (a + i) < 256 ^ (i + 1)
    rw [Nat.pow_succ]
    omega
theorem wd_v_lt2 (hb : cw_Btx tl) (a : Nat) : wd_v tl a 4 < 2 ^ 31 := by
  have h := wd_v_lt hb (a + 1) 3
  have key : ∀ i, wd_v tl a (i + 1) < 128 * 256 ^ i := by
    intro i
    induction i with
    | zero =>
      have := wd_b_lt hb (a + 0)
      show 0 * 256 + wd_b tl (a + 0) < 128 * 1
      omega
    | succ i ih =>
      have h2 := wd_b_lt hb (a + (i + 1))
      show wd_v tl a (i + 1) * 256 + wd_b tl (a + (i + 1)) < 128 * 256 ^ (i + 1)
      rw [Nat.pow_succ]
      omega
  exact key 3
theorem wd_or {a b : Nat} (ha : a < 2 ^ 23) (hb : b < 256) : nI (a * 256) ||| nI b = nI (a * 256 + b) := by
  apply Int32.toBitVec_inj.mp
  show BitVec.ofNat 32 (a * 256) ||| BitVec.ofNat 32 b = BitVec.ofNat 32 (a * 256 + b)
  apply BitVec.eq_of_toNat_eq
  rw [BitVec.toNat_or, BitVec.toNat_ofNat, BitVec.toNat_ofNat, BitVec.toNat_ofNat, Nat.mod_eq_of_lt (by omega), Nat.mod_eq_of_lt (by omega), Nat.mod_eq_of_lt (by omega)]
  have h := Nat.shiftLeft_add_eq_or_of_lt (b := b) (i := 8) (by omega) a
  rw [Nat.shiftLeft_eq] at h
  exact h.symm
theorem la_wordL (hFt : cw_Ftx (cw_Fc K) ta tv tl) (hb : cw_Btx tl) {a : Nat} (ha : a < 2 ^ 20) : ∀ d i, i + d = 4 → bL_word_4 K ta (some (.int (nI (wd_v tl a 4)))) I (nI a) (nI (wd_v tl a i)) (nI (a + i)) I := by
  have hL := hb.1
  intro d
  induction d with
  | zero =>
    intro i hi
    obtain rfl : i = 4 := by omega
    exact tbL_word_4 hFt hb (br_t (by rw [show nI a + 4 = nI (a + 4) from nI_add a 4]; exact nI_le (Nat.le_refl _) (by omega)) ⟨rfl, rfl⟩)
  | succ d ih =>
    intro i hi
    have h9 := ih (i + 1) (by omega)
    have hv : wd_v tl a i < 2 ^ 23 := by
      rcases (by omega : i = 0 ∨ i = 1 ∨ i = 2 ∨ i = 3) with rfl | rfl | rfl | rfl
      · show 0 < 2 ^ 23
        decide
      · have := wd_v_lt hb a 1; omega
      · have := wd_v_lt hb a 2; omega
      · have h1 := wd_v_lt2 hb a
        have h2 : wd_v tl a 4 = wd_v tl a 3 * 256 + wd_b tl (a + 3) := rfl
        omega
    have hs : nI (wd_v tl a i) <<< ((8 : Int32) &&& 31) = nI (wd_v tl a i * 256) := pk_shlN _ 8 (by decide) (by omega)
    have hbb := wd_b_lt hb (a + i)
    refine tbL_word_4 hFt hb (br_f (by rw [show nI a + 4 = nI (a + 4) from nI_add a 4]; exact nI_ge (by omega) (by omega)) ⟨fun q => ?_, fun q => ?_⟩)
    · have q1 := (nI_leI (by omega) (by omega)).mp q
      have e : wd_b tl (a + i) = 32 := by
        unfold wd_b
        rw [if_neg (by omega)]
      rw [hs, nI_1, show nI (wd_v tl a i * 256) ||| 32 = nI (wd_v tl a i * 256 + 32) from wd_or (b := 32) hv (by omega), ← e]
      exact h9
    · have q1 : a + i < tl.length := Nat.not_le.mp (fun z => q (nI_le z (by omega)))
      rw [hs, nI_1, nI_clamp (by omega), wd_b_at hb q1, wd_or hv (by omega)]
      exact ⟨vp_in_nI q1 (by omega), h9⟩
theorem la_word (hFt : cw_Ftx (cw_Fc K) ta tv tl) (hb : cw_Btx tl) {a : Nat} (ha : a < 2 ^ 20) : cw_C (cc_w K) mL_word [.ref ta, .int (nI a)] I (some (.int (nI (wd_v tl a 4)))) I := eL_word (tv := tv) (tl := tl) (la_wordL hFt hb ha 4 0 (by omega))
/-- the four bytes of it -/
theorem wd_byte (hb : cw_Btx tl) (a : Nat) : ((nI (wd_v tl a 4) >>> ((24 : Int32) &&& 31)) &&& 255 = nI (wd_b tl a)) ∧ ((nI (wd_v tl a 4) >>> ((16 : Int32) &&& 31)) &&& 255 = nI (wd_b tl (a + 1))) ∧ ((nI (wd_v tl a 4) >>> ((8 : Int32) &&& 31)) &&& 255 = nI (wd_b tl (a + 2))) ∧ ((nI (wd_v tl a 4) >>> ((0 : Int32) &&& 31)) &&& 255 = nI (wd_b tl (a + 3))) := by
  have h0 := wd_b_lt hb (a + 0)
  have h1 := wd_b_lt hb (a + 1)
  have h2 := wd_b_lt hb (a + 2)
  have h3 := wd_b_lt hb (a + 3)
  have hV := wd_v_lt2 hb a
  have e : wd_v tl a 4 = ((((0 * 256 + wd_b tl (a + 0)) * 256 + wd_b tl (a + 1)) * 256 + wd_b tl (a + 2)) * 256 + wd_b tl (a + 3)) := rfl
  have sh : ∀ (s : Int32) (k : Nat), (s.toBitVec.smod 32).toNat = k → (nI (wd_v tl a 4) >>> s) &&& 255 = nI (wd_v tl a 4 / 2 ^ k % 2 ^ 8) := fun s k hk => by
    rw [pk_shrN hV s k hk]
    exact pk_andN (Nat.lt_of_le_of_lt (Nat.div_le_self _ _) (by omega)) 8 (by decide)
  refine ⟨?_, ?_, ?_, ?_⟩
  · rw [sh _ 24 (by decide)]
    congr 1
    rw [Nat.add_zero] at e h0
    omega
  · rw [sh _ 16 (by decide)]
    congr 1
    omega
  · rw [sh _ 8 (by decide)]
    congr 1
    omega
  · rw [sh _ 0 (by decide)]
    congr 1
    omega
/-! the input buffer -/
theorem tx_step {L : Nat} (h : I 1 1 = nI L) (hL : L < 600) (x y : Int32) (hy : ¬ y < 0) : ∀ r F, bX8_addFourBytes_1_3 K r F x (y + (-8)) (cw_st (cw_st I 2 L ((x >>> (y &&& 31)) &&& 255)) 1 1 (nI (L + 1))) → bX8_addFourBytes_1_3 K r F x y I := by
  intro r F hb
  refine tbX8_addFourBytes_1_3 (br_f hy ⟨_, eX8_add_1 (br_f ?_ ⟨?_, rfl, rfl⟩), ?_⟩)
  · rw [h]; intro z; exact absurd ((nI_leI (a := 600) (by omega) (by omega)).mp z) (by omega)
  · rw [h]; exact vp_in_nI (by omega) (by omega)
  · have e3 : ∀ f, (cw_up I 2 f) 1 1 + 1 = nI (L + 1) := fun f => by
      show I 1 1 + 1 = _
      rw [h, nI_1]
    rw [e3, h, nI_clamp (by omega)]
    exact hb
/-- of J, against I: b behind the first L bytes -/
def tx_more (I J : cw_M) (L m : Nat) (b : Nat → Int32) : Prop := J 1 1 = nI (L + m) ∧ (∀ o, o ≠ 1 → o ≠ 2 → J o = I o) ∧ (∀ j, j < L → J 2 j = I 2 j) ∧ ∀ i, i < m → J 2 (L + i) = b i
theorem tx_four {L : Nat} (h : I 1 1 = nI L) (hL : L + 4 ≤ 600) (hb : cw_Btx tl) (a : Nat) : ∃ J, cw_C (cc_w K) mX8_addFourBytes [.ref (cw_a (cc_w K) 1), .int (nI (wd_v tl a 4))] I none J ∧ tx_more I J L 4 (fun i => nI (wd_b tl (a + i))) := by
  obtain ⟨b0, b1, b2, b3⟩ := wd_byte hb a
  have s0 := tx_step (K := K) h (by omega) (nI (wd_v tl a 4)) 24 (by decide)
  have s1 := tx_step (K := K) (I := cw_st (cw_st I 2 L ((nI (wd_v tl a 4) >>> ((24 : Int32) &&& 31)) &&& 255)) 1 1 (nI (L + 1))) (L := L + 1) rfl (by omega) (nI (wd_v tl a 4)) 16 (by decide)
  have s2 := tx_step (K := K) (I := cw_st (cw_st (cw_st (cw_st I 2 L ((nI (wd_v tl a 4) >>> ((24 : Int32) &&& 31)) &&& 255)) 1 1 (nI (L + 1))) 2 (L + 1) ((nI (wd_v tl a 4) >>> ((16 : Int32) &&& 31)) &&& 255)) 1 1 (nI (L + 1 + 1))) (L := L + 1 + 1) rfl (by omega) (nI (wd_v tl a 4)) 8 (by decide)
  have s3 := tx_step (K := K) (I := cw_st (cw_st (cw_st (cw_st (cw_st (cw_st I 2 L ((nI (wd_v tl a 4) >>> ((24 : Int32) &&& 31)) &&& 255)) 1 1 (nI (L + 1))) 2 (L + 1) ((nI (wd_v tl a 4) >>> ((16 : Int32) &&& 31)) &&& 255)) 1 1 (nI (L + 1 + 1))) 2 (L + 1 + 1) ((nI (wd_v tl a 4) >>> ((8 : Int32) &&& 31)) &&& 255)) 1 1 (nI (L + 1 + 1 + 1))) (L := L + 1 + 1 + 1) rfl (by omega) (nI (wd_v tl a 4)) 0 (by decide)
  rw [show (24 : Int32) + (-8) = 16 by decide] at s0
  rw [show (16 : Int32) + (-8) = 8 by decide] at s1
  rw [show (8 : Int32) + (-8) = 0 by decide] at s2
  rw [show (0 : Int32) + (-8) = -8 by decide] at s3
  refine ⟨_, eX8_addFourBytes_1 (s0 _ _ (s1 _ _ (s2 _ _ (s3 _ _ (tbX8_addFourBytes_1_3 (br_t (by decide) ⟨rfl, rfl⟩)))))), ?_, fun o h1 h2 => ?_, fun j hj => ?_, fun i hi => ?_⟩
  · rfl
  · unfold cw_st cw_up
    simp only [if_neg h1, if_neg h2]
  · show upd (upd (upd (upd (I 2) L _) (L + 1) _) (L + 1 + 1) _) (L + 1 + 1 + 1) _ j = I 2 j
    rw [pk_un (by omega), pk_un (by omega), pk_un (by omega), pk_un (by omega)]
  · show upd (upd (upd (upd (I 2) L _) (L + 1) _) (L + 1 + 1) _) (L + 1 + 1 + 1) _ (L + i) = nI (wd_b tl (a + i))
    rw [b0, b1, b2, b3]
    rcases (by omega : i = 0 ∨ i = 1 ∨ i = 2 ∨ i = 3) with rfl | rfl | rfl | rfl
    · rw [pk_un (by omega), pk_un (by omega), pk_un (by omega), Nat.add_zero, pk_us, Nat.add_zero]
    · rw [pk_un (by omega), pk_un (by omega), pk_us]
    · rw [pk_un (by omega), show L + 2 = L + 1 + 1 by omega, pk_us]
    · rw [show L + 3 = L + 1 + 1 + 1 by omega, pk_us]
theorem tx_more.trans {I J J2 : cw_M} {L m m2 : Nat} {b b2 c : Nat → Int32} (h : tx_more I J L m b) (h2 : tx_more J J2 (L + m) m2 b2) (e1 : ∀ i, i < m → c i = b i) (e2 : ∀ i, i < m2 → c (m + i) = b2 i) : tx_more I J2 L (m + m2) c := by
  obtain ⟨a1, a2, a3, a4⟩ := h
  obtain ⟨b1, b2, b3, b4⟩ := h2
  refine ⟨by rw [b1, Nat.add_assoc], fun o h1 h2 => (b2 o h1 h2).trans (a2 o h1 h2), fun j hj => (b3 j (by omega)).trans (a3 j hj), fun i hi => ?_⟩
  by_cases q : i < m
  · rw [b3 (L + i) (by omega), a4 i q, e1 i q]
  · have h9 := b4 (i - m) (by omega)
    rw [show L + m + (i - m) = L + i by omega] at h9
    rw [h9, ← e2 (i - m) (by omega), show m + (i - m) = i by omega]
theorem fc_append {L : Nat} (h : I 1 1 = nI L) (hL : L + 20 ≤ 600) (hb : cw_Btx tl) (a : Nat) : ∃ J, cw_C (cc_w K) mX10_append [.ref (cw_a (cc_w K) 0), .int (nI (wd_v tl a 4)), .int (nI (wd_v tl (a + 4) 4)), .int (nI (wd_v tl (a + 8) 4)), .int (nI (wd_v tl (a + 12) 4)), .int (nI (wd_v tl (a + 16) 4))] I (some (.int (nI (L + 20)))) J ∧ tx_more I J L 20 (fun i => nI (wd_b tl (a + i))) := by
  obtain ⟨J1, c1, m1⟩ := tx_four (K := K) h (by omega) hb a
  obtain ⟨J2, c2, m2⟩ := tx_four (K := K) m1.1 (by omega) hb (a + 4)
  obtain ⟨J3, c3, m3⟩ := tx_four (K := K) m2.1 (by omega) hb (a + 8)
  obtain ⟨J4, c4, m4⟩ := tx_four (K := K) m3.1 (by omega) hb (a + 12)
  obtain ⟨J5, c5, m5⟩ := tx_four (K := K) m4.1 (by omega) hb (a + 16)
  have t1 := m1.trans (c := fun i => nI (wd_b tl (a + i))) m2 (fun _ _ => rfl) (fun i _ => by rw [← Nat.add_assoc])
  have t2 := t1.trans (c := fun i => nI (wd_b tl (a + i))) m3 (fun _ _ => rfl) (fun i _ => by rw [← Nat.add_assoc])
  have t3 := t2.trans (c := fun i => nI (wd_b tl (a + i))) m4 (fun _ _ => rfl) (fun i _ => by rw [← Nat.add_assoc])
  have t4 := t3.trans (c := fun i => nI (wd_b tl (a + i))) m5 (fun _ _ => rfl) (fun i _ => by rw [← Nat.add_assoc])
  have e : I 1 1 + 20 ≤ 600 := by
    rw [h, show nI L + 20 = nI (L + 20) from nI_add L 20]
    exact nI_le (b := 600) hL (by omega)
  refine ⟨J5, eX10_append_0 (br_t e ⟨_, c1, _, c2, _, c3, _, c4, _, c5, ?_, rfl⟩), t4⟩
  rw [t4.1]
theorem fc_truncate {L d : Nat} (h : I 1 1 = nI L) (hL : L ≤ 600) (hd : d ≤ L) : cw_C (cc_w K) mX10_truncate [.ref (cw_a (cc_w K) 0), .int (nI d)] I (some (.int (nI d))) (cw_st I 1 1 (nI d)) :=
  eX10_truncate_0 ⟨fun q => absurd q (nI_pos (by omega)), fun _ => ⟨fun _ => ⟨rfl, rfl⟩, fun q => absurd (by rw [h]; exact nI_le hd (by omega)) q⟩⟩
theorem la_sayL (hFt : cw_Ftx (cw_Fc K) ta tv tl) (hb : cw_Btx tl) (h580 : tl.length ≤ 580) (I0 : cw_M) : ∀ d L : Nat, tl.length ≤ L + 20 * d → L < tl.length + 20 → ∀ I, tx_more I0 I 0 L (fun i => nI (wd_b tl i)) → ∃ J, bL_say_0_8 K ta (some (.int 1)) J (nI L) I ∧ tx_more I0 J 0 tl.length (fun i => nI (wd_b tl i)) := by
  have fin : ∀ L, tl.length ≤ L → L < tl.length + 20 → ∀ I, tx_more I0 I 0 L (fun i => nI (wd_b tl i)) → ∃ J, bL_say_0_8 K ta (some (.int 1)) J (nI L) I ∧ tx_more I0 J 0 tl.length (fun i => nI (wd_b tl i)) := fun L h1 h2 I hm => by
    obtain ⟨a1, a2, a3, a4⟩ := hm
    rw [Nat.zero_add] at a1
    refine ⟨cw_st I 1 1 (nI tl.length), tbL_say_0_8 hFt hb (br_t (nI_le h1 (by omega)) ⟨_, _, fc_truncate a1 (by omega) h1, fun z => absurd rfl z, fun _ => ⟨rfl, rfl⟩⟩), ?_, fun o h3 h4 => ?_, fun j hj => by omega, fun i hi => ?_⟩
    · show nI tl.length = _
      rw [Nat.zero_add]
    · show (if o = 1 then _ else I o) = _
      rw [if_neg h3]
      exact a2 o h3 h4
    · show I 2 (0 + i) = _
      exact a4 i (by omega)
  intro d
  induction d with
  | zero => exact fun L h1 h2 I hm => fin L (by omega) h2 I hm
  | succ d ih =>
    intro L h1 h2 I hm
    by_cases q : tl.length ≤ L
    · exact fin L q h2 I hm
    · have hm2 := hm.1
      rw [Nat.zero_add] at hm2
      obtain ⟨J, c1, m1⟩ := fc_append (K := K) hm2 (by omega) hb L
      have t := hm.trans (m2 := 20) (b2 := fun i => nI (wd_b tl (L + i))) (c := fun i => nI (wd_b tl i)) (by rw [Nat.zero_add]; exact m1) (fun _ _ => rfl) (fun _ _ => rfl)
      obtain ⟨J2, c2, m2⟩ := ih (L + 20) (by omega) (by omega) J t
      refine ⟨J2, tbL_say_0_8 hFt hb (br_f (nI_ge (by omega) (by omega)) ⟨_, _, la_word hFt hb (by omega), ?_⟩), m2⟩
      rw [show nI L + 4 = nI (L + 4) from nI_add L 4, show nI L + 8 = nI (L + 8) from nI_add L 8, show nI L + 12 = nI (L + 12) from nI_add L 12, show nI L + 16 = nI (L + 16) from nI_add L 16, show nI L + 20 = nI (L + 20) from nI_add L 20]
      exact ⟨_, _, la_word hFt hb (by omega), _, _, la_word hFt hb (by omega), _, _, la_word hFt hb (by omega), _, _, la_word hFt hb (by omega), _, _, c1, c2⟩
theorem la_say (hFt : cw_Ftx (cw_Fc K) ta tv tl) (hb : cw_Btx tl) (h580 : tl.length ≤ 580) {L : Nat} (h : I 1 1 = nI L) (hL : L ≤ 600) : ∃ J, cw_C (cc_w K) mL_say [.ref (cw_a (cc_w K) 0), .ref ta] I (some (.int 1)) J ∧ J 1 1 = nI tl.length ∧ (∀ o, o ≠ 1 → o ≠ 2 → J o = I o) ∧ ∀ j, j < tl.length → J 2 j = tl.getD j 0 := by
  have h0 : tx_more I (cw_st I 1 1 (nI 0)) 0 0 (fun i => nI (wd_b tl i)) := ⟨rfl, fun o h1 h2 => by
    show (if o = 1 then _ else I o) = _
    rw [if_neg h1], fun j hj => by omega, fun i hi => by omega⟩
  obtain ⟨J, c1, m1, m2, m3, m4⟩ := la_sayL (K := K) hFt hb h580 I 29 0 (by omega) (by omega) _ h0
  refine ⟨J, eL_say_0 (tv := tv) (tl := tl) ⟨_, _, fc_truncate h hL (Nat.zero_le _), c1⟩, by rw [m1, Nat.zero_add], m2, fun j hj => ?_⟩
  have h9 := m4 j hj
  rw [Nat.zero_add] at h9
  rw [h9, wd_b_at hb hj]
end SAY
