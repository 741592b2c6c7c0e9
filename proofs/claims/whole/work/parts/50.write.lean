/-! ## writeOwners, both sides step by step -/
section WRO
variable {K : cw_K} {n k u q : Nat} {v : Nat → Nat → Nat} {ow : Nat → Int32} {nl : Nat → Nat} {nb : Nat → Nat → Int32}
theorem sp_end_iff {c : Nat} : sp_end ow n c = true ↔ (n ≤ c + 1 ∨ ow c ≠ ow (c + 1)) := by simp [sp_end]
theorem so_piece {I J : cw_M} {W b e : Nat} (h : sp_PW n k v ow nl nb u q W I J) (hb : b < e) (he : e ≤ n) (hW : W + 9 ≤ 240) (hz : (b = 0 ∧ W = 0) ∨ (0 < b ∧ 0 < W)) : ∃ I2 J2 W2, W < W2 ∧ W2 ≤ W + 9 ∧ sp_PW n k v ow nl nb u q W2 I2 J2 ∧ cw_C (cc_w K) mX10_writePiece [.ref (cw_a (cc_w K) 0), .int (nI b), .int (nI e)] I none I2 ∧ cw_C (cr_w K) mX11_putRun [.ref (cw_a (cr_w K) 0), .int (nI (e - b)), .int (ow b)] J none J2 := by
  have hn := h.1.n24
  have hok := h.1.2.2.2.2.1.2 b (by omega)
  have e1 : nI e - nI b = nI (e - b) := sp_sub (by omega)
  have hin : vp_in (nI b) 24 := vp_in_nI (by omega) (by omega)
  have w3 : J 0 8 = nI W := h.2.2.2.1.2.2.1
  rcases hz with ⟨b0, W0⟩ | ⟨b0, W0⟩
  · obtain ⟨I1, J1, W1, l1, l2, h1, a1, b1⟩ := so_num (K := K) h (by omega) (nI (e - b))
    obtain ⟨I2, J2, W2, l3, l4, h2, a2, b2⟩ := so_tail (K := K) h1 (by omega) hok
    have o1 : I1 9 (nI b).toNatClampNeg = ow b := by rw [nI_clamp (by omega)]; exact h1.1.oI b (by omega)
    refine ⟨I2, J2, W2, by omega, by omega, h2, eX10_writePiece_0 (br_t ?_ ?_), eX11_putRun_0 (br_t ?_ (b1 _ b2))⟩
    · rw [b0]; exact Int32.le_refl _
    · rw [e1]; exact ⟨_, a1, hin, by rw [o1]; exact a2⟩
    · rw [w3, W0]; exact Int32.le_refl _
  · obtain ⟨I0, J0, a0, c0, h0⟩ := so_add (K := K) h (by omega) 32
    obtain ⟨I1, J1, W1, l1, l2, h1, a1, b1⟩ := so_num (K := K) h0 (by omega) (nI (e - b))
    obtain ⟨I2, J2, W2, l3, l4, h2, a2, b2⟩ := so_tail (K := K) h1 (by omega) hok
    have o1 : I1 9 (nI b).toNatClampNeg = ow b := by rw [nI_clamp (by omega)]; exact h1.1.oI b (by omega)
    refine ⟨I2, J2, W2, by omega, by omega, h2, eX10_writePiece_0 (br_f ?_ ⟨_, a0, ?_⟩), eX11_putRun_0 (br_f ?_ ⟨_, c0, b1 _ b2⟩)⟩
    · exact fun z => absurd ((nI_leI (b := 0) (by omega) (by omega)).mp z) (by omega)
    · rw [e1]; exact ⟨_, a1, hin, by rw [o1]; exact a2⟩
    · rw [w3]; exact fun z => absurd ((nI_leI (b := 0) (by omega) (by omega)).mp z) (by omega)
theorem so_loop : ∀ (d c b W : Nat) (I J : cw_M), c + d = n → b ≤ c → (c < n → ow c = ow b) → W ≤ 9 * b → ((b = 0 ∧ W = 0) ∨ (0 < b ∧ 0 < W)) → sp_PW n k v ow nl nb u q W I J → ∃ W2 I2 J2, bX10_writeOwners_0_12 K (some (.int (nI W2))) I2 (nI b) (nI c) I ∧ bX11_writeOwners_0_14 K (some (.int (nI W2))) J2 (nI b) (nI (c + 1)) J ∧ sp_PW n k v ow nl nb u q W2 I2 J2 := by
  intro d
  induction d with
  | zero =>
    intro c b W I J hc hb ho hW hz h
    have hn := h.1.n24
    have e0 : c = n := by omega
    have n1 : I 5 0 = nI n := h.1.cv.1
    have n2 : J 1 0 = nI n := h.1.rv.1
    refine ⟨W, I, J, tbX10_writeOwners_0_12 (br_t ?_ ⟨by rw [h.2.2.2.1.2.1], rfl⟩), tbX11_writeOwners_0_14 (br_t ?_ ⟨by rw [h.2.2.2.1.2.2.1], rfl⟩), h⟩
    · rw [n1, e0]; exact Int32.le_refl _
    · rw [n2]; exact nI_lt (by omega) (by omega)
  | succ d ih =>
    intro c b W I J hc hb ho hW hz h
    have hn := h.1.n24
    have n1 : I 5 0 = nI n := h.1.cv.1
    have n2 : J 1 0 = nI n := h.1.rv.1
    have c1 : ¬ I 5 0 ≤ nI c := by rw [n1]; exact fun z => absurd ((nI_leI (by omega) (by omega)).mp z) (by omega)
    have r1 : ¬ J 1 0 < nI (c + 1) := by rw [n2]; exact fun z => absurd ((nI_ltI (by omega) (by omega)).mp z) (by omega)
    have hE := sc_endsPiece (K := K) h.1.cv h.1.oI (show c < n by omega)
    have oB := sr_ownerOf (K := K) hn h.1.oJ (show b < n by omega)
    have e1 : nI (c + 1) - nI b = nI (c + 1 - b) := sp_sub (by omega)
    by_cases z : c + 1 < n
    · have r2 : ¬ J 1 0 ≤ nI (c + 1) := by rw [n2]; exact fun y => absurd ((nI_leI (by omega) (by omega)).mp y) (by omega)
      have oC := sr_ownerOf (K := K) hn h.1.oJ z
      by_cases y : ow (c + 1) = ow b
      · obtain ⟨W2, I2, J2, a1, b1, h2⟩ := ih (c + 1) b W I J (by omega) (by omega) (fun _ => y) hW hz h
        have hne : ¬ sp_end ow n c = true := fun w => by
          rcases sp_end_iff.mp w with w | w
          · omega
          · exact w (by rw [y, ho (by omega)])
        refine ⟨W2, I2, J2, tbX10_writeOwners_0_12 (br_f c1 ⟨_, _, hE, fun _ => ?_, fun w => absurd (sp_bit1 w) hne⟩), tbX11_writeOwners_0_14 (br_f r1 (br_f r2 ⟨_, _, oC, _, _, oB, fun w => absurd y w, fun _ => ?_⟩)), h2⟩
        · rw [nI_1]; exact a1
        · rw [nI_1]; exact b1
      · obtain ⟨I1, J1, W1, l1, l2, h1, a0, b0⟩ := so_piece (K := K) h (show b < c + 1 by omega) (by omega) (by omega) hz
        obtain ⟨W2, I2, J2, a1, b1, h2⟩ := ih (c + 1) (c + 1) W1 I1 J1 (by omega) (by omega) (fun _ => rfl) (by omega) (Or.inr ⟨by omega, by omega⟩) h1
        have hne : sp_end ow n c = true := by
          refine sp_end_iff.mpr ?_
          exact Or.inr (fun w => y (by rw [← w, ho (by omega)]))
        refine ⟨W2, I2, J2, tbX10_writeOwners_0_12 (br_f c1 ⟨_, _, hE, fun w => absurd hne (sp_bit0 w), fun _ => ?_⟩), tbX11_writeOwners_0_14 (br_f r1 (br_f r2 ⟨_, _, oC, _, _, oB, fun _ => ⟨_, _, oB, ?_⟩, fun w => absurd w y⟩)), h2⟩
        · rw [nI_1]; exact ⟨_, a0, a1⟩
        · rw [e1, nI_1]; exact ⟨_, b0, b1⟩
    · have r2 : J 1 0 ≤ nI (c + 1) := by rw [n2]; exact nI_le (by omega) (by omega)
      obtain ⟨I1, J1, W1, l1, l2, h1, a0, b0⟩ := so_piece (K := K) h (show b < c + 1 by omega) (by omega) (by omega) hz
      obtain ⟨W2, I2, J2, a1, b1, h2⟩ := ih (c + 1) (c + 1) W1 I1 J1 (by omega) (by omega) (fun w => absurd w z) (by omega) (Or.inr ⟨by omega, by omega⟩) h1
      have hne : sp_end ow n c = true := by
        refine sp_end_iff.mpr ?_
        exact Or.inl (by omega)
      refine ⟨W2, I2, J2, tbX10_writeOwners_0_12 (br_f c1 ⟨_, _, hE, fun w => absurd hne (sp_bit0 w), fun _ => ?_⟩), tbX11_writeOwners_0_14 (br_f r1 (br_t r2 ⟨_, _, oB, ?_⟩)), h2⟩
      · rw [nI_1]; exact ⟨_, a0, a1⟩
      · rw [e1, nI_1]; exact ⟨_, b0, b1⟩
theorem ca_writeOwners {I J : cw_M} (h : sp_Rel I J) : sp_Q K mX10_writeOwners mX11_writeOwners [] I J := by
  obtain ⟨n, k, v, ow, nl, nb, u, q, hc, hu, ht, ho, he⟩ := h
  have h0 : sp_PW n k v ow nl nb u q 0 (cw_st I 3 1 0) (cw_st (cw_st J 0 9 0) 0 8 0) := ⟨hc, hu, ht, ⟨by omega, rfl, rfl, fun j hj => absurd hj (by omega)⟩, he, rfl⟩
  obtain ⟨W2, I2, J2, a1, b1, h2⟩ := so_loop (K := K) n 0 0 0 _ _ (by omega) (by omega) (fun _ => rfl) (by omega) (Or.inl ⟨rfl, rfl⟩) h0
  exact ⟨_, I2, J2, eX10_writeOwners_0 a1, eX11_writeOwners_0 b1, h2.2.2.2.2.2, h2.rel⟩
end WRO
