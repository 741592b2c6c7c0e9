/-! ## the face: undo, save, restore; inconsistencies; nameByte -/
theorem sp_bb24 (f g : Nat → Int32) (p : Nat) {c : Nat} (hc : c < 24) : va_cpy f g (p * 24) 0 24 c = f (p * 24 + c) := by
  unfold va_cpy
  rw [if_pos (by omega), show c - 0 = c by omega]
theorem sp_bb144 (f g : Nat → Int32) (p : Nat) {c : Nat} (hc : c < 144) : va_cpy f g (p * 144) 0 144 c = f (p * 144 + c) := by
  unfold va_cpy
  rw [if_pos (by omega), show c - 0 = c by omega]
theorem sp_cb0_at (f : Nat → Int32) (b : Nat) {j : Nat} (hj : j < 212) : sp_cb f b 0 j = f (b * 212 + j) := by
  have h := sp_cb_at f b 0 0 hj
  rw [show 0 * 212 + j = j by omega, if_pos rfl] at h
  exact h
theorem sp_cb0_hi (f : Nat → Int32) (b : Nat) {j : Nat} (hj : 212 ≤ j) : sp_cb f b 0 j = f j := by
  unfold sp_cb sp_cbp
  rw [if_neg (by omega)]
section STA
variable {K : cw_K} {I J : cw_M} {n k u q : Nat} {v : Nat → Nat → Nat} {ow : Nat → Int32} {nl : Nat → Nat} {nb : Nat → Nat → Int32}
/-- an earlier state brought back -/
theorem sp_P.back (h : sp_P n k v ow nl nb u q I J) {p b : Nat} (hB : sp_PB n k nl nb (I 30) (I 31) (J 1) p b) : ∃ (v2 : Nat → Nat → Nat) (ow2 : Nat → Int32), sp_P n k v2 ow2 nl nb u q (sp_bb I p) (cw_up J 1 (sp_cb (J 1) b 0)) := by
  obtain ⟨hc, hu, hw⟩ := h
  have hu2 := hu.m (m2 := sp_cb (J 1) b 0) hc.n24 hc.k6 hc.nl6 (fun j hj _ => sp_cb0_hi _ _ hj)
  have hnl := hc.nl6
  obtain ⟨a1, a2, a3, a4, _, a7, a8, _, a11, _⟩ := hc
  obtain ⟨v2, ow2, g, ⟨p1, p2⟩, bk⟩ := hB
  exact ⟨v2, ow2, ⟨a1, a2, a3, a4, g, a7, a8, ⟨fun c hc => (sp_bb24 (I 30) (I 9) p (by omega)).trans (p1 c hc), fun s c hs hc => (sp_bb144 (I 31) (I 8) p (by omega)).trans (p2 s c hs hc)⟩, a11, bk.cg a2 a4 hnl (fun j hj => sp_cb0_at (J 1) b hj)⟩, hu2, hw⟩
theorem ca_undo (hFT : cw_FT (cw_f (cc_w K))) (hl : K.1.stackTraces = false) (h : sp_Rel I J) : sp_Q K mX10_undo mX11_undo [] I J ∨ sp_X K mX10_undo mX11_undo [] "java/lang/IllegalStateException" 1 I J := by
  have hh := h
  obtain ⟨n, k, v, ow, nl, nb, u, q, hP⟩ := hh
  have hP0 := hP
  obtain ⟨hc, hu, hw⟩ := hP
  have hk := hc.k6
  have hn := hc.n24
  obtain ⟨u1, u2, u3, u4, u5, u6, u7⟩ := hu
  by_cases z : u = 0
  · have e0 : I 28 0 = 0 := by rw [u1, z]; rfl
    have e1 : J 0 2 = 0 := by rw [u3, z]; rfl
    exact Or.inr ⟨_, _, _, xX10_undo_0 hFT hl ⟨fun q => absurd e0 q, fun _ => ⟨rfl, rfl⟩⟩, eX11_undo_0 ⟨fun q => absurd e1 q, fun _ => ⟨_, _, sr_fails1, fun q => absurd q (by decide), fun _ => ⟨rfl, rfl⟩⟩⟩, rfl, h⟩
  · have e0 : ¬ I 28 0 = 0 := by
      rw [u1]
      intro y
      exact z ((nI_eq (b := 0) (by omega) (by omega)).mp y)
    have e1 : ¬ J 0 2 = 0 := by
      rw [u3]
      intro y
      exact z ((nI_eq (b := 0) (by omega) (by omega)).mp y)
    have hpq : sp_pq q < 6 ∧ (q + 6 - u + (u - 1)) % 6 = sp_pq q := by
      show (if 0 < q then q - 1 else 5) < 6 ∧ _ = (if 0 < q then q - 1 else 5)
      split <;> omega
    have hB := u6 (u - 1) (by omega)
    rw [hpq.2, show u - 1 + 1 = u by omega] at hB
    have hP1 : sp_P n k v ow nl nb (u - 1) (sp_pq q) (cw_st (cw_st I 28 2 (nI (sp_pq q))) 28 0 (nI (u - 1))) (cw_st (cw_st J 0 9 0) 0 2 (nI (u - 1))) := by
      refine ⟨hc, ⟨rfl, rfl, rfl, by omega, hpq.1, fun i hi => ?_, u7⟩, hw⟩
      have h2 := u6 i (by omega)
      have e3 : (sp_pq q + 6 - (u - 1) + i) % 6 = (q + 6 - u + i) % 6 := by
        show ((if 0 < q then q - 1 else 5) + 6 - (u - 1) + i) % 6 = _
        split <;> omega
      rw [e3]
      exact h2
    obtain ⟨v2, ow2, hO⟩ := hP1.back (p := sp_pq q) (b := u) hB
    have h1 := sc_undoLatest (K := K) u2 u5 u1 u4 (show 1 ≤ u by omega)
    have g1 : cw_C (cr_w K) mX11_copyBlock [.ref (cw_a (cr_w K) 0), .int ((cw_st J 0 9 0) 0 2), .int 0] (cw_st J 0 9 0) none (cw_up (cw_st J 0 9 0) 1 (sp_cb (J 1) u 0)) := by
      rw [show (cw_st J 0 9 0) 0 2 = nI u from u3]
      exact sr_copyBlock (K := K) (J := cw_st J 0 9 0) (a := u) (b := 0) (by omega) (by omega) (by omega)
    have e4 : (cw_up (cw_st J 0 9 0) 1 (sp_cb (J 1) u 0)) 0 2 - 1 = nI (u - 1) := by
      rw [show (cw_up (cw_st J 0 9 0) 1 (sp_cb (J 1) u 0)) 0 2 = nI u from u3]
      exact sp_sub (b := 1) (by omega)
    have e5 : cw_st (cw_up (cw_st J 0 9 0) 1 (sp_cb (J 1) u 0)) 0 2 (nI (u - 1)) = cw_up (cw_st (cw_st J 0 9 0) 0 2 (nI (u - 1))) 1 (sp_cb (J 1) u 0) := by
      funext o
      by_cases o0 : o = 0
      · subst o0; rfl
      · by_cases o1 : o = 1
        · subst o1; rfl
        · simp [cw_st, cw_up, o0, o1]
    refine Or.inl ⟨_, _, _, eX10_undo_0 ⟨fun _ => ⟨_, h1, rfl, rfl⟩, fun q => absurd q e0⟩, eX11_undo_0 ⟨fun _ => ⟨_, _, sr_fails0, fun _ => ⟨_, g1, ?_⟩, fun q => absurd rfl q⟩, fun q => absurd q e1⟩, ?_, n, k, v2, ow2, nl, nb, _, _, hO⟩
    · rw [e4, e5]; exact ⟨rfl, rfl⟩
    · rfl
theorem sc_requireSlot {x : Int32} (h : 0 ≤ x ∧ x < 2) : cw_C (cc_w K) mX10_requireSlot [.ref (cw_a (cc_w K) 0), .int x] I none I := eX10_requireSlot_0 ⟨fun q => absurd h.1 (Int32.not_le.mpr q), fun _ => ⟨fun _ => ⟨rfl, rfl⟩, fun q => absurd h.2 q⟩⟩
theorem st_requireSlot (hFT : cw_FT (cw_f (cc_w K))) (hl : K.1.stackTraces = false) {x : Int32} (h : ¬ (0 ≤ x ∧ x < 2)) : cw_T (cc_w K) mX10_requireSlot [.ref (cw_a (cc_w K) 0), .int x] I "java/lang/IndexOutOfBoundsException" I := xX10_requireSlot_0 hFT hl ⟨fun _ => ⟨rfl, rfl⟩, fun q => ⟨fun q2 => absurd ⟨Int32.not_lt.mp q, q2⟩ h, fun _ => ⟨rfl, rfl⟩⟩⟩
theorem sp_le1 {x : Int32} : (x ≤ 1) = (x < 2) := by
  have h := sp_pred (x := x) (m := 2) (by omega)
  rw [show nI 2 - 1 = 1 by decide, show nI 2 = 2 from rfl] at h
  exact h
theorem ca_save (hFT : cw_FT (cw_f (cc_w K))) (hl : K.1.stackTraces = false) (h : sp_Rel I J) {x : Int32} : sp_Q K mX10_save mX11_save [.int x] I J ∨ sp_X K mX10_save mX11_save [.int x] "java/lang/IndexOutOfBoundsException" 1 I J := by
  have hh := h
  obtain ⟨n, k, v, ow, nl, nb, u, q, hP⟩ := hh
  obtain ⟨hc, hu, hw⟩ := hP
  have hk := hc.k6
  have hn := hc.n24
  have hnl := hc.nl6
  by_cases z : 0 ≤ x ∧ x < 2
  · obtain ⟨t, ht, rfl⟩ := sp_inB (k := 2) (by omega) z
    have hP1 : sp_P n k v ow nl nb u q (cw_st (sp_kp I (6 + t)) 29 t (vp_nar .boolean 1)) (cw_st (cw_up (cw_st J 0 9 0) 1 (sp_cb (J 1) 0 (7 + t))) 2 t (vp_nar .boolean 1)) := by
      refine ⟨hc.m (m2 := sp_cb (J 1) 0 (7 + t)) (fun j hj => sp_cb_low _ (by omega) hj), ?_, hw⟩
      obtain ⟨u1, u2, u3, u4, u5, u6, u7⟩ := hu
      have ev : ∀ p b, p ≠ 6 + t → b ≠ 7 + t → sp_PB n k nl nb (I 30) (I 31) (J 1) p b → sp_PB n k nl nb (va_cpy (I 9) (I 30) 0 ((6 + t) * 24) 24) (va_cpy (I 8) (I 31) 0 ((6 + t) * 144) 144) (sp_cb (J 1) 0 (7 + t)) p b := fun p b hp hb hB => hB.mv hn hk hnl (fun c hc => by rw [sp_cpy24 _ _ _ _ hc, if_neg hp]) (fun c hc => by rw [sp_cpy144 _ _ _ _ hc, if_neg hp]) (fun j hj => by rw [sp_cb_at _ _ _ _ hj, if_neg hb])
      have enew : sp_PB n k nl nb (va_cpy (I 9) (I 30) 0 ((6 + t) * 24) 24) (va_cpy (I 8) (I 31) 0 ((6 + t) * 144) 144) (sp_cb (J 1) 0 (7 + t)) (6 + t) (7 + t) := by
        obtain ⟨_, _, _, _, g, _, _, ⟨p1, p2⟩, _, bk⟩ := hc
        refine ⟨v, ow, g, ⟨fun c hc => ?_, fun s c hs hc => ?_⟩, bk.cg hn hk hnl (fun j hj => ?_)⟩
        · show va_cpy (I 9) (I 30) 0 ((6 + t) * 24) 24 ((6 + t) * 24 + c) = _
          rw [sp_cpy24 _ _ _ _ (by omega), if_pos rfl]
          exact p1 c hc
        · show va_cpy (I 8) (I 31) 0 ((6 + t) * 144) 144 ((6 + t) * 144 + (s * 24 + c)) = _
          rw [sp_cpy144 _ _ _ _ (by omega), if_pos rfl]
          exact p2 s c hs hc
        · show sp_cb (J 1) 0 (7 + t) ((7 + t) * 212 + j) = _
          rw [sp_cb_at _ _ _ _ hj, if_pos rfl, show 0 * 212 + j = j by omega]
      refine ⟨u1, u2, u3, u4, u5, fun i hi => ev _ _ (by omega) (by omega) (u6 i hi), fun t2 ht2 => ?_⟩
      by_cases y : t2 = t
      · subst y
        refine Or.inr ⟨?_, ?_, enew⟩
        · show upd (I 29) t2 (vp_nar .boolean 1) t2 = 1
          simp only [upd, if_true]
          decide
        · show upd (J 2) t2 (vp_nar .boolean 1) t2 = 1
          simp only [upd, if_true]
          decide
      · have e1 : upd (I 29) t (vp_nar .boolean 1) t2 = I 29 t2 := by simp only [upd, if_neg y]
        have e2 : upd (J 2) t (vp_nar .boolean 1) t2 = J 2 t2 := by simp only [upd, if_neg y]
        rcases u7 t2 ht2 with ⟨w1, w2⟩ | ⟨w1, w2, w3⟩
        · exact Or.inl ⟨e1.trans w1, e2.trans w2⟩
        · exact Or.inr ⟨e1.trans w1, e2.trans w2, ev _ _ (by omega) (by omega) w3⟩
    have h1 := sc_countOwned (K := K) hP1.1.cv hP1.1.oI (-1)
    have g1 : cw_C (cr_w K) mX11_copyBlock [.ref (cw_a (cr_w K) 0), .int 0, .int (7 + nI t)] (cw_st J 0 9 0) none (cw_up (cw_st J 0 9 0) 1 (sp_cb (J 1) 0 (7 + t))) := by
      rw [show (7 : Int32) + nI t = nI (7 + t) from nI_add 7 t]
      exact sr_copyBlock (K := K) (J := cw_st J 0 9 0) (a := 0) (b := 7 + t) (by omega) (by omega) (by omega)
    have g2 := sr_sizeOf (K := K) hP1.1.rv hP1.1.oJ (-1)
    refine Or.inl ⟨_, _, _, eX10_save_0 ⟨_, sc_requireSlot z, _, sc_saveTo ht, _, _, h1, rfl, rfl⟩, eX11_save_0 ⟨_, _, sr_in, fun _ => ⟨_, _, sr_fails0, fun _ => ⟨_, g1, vp_in_nI (by omega) (by omega), _, _, ?_, rfl, rfl⟩, fun q => absurd rfl q⟩, fun q => absurd ⟨z.1, by rw [sp_le1]; exact z.2⟩ (sp_bit0 q)⟩, ?_, n, k, v, ow, nl, nb, _, _, hP1⟩
    · rw [nI_clamp (by omega)]; exact g2
    · rfl
  · exact Or.inr ⟨_, _, _, xX10_save_0 (Or.inr ⟨_, _, st_requireSlot hFT hl z, rfl, rfl⟩), eX11_save_0 ⟨_, _, sr_in, fun q => absurd (sp_bit1 q) (fun y => z ⟨y.1, by rw [← sp_le1]; exact y.2⟩), fun _ => ⟨_, _, sr_fails1, fun q => absurd q (by decide), fun _ => ⟨rfl, rfl⟩⟩⟩, rfl, h⟩
theorem ca_restore (hFT : cw_FT (cw_f (cc_w K))) (hl : K.1.stackTraces = false) (h : sp_Rel I J) {x : Int32} : sp_Q K mX10_restore mX11_restore [.int x] I J ∨ sp_X K mX10_restore mX11_restore [.int x] "java/lang/IndexOutOfBoundsException" 1 I J ∨ sp_X K mX10_restore mX11_restore [.int x] "java/lang/IllegalStateException" 2 I J := by
  have hh := h
  obtain ⟨n, k, v, ow, nl, nb, u, q, hP⟩ := hh
  obtain ⟨hc, hu, hw⟩ := hP
  have hk := hc.k6
  have hn := hc.n24
  by_cases z : 0 ≤ x ∧ x < 2
  · obtain ⟨t, ht, rfl⟩ := sp_inB (k := 2) (by omega) z
    have zr : 0 ≤ nI t ∧ nI t ≤ 1 := ⟨z.1, by rw [sp_le1]; exact z.2⟩
    have hin : vp_in (nI t) 2 := vp_in_nI (by omega) (by omega)
    obtain ⟨u1, u2, u3, u4, u5, u6, u7⟩ := hu
    rcases u7 t ht with ⟨w1, w2⟩ | ⟨w1, w2, w3⟩
    · have e1 : I 29 (nI t).toNatClampNeg = 0 := by rw [nI_clamp (by omega)]; exact w1
      have e2 : J 2 (nI t).toNatClampNeg = 0 := by rw [nI_clamp (by omega)]; exact w2
      exact Or.inr (Or.inr ⟨_, _, _, xX10_restore_0 hFT hl (Or.inl ⟨_, sc_requireSlot z, hin, fun q => absurd e1 q, fun _ => ⟨rfl, rfl⟩⟩), eX11_restore_0 ⟨_, _, sr_in, fun q => ⟨fun q2 => absurd q2 q, fun _ => ⟨hin, fun q => absurd e2 q, fun _ => ⟨_, _, sr_fails2, fun q => absurd q (by decide), fun _ => ⟨rfl, rfl⟩⟩⟩⟩, fun q => absurd zr (sp_bit0 q)⟩, rfl, h⟩)
    · have e1 : ¬ I 29 (nI t).toNatClampNeg = 0 := by rw [nI_clamp (by omega), w1]; decide
      have e2 : ¬ J 2 (nI t).toNatClampNeg = 0 := by rw [nI_clamp (by omega), w2]; decide
      have hP1 : sp_P n k v ow nl nb 0 q (cw_st I 28 0 0) (cw_st (cw_st J 0 9 0) 0 2 0) := ⟨hc, ⟨rfl, u2, rfl, by omega, u5, fun i hi => absurd hi (by omega), u7⟩, hw⟩
      obtain ⟨v2, ow2, hO⟩ := hP1.back (p := 6 + t) (b := 7 + t) w3
      have ei : cw_st (sp_bb I (6 + t)) 28 0 0 = sp_bb (cw_st I 28 0 0) (6 + t) := by
        funext o
        by_cases o28 : o = 28
        · subst o28; rfl
        · by_cases o9 : o = 9
          · subst o9; rfl
          · by_cases o8 : o = 8
            · subst o8; rfl
            · simp [cw_st, cw_up, o28, o9, o8]
      have ej : cw_st (cw_up (cw_st J 0 9 0) 1 (sp_cb (J 1) (7 + t) 0)) 0 2 0 = cw_up (cw_st (cw_st J 0 9 0) 0 2 0) 1 (sp_cb (J 1) (7 + t) 0) := by
        funext o
        by_cases o0 : o = 0
        · subst o0; rfl
        · by_cases o1 : o = 1
          · subst o1; rfl
          · simp [cw_st, cw_up, o0, o1]
      have h0 := sc_restoreFrom (K := K) (I := I) ht
      rw [ei] at h0
      have h1 := sc_countOwned (K := K) hO.1.cv hO.1.oI (-1)
      have g1 : cw_C (cr_w K) mX11_copyBlock [.ref (cw_a (cr_w K) 0), .int (7 + nI t), .int 0] (cw_st J 0 9 0) none (cw_up (cw_st J 0 9 0) 1 (sp_cb (J 1) (7 + t) 0)) := by
        rw [show (7 : Int32) + nI t = nI (7 + t) from nI_add 7 t]
        exact sr_copyBlock (K := K) (J := cw_st J 0 9 0) (a := 7 + t) (b := 0) (by omega) (by omega) (by omega)
      have g2 := sr_sizeOf (K := K) hO.1.rv hO.1.oJ (-1)
      refine Or.inl ⟨_, _, _, eX10_restore_0 ⟨_, sc_requireSlot z, hin, fun _ => ⟨_, h0, _, _, h1, rfl, rfl⟩, fun q => absurd q e1⟩, eX11_restore_0 ⟨_, _, sr_in, fun q => ⟨fun q2 => absurd q2 q, fun _ => ⟨hin, fun _ => ⟨_, _, sr_fails0, fun _ => ⟨_, g1, _, _, ?_, rfl, rfl⟩, fun q => absurd rfl q⟩, fun q => absurd q e2⟩⟩, fun q => absurd zr (sp_bit0 q)⟩, ?_, n, k, v2, ow2, nl, nb, _, _, hO⟩
      · rw [ej]; exact g2
      · rfl
  · have zr : ¬ (0 ≤ x ∧ x ≤ 1) := fun y => z ⟨y.1, by rw [← sp_le1]; exact y.2⟩
    exact Or.inr (Or.inl ⟨_, _, _, xX10_restore_0 hFT hl (Or.inr ⟨_, _, st_requireSlot hFT hl z, rfl, rfl⟩), eX11_restore_0 ⟨_, _, sr_in, fun q => absurd (sp_bit1 q) zr, fun q => ⟨fun _ => ⟨_, _, sr_fails1, fun q => absurd q (by decide), fun _ => ⟨rfl, rfl⟩⟩, fun q2 => absurd q q2⟩⟩, rfl, h⟩)
/-! inconsistencies -/
def sp_inc (ow : Nat → Int32) (n : Nat) : Nat → Int32
  | 0 => nI n - nI (sp_cnt ow (-1) n)
  | i + 1 => sp_inc ow n i - nI (sp_cnt ow (nI i) n)
theorem sl_inconsistencies (h : sp_cv n k v I) (ho : ∀ c, c < n → I 9 c = ow c) : ∀ d i : Nat, i + d = k → bX10_inconsistencies_0_19 K (some (.int (sp_inc ow n k))) I (sp_inc ow n i) (nI i) I := by
  have hk := h.2.2.2.1
  intro d
  induction d with
  | zero =>
    intro i hi
    have e0 : i = k := by omega
    subst e0
    exact tbX10_inconsistencies_0_19 (br_t (by rw [h.2.1]; exact Int32.le_refl _) ⟨rfl, rfl⟩)
  | succ d ih =>
    intro i hi
    refine tbX10_inconsistencies_0_19 (br_f (by rw [h.2.1]; exact fun z => absurd ((nI_leI (by omega) (by omega)).mp z) (by omega)) ⟨_, _, sc_countOwned h ho (nI i), _, _, sc_hasEnvy h ho (show i < k by omega), fun _ => ?_, fun q => absurd (sp_bit1 q) (Nat.lt_irrefl _)⟩)
    rw [nI_1]
    exact ih (i + 1) (by omega)
theorem sp_0sub (x y : Int32) : x + (0 - y) = x - y := by
  rw [Int32.zero_sub, Int32.sub_eq_add_neg]
theorem sl_rinconsistencies (h : sp_rv n k v J) (ho : ∀ c, c < n → J 1 (2 + c) = ow c) : ∀ d i : Nat, i + d = k → bX11_inconsistencies_0_20 K (some (.int (sp_inc ow n k))) J (sp_inc ow n i) (nI i) J := by
  have hk := h.2.2.2.1
  intro d
  induction d with
  | zero =>
    intro i hi
    have e0 : i = k := by omega
    subst e0
    exact tbX11_inconsistencies_0_20 (br_t (by rw [h.2.1]; exact Int32.le_refl _) ⟨rfl, rfl⟩)
  | succ d ih =>
    intro i hi
    refine tbX11_inconsistencies_0_20 (br_f (by rw [h.2.1]; exact fun z => absurd ((nI_leI (by omega) (by omega)).mp z) (by omega)) ⟨_, _, sr_hasEnvy h ho (show i < k by omega), fun _ => ⟨_, _, sr_sizeOf h ho (nI i), ?_⟩, fun q => absurd (sp_bit1 q) (Nat.lt_irrefl _)⟩)
    rw [nI_1, sp_0sub]
    exact ih (i + 1) (by omega)
theorem ca_inconsistencies (h : sp_Rel I J) : sp_Q K mX10_inconsistencies mX11_inconsistencies [] I J := by
  have hh := h
  obtain ⟨n, k, v, ow, nl, nb, u, q, hc, hu, _⟩ := hh
  have hJ : sp_rv n k v (cw_st J 0 9 0) := hc.rv.st0 9 0
  have h1 := sl_inconsistencies (K := K) hc.cv hc.oI k 0 (by omega)
  have g1 := sl_rinconsistencies (K := K) (ow := ow) hJ hc.oJ k 0 (by omega)
  refine ⟨sp_inc ow n k, I, cw_st J 0 9 0, eX10_inconsistencies_0 ⟨_, _, sc_countOwned hc.cv hc.oI (-1), ?_⟩, eX11_inconsistencies_0 ⟨_, _, sr_sizeOf hJ (ow := ow) hc.oJ (-1), ?_⟩, rfl, h⟩
  · rw [hc.cv.1]; exact h1
  · rw [hJ.1]; exact g1
/-! names -/
theorem sp_6 (s c : Nat) : nI s * 6 + nI c = nI (s * 6 + c) := sp_ix 6 s c
theorem sp_ixn (s : Nat) : 26 + nI s * 31 = nI (26 + s * 31) := by
  rw [show nI s * 31 = nI (s * 31) from sp_mul s 31]
  exact nI_add 26 (s * 31)
theorem sp_ixn2 (s i : Nat) : 26 + nI s * 31 + 1 + nI i = nI (27 + s * 31 + i) := by
  rw [sp_ixn, show nI (26 + s * 31) + 1 = nI (26 + s * 31 + 1) from nI_add _ 1, nI_add]
  congr 1
  omega
theorem ca_nameByte (hFT : cw_FT (cw_f (cc_w K))) (hl : K.1.stackTraces = false) (h : sp_Rel I J) {x y : Int32} : sp_Q K mX10_nameByte mX11_nameByte [.int x, .int y] I J ∨ sp_X K mX10_nameByte mX11_nameByte [.int x, .int y] "java/lang/IndexOutOfBoundsException" 1 I J := by
  have hh := h
  obtain ⟨n, k, v, ow, nl, nb, u, q, hP⟩ := hh
  obtain ⟨hc, hu, hw⟩ := hP
  have hk := hc.k6
  have hn := hc.n24
  by_cases z1 : 0 ≤ x ∧ x < nI k
  · obtain ⟨s, hs, rfl⟩ := sp_inB (by omega) z1
    have hN := hc.2.2.2.2.2.2.2.2.1 s hs
    have hB := hc.2.2.2.2.2.2.2.2.2.2.2.2.2 s hs
    have hnl := hN.1
    have e6 : vp_in (nI s) 6 := vp_in_nI (by omega) (by omega)
    have e7 : I 7 (nI s).toNatClampNeg = nI (nl s) := by rw [nI_clamp (by omega)]; exact hN.2.1
    have f6 : vp_in (26 + nI s * 31) 2120 := by rw [sp_ixn]; exact vp_in_nI (by omega) (by omega)
    have f7 : J 1 (26 + nI s * 31).toNatClampNeg = nI (nl s) := by rw [sp_ixn, nI_clamp (by omega)]; exact hB.1
    by_cases z2 : 0 ≤ y ∧ y < nI (nl s)
    · obtain ⟨i, hi, rfl⟩ := sp_inB (by omega) z2
      have e8 : vp_in (nI s * 6 + nI i) 36 := by rw [sp_6]; exact vp_in_nI (by omega) (by omega)
      have e9 : I 6 (nI s * 6 + nI i).toNatClampNeg = nb s i := by rw [sp_6, nI_clamp (by omega)]; exact hN.2.2 i hi
      have f8 : vp_in (26 + nI s * 31 + 1 + nI i) 2120 := by rw [sp_ixn2]; exact vp_in_nI (by omega) (by omega)
      have f9 : J 1 (26 + nI s * 31 + 1 + nI i).toNatClampNeg = nb s i := by rw [sp_ixn2, nI_clamp (by omega)]; exact hB.2 i hi
      have hr : cw_C (cr_w K) mX11_nameByte [.ref (cw_a (cr_w K) 0), .int (nI s), .int (nI i)] J (some (.int (nb s i))) (cw_st J 0 9 0) := by
        refine eX11_nameByte_0 ⟨_, _, sr_isSibling hc.rv, fun q => absurd z1 (sp_bit0 q), fun _ => ⟨_, _, sr_isSibling hc.rv, fun q => absurd z1 (sp_bit0 q), fun _ => ⟨f6, ?_⟩⟩⟩
        rw [f7]
        exact ⟨_, _, sr_in, fun _ => ⟨_, _, sr_fails0, fun _ => ⟨f8, by rw [← f9]; rfl, rfl⟩, fun q => absurd rfl q⟩, fun q => absurd ⟨z2.1, by rw [sp_pred (by omega)]; exact z2.2⟩ (sp_bit0 q)⟩
      exact Or.inl ⟨nb s i, I, cw_st J 0 9 0, eX10_nameByte_0 ⟨_, sc_requireSibling hc.cv z1, fun q => absurd z2.1 (Int32.not_le.mpr q), fun _ => ⟨e6, fun _ => ⟨e8, by rw [e9], rfl⟩, fun q => absurd z2.2 (by rw [e7] at q; exact q)⟩⟩, hr, rfl, h⟩
    · have hr : cw_C (cr_w K) mX11_nameByte [.ref (cw_a (cr_w K) 0), .int (nI s), .int y] J (some (.int 0)) (cw_st J 0 9 1) := by
        refine eX11_nameByte_0 ⟨_, _, sr_isSibling hc.rv, fun q => absurd z1 (sp_bit0 q), fun _ => ⟨_, _, sr_isSibling hc.rv, fun q => absurd z1 (sp_bit0 q), fun _ => ⟨f6, ?_⟩⟩⟩
        rw [f7]
        exact ⟨_, _, sr_in, fun q => absurd (sp_bit1 q) (fun w => z2 ⟨w.1, by rw [← sp_pred (by omega)]; exact w.2⟩), fun _ => ⟨_, _, sr_fails1, fun q => absurd q (by decide), fun _ => ⟨rfl, rfl⟩⟩⟩
      refine Or.inr ⟨_, _, _, xX10_nameByte_0 hFT hl (Or.inl ⟨_, sc_requireSibling hc.cv z1, fun _ => ⟨rfl, rfl⟩, fun q => ⟨e6, fun q2 => absurd ⟨Int32.not_lt.mp q, by rw [e7] at q2; exact q2⟩ z2, fun _ => ⟨rfl, rfl⟩⟩⟩), hr, rfl, h⟩
  · refine Or.inr ⟨_, _, _, xX10_nameByte_0 hFT hl (Or.inr ⟨_, _, st_requireSibling hFT hl hc.cv z1, rfl, rfl⟩), eX11_nameByte_0 ⟨_, _, sr_isSibling hc.rv, fun _ => ⟨_, _, sr_isSibling hc.rv, fun _ => ⟨_, _, sr_fails1, fun q => absurd q (by decide), fun _ => ⟨rfl, rfl⟩⟩, fun q => absurd (sp_bit1 q) z1⟩, fun q => absurd (sp_bit1 q) z1⟩, rfl, h⟩
end STA
