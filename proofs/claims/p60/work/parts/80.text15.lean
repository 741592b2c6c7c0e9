/-! ## a text whose tokens are known: the first setup is read -/
/-- behind e0 the next token is of kind kd, from a to e -/
def zt_tok (t : Nat → Int32) (L e0 kd a e : Nat) : Prop := e0 ≤ a ∧ a ≤ e ∧ e ≤ L ∧ (∀ i, i < a → e0 ≤ i → t i = 32 ∨ t i = 10) ∧ ((kd = 0 ∧ a = L ∧ e = L) ∨ (kd = 1 ∧ a < e ∧ e ≤ a + 8 ∧ (∀ i, i < e → a ≤ i → tp_wd (t i)) ∧ (e < L → ¬ tp_wd (t e))) ∨ (kd = 2 ∧ a < e ∧ e ≤ a + 2 ∧ (∀ i, i < e → a ≤ i → tp_dg (t i)) ∧ (e < L → ¬ tp_dg (t e))) ∨ (kd = 3 ∧ e = a + 1 ∧ t a = 59))
section ZT
variable {K : cw_K} {I J : cw_M} {L : Nat}
theorem zt_word (hT : sp_TL L I J) {a e : Nat} (ty va : Int32) (he : e ≤ L) (h8 : e ≤ a + 8) (hw : ∀ i, i < e → a ≤ i → tp_wd (J 3 i)) (hn : e < L → ¬ tp_wd (J 3 e)) : ∀ d j : Nat, j + d = e → a < j → bX5_advance_15_151 K none (tp_KI I 1 (nI a) (nI e)) (nI (a + 8)) (tp_KI I 1 (nI a) (nI j)) ∧ bY11_token_0_92 K none (tp_KJ J (nI e) 1 (nI a) va) (tp_KJ J (nI j) ty (nI a) va) := by
  obtain ⟨hL, t2, t3, t4⟩ := hT
  intro d
  induction d with
  | zero =>
    intro j hj ha
    have e0 : j = e := by omega
    subst e0
    have fin : ((((tp_KI I 1 (nI a) (nI j)) 15 4) ≤ nI (a + 8) → ((none : Option Value) = none ∧ (tp_KI I 1 (nI a) (nI j)) = cw_st (tp_KI I 1 (nI a) (nI j)) 15 2 ((tp_KI I 1 (nI a) (nI j)) 15 2))) ∧ (¬ ((tp_KI I 1 (nI a) (nI j)) 15 4) ≤ nI (a + 8) → ((none : Option Value) = none ∧ (tp_KI I 1 (nI a) (nI j)) = cw_st (tp_KI I 1 (nI a) (nI j)) 15 2 5))) := by
      rw [tp_K2, tp_K2, tp_K4a, tp_K2a]
      exact ⟨fun _ => ⟨rfl, rfl⟩, fun z => absurd (nI_le h8 (by omega)) z⟩
    have finr : (((((tp_KJ J (nI j) ty (nI a) va) 0 15) - ((tp_KJ J (nI j) ty (nI a) va) 0 17)) ≤ 8 → ((none : Option Value) = none ∧ (tp_KJ J (nI j) 1 (nI a) va) = cw_st (tp_KJ J (nI j) ty (nI a) va) 0 16 1)) ∧ (¬ (((tp_KJ J (nI j) ty (nI a) va) 0 15) - ((tp_KJ J (nI j) ty (nI a) va) 0 17)) ≤ 8 → ((none : Option Value) = none ∧ (tp_KJ J (nI j) 1 (nI a) va) = cw_st (tp_KJ J (nI j) ty (nI a) va) 0 16 4))) := by
      rw [tp_J16, tp_J16, tp_J15a, tp_J17a, sp_sub (show a ≤ j by omega)]
      exact ⟨fun _ => ⟨rfl, rfl⟩, fun z => absurd (nI_le (b := 8) (by omega) (by omega)) z⟩
    by_cases z : j < L
    · have z1 : ¬ (tp_KI I 1 (nI a) (nI j)) 1 1 ≤ (tp_KI I 1 (nI a) (nI j)) 15 4 := by rw [tp_K1a, tp_K4a, t2]; exact fun z => absurd ((nI_leI (by omega) (by omega)).mp z) (by omega)
      have z2 : ¬ (tp_KJ J (nI j) ty (nI a) va) 0 4 ≤ (tp_KJ J (nI j) ty (nI a) va) 0 15 := by rw [tp_J4a, tp_J15a, t3]; exact fun z => absurd ((nI_leI (by omega) (by omega)).mp z) (by omega)
      have i1 : vp_in (nI j) 600 := vp_in_nI (by omega) (by omega)
      have eb : I 2 (nI j).toNatClampNeg = J 3 (nI j).toNatClampNeg := by rw [nI_clamp (by omega)]; exact t4 j (by omega)
      have y : ¬ tp_wd (J 3 (nI j).toNatClampNeg) := by rw [nI_clamp (by omega)]; exact hn z
      refine ⟨tbX5_advance_15_151 (br_f z1 ⟨i1, _, _, sk_kindOf _, fun _ => fin, fun q => absurd ?_ y⟩), tbY11_token_0_92 (br_f z2 ⟨i1, _, _, sk_isSmall _, fun _ => finr, fun q => absurd (sp_bit1 q) y⟩)⟩
      rw [tp_K4a, tp_K2a, tp_Kta, eb] at q
      have y2 : ¬ tp_kd (J 3 (nI j).toNatClampNeg) = 1 := by
        rw [tp_kd, if_neg y]
        split
        · decide
        · split
          · decide
          · split <;> decide
      exact absurd q y2
    · have e0 : j = L := by omega
      refine ⟨tbX5_advance_15_151 (br_t ?_ fin), tbY11_token_0_92 (br_t ?_ finr)⟩
      · rw [tp_K1a, tp_K4a, t2, e0]; exact Int32.le_refl _
      · rw [tp_J4a, tp_J15a, t3, e0]; exact Int32.le_refl _
  | succ d ih =>
    intro j hj ha
    have z1 : ¬ (tp_KI I 1 (nI a) (nI j)) 1 1 ≤ (tp_KI I 1 (nI a) (nI j)) 15 4 := by rw [tp_K1a, tp_K4a, t2]; exact fun z => absurd ((nI_leI (by omega) (by omega)).mp z) (by omega)
    have z2 : ¬ (tp_KJ J (nI j) ty (nI a) va) 0 4 ≤ (tp_KJ J (nI j) ty (nI a) va) 0 15 := by rw [tp_J4a, tp_J15a, t3]; exact fun z => absurd ((nI_leI (by omega) (by omega)).mp z) (by omega)
    have i1 : vp_in (nI j) 600 := vp_in_nI (by omega) (by omega)
    have eb : I 2 (nI j).toNatClampNeg = J 3 (nI j).toNatClampNeg := by rw [nI_clamp (by omega)]; exact t4 j (by omega)
    have y : tp_wd (J 3 (nI j).toNatClampNeg) := by rw [nI_clamp (by omega)]; exact hw j (by omega) (by omega)
    obtain ⟨a1, b1⟩ := ih (j + 1) (by omega) (by omega)
    refine ⟨tbX5_advance_15_151 (br_f z1 ⟨i1, _, _, sk_kindOf _, fun q => absurd ?_ q, fun _ => ?_⟩), tbY11_token_0_92 (br_f z2 ⟨i1, _, _, sk_isSmall _, fun q => absurd y (sp_bit0 q), fun _ => ?_⟩)⟩
    · rw [tp_K4a, tp_K2a, tp_Kta, eb]; exact tp_kd1 y
    · rw [tp_K4a, nI_1, tp_K4]; exact a1
    · rw [tp_J15a, nI_1, tp_J15]; exact b1
theorem zt_num (hT : sp_TL L I J) {a e : Nat} (ty : Int32) (he : e ≤ L) (h8 : e ≤ a + 2) (hw : ∀ i, i < e → a ≤ i → tp_dg (J 3 i)) (hn : e < L → ¬ tp_dg (J 3 e)) : ∀ d j : Nat, j + d = e → a < j → bX5_advance_15_151 K none (tp_KI I 2 (nI a) (nI e)) (nI (a + 2)) (tp_KI I 2 (nI a) (nI j)) ∧ bY11_token_0_175 K none (tp_KJ J (nI e) 2 (nI a) (tp_nv (J 3) a (e - a))) (tp_KJ J (nI j) ty (nI a) (tp_nv (J 3) a (j - a))) := by
  obtain ⟨hL, t2, t3, t4⟩ := hT
  intro d
  induction d with
  | zero =>
    intro j hj ha
    have e0 : j = e := by omega
    subst e0
    have fin : ((((tp_KI I 2 (nI a) (nI j)) 15 4) ≤ nI (a + 2) → ((none : Option Value) = none ∧ (tp_KI I 2 (nI a) (nI j)) = cw_st (tp_KI I 2 (nI a) (nI j)) 15 2 ((tp_KI I 2 (nI a) (nI j)) 15 2))) ∧ (¬ ((tp_KI I 2 (nI a) (nI j)) 15 4) ≤ nI (a + 2) → ((none : Option Value) = none ∧ (tp_KI I 2 (nI a) (nI j)) = cw_st (tp_KI I 2 (nI a) (nI j)) 15 2 5))) := by
      rw [tp_K2, tp_K2, tp_K4a, tp_K2a]
      exact ⟨fun _ => ⟨rfl, rfl⟩, fun z => absurd (nI_le h8 (by omega)) z⟩
    have finr : ∀ va, (((((tp_KJ J (nI j) ty (nI a) va) 0 15) - ((tp_KJ J (nI j) ty (nI a) va) 0 17)) ≤ 2 → ((none : Option Value) = none ∧ (tp_KJ J (nI j) 2 (nI a) va) = cw_st (tp_KJ J (nI j) ty (nI a) va) 0 16 2)) ∧ (¬ (((tp_KJ J (nI j) ty (nI a) va) 0 15) - ((tp_KJ J (nI j) ty (nI a) va) 0 17)) ≤ 2 → ((none : Option Value) = none ∧ (tp_KJ J (nI j) 2 (nI a) va) = cw_st (tp_KJ J (nI j) ty (nI a) va) 0 16 4))) := fun va => by
      rw [tp_J16, tp_J16, tp_J15a, tp_J17a, sp_sub (show a ≤ j by omega)]
      exact ⟨fun _ => ⟨rfl, rfl⟩, fun z => absurd (nI_le (b := 2) (by omega) (by omega)) z⟩
    by_cases z : j < L
    · have z1 : ¬ (tp_KI I 2 (nI a) (nI j)) 1 1 ≤ (tp_KI I 2 (nI a) (nI j)) 15 4 := by rw [tp_K1a, tp_K4a, t2]; exact fun z => absurd ((nI_leI (by omega) (by omega)).mp z) (by omega)
      have z2 : ∀ va, ¬ (tp_KJ J (nI j) ty (nI a) va) 0 4 ≤ (tp_KJ J (nI j) ty (nI a) va) 0 15 := fun va => by rw [tp_J4a, tp_J15a, t3]; exact fun z => absurd ((nI_leI (by omega) (by omega)).mp z) (by omega)
      have i1 : vp_in (nI j) 600 := vp_in_nI (by omega) (by omega)
      have eb : I 2 (nI j).toNatClampNeg = J 3 (nI j).toNatClampNeg := by rw [nI_clamp (by omega)]; exact t4 j (by omega)
      have y : ¬ tp_dg (J 3 (nI j).toNatClampNeg) := by rw [nI_clamp (by omega)]; exact hn z
      refine ⟨tbX5_advance_15_151 (br_f z1 ⟨i1, _, _, sk_kindOf _, fun _ => fin, fun q => absurd ?_ y⟩), tbY11_token_0_175 (br_f (z2 _) ⟨i1, _, _, sk_isDigit _, fun _ => finr _, fun q => absurd (sp_bit1 q) y⟩)⟩
      rw [tp_K4a, tp_K2a, tp_Kta, eb] at q
      have y2 : ¬ tp_kd (J 3 (nI j).toNatClampNeg) = 2 := by
        rw [tp_kd, if_neg y]
        split
        · decide
        · split
          · decide
          · split <;> decide
      exact absurd q y2
    · have e0 : j = L := by omega
      refine ⟨tbX5_advance_15_151 (br_t ?_ fin), tbY11_token_0_175 (br_t ?_ (finr _))⟩
      · rw [tp_K1a, tp_K4a, t2, e0]; exact Int32.le_refl _
      · rw [tp_J4a, tp_J15a, t3, e0]; exact Int32.le_refl _
  | succ d ih =>
    intro j hj ha
    have z1 : ¬ (tp_KI I 2 (nI a) (nI j)) 1 1 ≤ (tp_KI I 2 (nI a) (nI j)) 15 4 := by rw [tp_K1a, tp_K4a, t2]; exact fun z => absurd ((nI_leI (by omega) (by omega)).mp z) (by omega)
    have z2 : ∀ va, ¬ (tp_KJ J (nI j) ty (nI a) va) 0 4 ≤ (tp_KJ J (nI j) ty (nI a) va) 0 15 := fun va => by rw [tp_J4a, tp_J15a, t3]; exact fun z => absurd ((nI_leI (by omega) (by omega)).mp z) (by omega)
    have i1 : vp_in (nI j) 600 := vp_in_nI (by omega) (by omega)
    have ej : (nI j).toNatClampNeg = j := nI_clamp (by omega)
    have eb : I 2 (nI j).toNatClampNeg = J 3 (nI j).toNatClampNeg := by rw [ej]; exact t4 j (by omega)
    have y : tp_dg (J 3 (nI j).toNatClampNeg) := by rw [ej]; exact hw j (by omega) (by omega)
    obtain ⟨a1, b1⟩ := ih (j + 1) (by omega) (by omega)
    refine ⟨tbX5_advance_15_151 (br_f z1 ⟨i1, _, _, sk_kindOf _, fun q => absurd ?_ q, fun _ => ?_⟩), tbY11_token_0_175 (br_f (z2 _) ⟨i1, _, _, sk_isDigit _, fun q => absurd y (sp_bit0 q), fun _ => ⟨fun q => ?_, fun q => ⟨i1, ?_⟩⟩⟩)⟩
    · rw [tp_K4a, tp_K2a, tp_Kta, eb]; exact tp_kd2 (tp_dg_wd y) y
    · rw [tp_K4a, nI_1, tp_K4]; exact a1
    · rw [tp_J15a, tp_J17a, sp_sub (show a ≤ j by omega)] at q
      have q2 := (nI_leI (a := 2) (by omega) (by omega)).mp q
      omega
    · rw [tp_J18, tp_J15a, tp_J15a, tp_J18a, tp_J3a, nI_1, tp_J15, ej]
      have e5 : tp_nv (J 3) a (j + 1 - a) = tp_nv (J 3) a (j - a) * 10 + J 3 j - 48 := by
        rw [show j + 1 - a = (j - a) + 1 by omega]
        show 10 * tp_nv (J 3) a (j - a) + J 3 (a + (j - a)) - 48 = _
        rw [Int32.mul_comm, show a + (j - a) = j by omega]
      rw [e5] at b1
      exact b1
/-- behind the spaces, at a -/
theorem zt_here (hT : sp_TL L I J) {i0 kd a e : Nat} (hx : zt_tok (J 3) L i0 kd a e) (k0 e0 t0 f0 v0 : Int32) : ∃ va, tp_tf (J 3) L kd a e va ∧ bX5_advance_15_91 K none (tp_KI I (nI kd) (nI a) (nI e)) (tp_KI I (if a < L then tp_kd (J 3 a) else 0) (nI a) e0) ∧ tp_tail K none (tp_KJ J (nI e) (tp_ty kd) (nI a) va) (tp_KJ J (nI a) t0 f0 v0) := by
  have hL := hT.1
  have t2 := hT.2.1
  have t3 := hT.2.2.1
  obtain ⟨_, hae, heL, _, hk⟩ := hx
  have hin : a < L → vp_in (nI a) 600 := fun _ => vp_in_nI (by omega) (by omega)
  have ea : (nI a).toNatClampNeg = a := nI_clamp (by omega)
  unfold tp_tail
  rw [tp_J15a, tp_J17, tp_J15a, tp_J4a, tp_J3a, t3, ea]
  rcases hk with ⟨rfl, e1, e2⟩ | ⟨rfl, h1, h2, hw, hn⟩ | ⟨rfl, h1, h2, hw, hn⟩ | ⟨rfl, e1, y3⟩
  · rw [if_neg (show ¬ a < L by omega)]
    refine ⟨v0, ⟨by omega, heL, Or.inl ⟨rfl, by omega⟩⟩, ?_, ⟨fun q => absurd (by rw [e1]) q, fun _ => ⟨rfl, ?_⟩⟩⟩
    · refine tbX5_advance_15_91 ⟨fun q => absurd rfl q, fun _ => ?_⟩
      rw [tp_K3a, tp_K4]
      rw [show e = a by omega]
      exact tbX5_advance_15_115 ⟨fun q => absurd q (by rw [tp_K2a]; decide), fun _ => ⟨fun _ => ⟨rfl, rfl⟩, fun q => absurd q (by rw [tp_K2a]; decide)⟩⟩
    · rw [tp_J16, show e = a by omega]; rfl
  · have z : a < L := by omega
    rw [if_pos z]
    have zne : ¬ nI a = nI L := fun q => absurd ((nI_eq (by omega) (by omega)).mp q) (by omega)
    have y1 : tp_wd (J 3 a) := hw a h1 (Nat.le_refl _)
    obtain ⟨a1, b1⟩ := zt_word (K := K) hT (a := a) (e := e) t0 v0 heL h2 hw hn (e - (a + 1)) (a + 1) (by omega) (by omega)
    have hr : bY11_token_0_92 K none (tp_KJ J (nI e) 1 (nI a) v0) (tp_KJ J (nI a) t0 (nI a) v0) := by
      refine tbY11_token_0_92 (br_f ?_ ⟨hin z, _, _, sk_isSmall _, fun q => absurd ?_ (sp_bit0 q), fun _ => ?_⟩)
      · rw [tp_J4a, tp_J15a, t3]; exact fun q => absurd ((nI_leI (by omega) (by omega)).mp q) (by omega)
      · rw [tp_J3a, tp_J15a, ea]; exact y1
      · rw [tp_J15a, nI_1, tp_J15]; exact b1
    refine ⟨v0, ⟨by omega, heL, Or.inr (Or.inl ⟨rfl, h1, h2⟩)⟩, ?_, ⟨fun _ => ⟨hin z, _, _, sk_isSmall _, fun q => absurd y1 (sp_bit0 q), fun _ => hr⟩, fun q => absurd q zne⟩⟩
    rw [tp_kd1 y1]
    refine tbX5_advance_15_91 ⟨fun _ => ?_, fun q => absurd q (by rw [tp_K2a]; decide)⟩
    rw [tp_K3a, nI_1, tp_K4]
    refine tbX5_advance_15_115 ⟨fun _ => ⟨fun q => absurd rfl q, fun _ => ?_⟩, fun q => absurd rfl q⟩
    rw [tp_K3a, show nI a + 8 = nI (a + 8) from nI_add a 8]
    exact a1
  · have z : a < L := by omega
    rw [if_pos z]
    have zne : ¬ nI a = nI L := fun q => absurd ((nI_eq (by omega) (by omega)).mp q) (by omega)
    have y2 : tp_dg (J 3 a) := hw a h1 (Nat.le_refl _)
    have y1 := tp_dg_wd y2
    obtain ⟨a1, b1⟩ := zt_num (K := K) hT (a := a) (e := e) t0 heL h2 hw hn (e - (a + 1)) (a + 1) (by omega) (by omega)
    have hr : bY11_token_0_175 K none (tp_KJ J (nI e) 2 (nI a) (tp_nv (J 3) a (e - a))) (tp_KJ J (nI a) t0 (nI a) 0) := by
      refine tbY11_token_0_175 (br_f ?_ ⟨hin z, _, _, sk_isDigit _, fun q => absurd ?_ (sp_bit0 q), fun _ => ⟨fun q => ?_, fun _ => ⟨hin z, ?_⟩⟩⟩)
      · rw [tp_J4a, tp_J15a, t3]; exact fun q => absurd ((nI_leI (by omega) (by omega)).mp q) (by omega)
      · rw [tp_J3a, tp_J15a, ea]; exact y2
      · rw [tp_J15a, tp_J17a, sp_sub (Nat.le_refl a)] at q
        exact absurd ((nI_leI (a := 2) (by omega) (by omega)).mp q) (by omega)
      · rw [tp_J18, tp_J15a, tp_J15a, tp_J18a, tp_J3a, nI_1, tp_J15, ea]
        have e5 : tp_nv (J 3) a (a + 1 - a) = 0 * 10 + J 3 a - 48 := by
          rw [show a + 1 - a = 0 + 1 by omega]
          show 10 * (0 : Int32) + J 3 (a + 0) - 48 = _
          rw [Int32.mul_comm]
          rfl
        rw [e5] at b1
        exact b1
    refine ⟨tp_nv (J 3) a (e - a), ⟨by omega, heL, Or.inr (Or.inr (Or.inl ⟨rfl, h1, h2, rfl, ?_⟩))⟩, ?_, ⟨fun _ => ⟨hin z, _, _, sk_isSmall _, fun _ => ⟨hin z, _, _, sk_isDigit _, fun q => absurd ?_ (sp_bit0 q), fun _ => ?_⟩, fun q => absurd (sp_bit1 q) y1⟩, fun q => absurd q zne⟩⟩
    · obtain ⟨d, hd, ed⟩ := tp_nv_num (t := J 3) (a := a) (c := e - a) (by omega) (fun i hi => hw _ (by omega) (by omega))
      have h10 : 10 ^ (e - a) ≤ 10 ^ 2 := Nat.pow_le_pow_right (by omega) (by omega)
      exact ⟨d, by omega, ed⟩
    · rw [tp_kd2 y1 y2]
      refine tbX5_advance_15_91 ⟨fun _ => ?_, fun q => absurd q (by rw [tp_K2a]; decide)⟩
      rw [tp_K3a, nI_1, tp_K4]
      refine tbX5_advance_15_115 ⟨fun q => absurd q (by rw [tp_K2a]; decide), fun _ => ⟨fun q => absurd rfl q, fun _ => ⟨fun _ => ?_, fun q => absurd q (by rw [tp_K2a]; decide)⟩⟩⟩
      rw [tp_K3a, show nI a + 2 = nI (a + 2) from nI_add a 2]
      exact a1
    · rw [tp_J3a, tp_J15a, ea]; exact y2
    · rw [tp_J18]
      exact hr
  · have z : a < L := by omega
    rw [if_pos z]
    have zne : ¬ nI a = nI L := fun q => absurd ((nI_eq (by omega) (by omega)).mp q) (by omega)
    have y1 : ¬ tp_wd (J 3 a) := by rw [y3]; decide
    have y2 : ¬ tp_dg (J 3 a) := by rw [y3]; decide
    have hs2 : ¬ (J 3 a = 32 ∨ J 3 a = 10) := by rw [y3]; decide
    subst e1
    refine ⟨v0, ⟨by omega, heL, Or.inr (Or.inr (Or.inr (Or.inl rfl)))⟩, ?_, ⟨fun _ => ⟨hin z, _, _, sk_isSmall _, fun _ => ⟨hin z, _, _, sk_isDigit _, fun _ => ⟨hin z, fun q => absurd ?_ q, fun _ => ⟨rfl, ?_⟩⟩, fun q => absurd (sp_bit1 q) ?_⟩, fun q => absurd (sp_bit1 q) y1⟩, fun q => absurd q zne⟩⟩
    · rw [tp_kd3 y1 y2 hs2 y3]
      refine tbX5_advance_15_91 ⟨fun _ => ?_, fun q => absurd q (by rw [tp_K2a]; decide)⟩
      rw [tp_K3a, nI_1, tp_K4]
      exact tbX5_advance_15_115 ⟨fun q => absurd q (by rw [tp_K2a]; decide), fun _ => ⟨fun _ => ⟨rfl, rfl⟩, fun q => absurd q (by rw [tp_K2a]; decide)⟩⟩
    · rw [tp_J3a, tp_J15a, ea]; exact y3
    · rw [tp_J16, tp_J15a, nI_1, tp_J15]; rfl
    · rw [tp_J3a, tp_J15a, ea]; exact y2
theorem zt_loop (hT : sp_TL L I J) {i0 kd a e : Nat} (hx : zt_tok (J 3) L i0 kd a e) (k0 e0 t0 f0 v0 : Int32) : ∀ d i : Nat, i + d = a → i0 ≤ i → ∃ va, tp_tf (J 3) L kd a e va ∧ bX5_advance_15_8 K none (tp_KI I (nI kd) (nI a) (nI e)) (tp_KI I k0 (nI i) e0) ∧ bY11_token_0_0 K none (tp_KJ J (nI e) (tp_ty kd) (nI a) va) (tp_KJ J (nI i) t0 f0 v0) := by
  have hL := hT.1
  have t2 := hT.2.1
  have t3 := hT.2.2.1
  have t4 := hT.2.2.2
  have hx0 := hx
  obtain ⟨_, hae, heL, hsp, hk⟩ := hx0
  intro d
  induction d with
  | zero =>
    intro i hi _
    have ei0 : i = a := by omega
    subst ei0
    obtain ⟨va, h1, a1, b1⟩ := zt_here (K := K) hT hx k0 e0 t0 f0 v0
    by_cases z : i < L
    · rw [if_pos z] at a1
      have z1 : ¬ (tp_KI I k0 (nI i) e0) 1 1 ≤ (tp_KI I k0 (nI i) e0) 15 3 := by rw [tp_K1a, tp_K3a, t2]; exact fun z => absurd ((nI_leI (by omega) (by omega)).mp z) (by omega)
      have z2 : ¬ (tp_KJ J (nI i) t0 f0 v0) 0 4 ≤ (tp_KJ J (nI i) t0 f0 v0) 0 15 := by rw [tp_J4a, tp_J15a, t3]; exact fun z => absurd ((nI_leI (by omega) (by omega)).mp z) (by omega)
      have i1 : vp_in (nI i) 600 := vp_in_nI (by omega) (by omega)
      have ei : (nI i).toNatClampNeg = i := nI_clamp (by omega)
      have eb : I 2 (nI i).toNatClampNeg = J 3 i := by rw [ei]; exact t4 i (by omega)
      have ec : J 3 (nI i).toNatClampNeg = J 3 i := by rw [ei]
      have y : ¬ (J 3 i = 32 ∨ J 3 i = 10) := by
        rcases hk with h | h | h | h
        · omega
        · have w := h.2.2.2.1 i h.2.1 (Nat.le_refl _)
          rintro (q | q) <;> rw [q] at w <;> exact absurd w (by decide)
        · have w := h.2.2.2.1 i h.2.1 (Nat.le_refl _)
          rintro (q | q) <;> rw [q] at w <;> exact absurd w (by decide)
        · rw [h.2.2]; decide
      have y4 : ¬ tp_kd (J 3 i) = 4 := by
        rw [tp_kd]
        split
        · decide
        · split
          · decide
          · split <;> decide
      refine ⟨va, h1, tbX5_advance_15_8 (br_f z1 ⟨i1, _, _, sk_kindOf _, fun _ => br_f z1 ⟨i1, _, _, sk_kindOf _, ?_⟩, fun q => absurd ?_ y4⟩), tbY11_token_0_0 (br_f z2 ⟨i1, fun q => absurd ?_ y, fun _ => ⟨i1, fun _ => b1, fun q => absurd ?_ y⟩⟩)⟩
      · rw [tp_K2, tp_K3a, tp_Kta, eb]; exact a1
      · rw [tp_K3a, tp_Kta, eb] at q; exact q
      · rw [tp_J3a, tp_J15a, ec] at q; exact Or.inl q
      · rw [tp_J3a, tp_J15a, ec] at q; exact Or.inr q
    · rw [if_neg z] at a1
      have z1 : (tp_KI I k0 (nI i) e0) 1 1 ≤ (tp_KI I k0 (nI i) e0) 15 3 := by rw [tp_K1a, tp_K3a, t2, show i = L by omega]; exact Int32.le_refl _
      refine ⟨va, h1, tbX5_advance_15_8 (br_t z1 (br_t z1 ?_)), tbY11_token_0_0 (br_t ?_ b1)⟩
      · rw [tp_K2]; exact a1
      · rw [tp_J4a, tp_J15a, t3, show i = L by omega]; exact Int32.le_refl _
  | succ d ih =>
    intro i hi hi0
    have z1 : ¬ (tp_KI I k0 (nI i) e0) 1 1 ≤ (tp_KI I k0 (nI i) e0) 15 3 := by rw [tp_K1a, tp_K3a, t2]; exact fun z => absurd ((nI_leI (by omega) (by omega)).mp z) (by omega)
    have z2 : ¬ (tp_KJ J (nI i) t0 f0 v0) 0 4 ≤ (tp_KJ J (nI i) t0 f0 v0) 0 15 := by rw [tp_J4a, tp_J15a, t3]; exact fun z => absurd ((nI_leI (by omega) (by omega)).mp z) (by omega)
    have i1 : vp_in (nI i) 600 := vp_in_nI (by omega) (by omega)
    have ei : (nI i).toNatClampNeg = i := nI_clamp (by omega)
    have eb : I 2 (nI i).toNatClampNeg = J 3 i := by rw [ei]; exact t4 i (by omega)
    have ec : J 3 (nI i).toNatClampNeg = J 3 i := by rw [ei]
    have y : J 3 i = 32 ∨ J 3 i = 10 := hsp i (by omega) hi0
    obtain ⟨va, h1, a1, b1⟩ := ih (i + 1) (by omega) (by omega)
    have yw : ¬ tp_wd (J 3 i) := by rcases y with y | y <;> rw [y] <;> decide
    have yd : ¬ tp_dg (J 3 i) := by rcases y with y | y <;> rw [y] <;> decide
    have hb : bY11_token_0_0 K none (tp_KJ J (nI e) (tp_ty kd) (nI a) va) (cw_st (tp_KJ J (nI i) t0 f0 v0) 0 15 ((tp_KJ J (nI i) t0 f0 v0) 0 15 + 1)) := by rw [tp_J15a, nI_1, tp_J15]; exact b1
    refine ⟨va, h1, tbX5_advance_15_8 (br_f z1 ⟨i1, _, _, sk_kindOf _, fun q => absurd ?_ q, fun _ => ?_⟩), tbY11_token_0_0 (br_f z2 ⟨i1, fun _ => hb, fun q => ⟨i1, fun q2 => absurd ?_ q2, fun _ => hb⟩⟩)⟩
    · rw [tp_K3a, tp_Kta, eb]; exact tp_kd4 yw yd y
    · rw [tp_K3a, nI_1, tp_K3]; exact a1
    · rw [tp_J3a, tp_J15a, ec] at q ⊢
      rcases y with y | y
      · exact absurd y q
      · exact y
/-- the next token, known -/
theorem zt_next (hT : sp_TL L I J) {e0 kd a e : Nat} (h1 : I 15 4 = nI e0) (h2 : J 0 15 = nI e0) (hx : zt_tok (J 3) L e0 kd a e) : ∃ va, tp_tf (J 3) L kd a e va ∧ cw_C (cc_w K) mX5_advance [.ref (cw_a (cc_w K) 15)] I none (tp_KI I (nI kd) (nI a) (nI e)) ∧ rw_C K mY11_token [.ref (cw_a (cc_w K) 0)] J none (tp_KJ J (nI e) (tp_ty kd) (nI a) va) := by
  obtain ⟨va, h4, a1, b1⟩ := zt_loop (K := K) hT hx (I 15 2) (I 15 4) (J 0 16) (J 0 17) (J 0 18) (a - e0) e0 (by have := hx.1; omega) (Nat.le_refl _)
  refine ⟨va, h4, eX5_advance_15 ?_, eY11_token_0 ?_⟩
  · have e5 : cw_st I 15 3 (I 15 4) = tp_KI I (I 15 2) (nI e0) (I 15 4) := by
      have e6 := tp_K3 (I := I) (I 15 2) (I 15 3) (I 15 4) (nI e0)
      rw [tp_KI_self] at e6
      rw [h1] at e6 ⊢
      exact e6
    rw [e5]; exact a1
  · have e5 : tp_KJ J (nI e0) (J 0 16) (J 0 17) (J 0 18) = J := by rw [← h2]; exact tp_KJ_self J
    rw [e5] at b1; exact b1
end ZT
section ZC
variable {K : cw_K} {I J : cw_M} {L kd a e kd2 a2 e2 : Nat} {va : Int32}
theorem zt_step (h : cu L kd a e va I J) (hx : zt_tok (J 3) L e kd2 a2 e2) : ∃ va2 I2 J2, cw_C (cc_w K) mX5_advance [.ref (cw_a (cc_w K) 15)] I none I2 ∧ rw_C K mY11_token [.ref (cw_a (cc_w K) 0)] J none J2 ∧ cu L kd2 a2 e2 va2 I2 J2 ∧ kf I J I2 J2 ∧ I2 15 5 = I 15 5 := by
  obtain ⟨hT, hf, h1, h2, h3, h4, h5, h6, h7, h8⟩ := h
  obtain ⟨va2, hf2, a1, b1⟩ := zt_next (K := K) hT h3 h4 hx
  refine ⟨va2, _, _, a1, b1, ⟨hT, hf2, rfl, rfl, rfl, rfl, rfl, rfl, rfl, h8⟩, ⟨fun o ho => by simp [cw_up, ho], fun o ho => by simp [cw_up, ho], fun p hp _ _ => ?_⟩, rfl⟩
  show tp_g (J 0) (nI e2) (tp_ty kd2) (nI a2) va2 p = J 0 p
  unfold tp_g
  rw [if_neg (by omega), if_neg (by omega), if_neg (by omega), if_neg (by omega)]
theorem zt_semi (h : cu L 3 a e va I J) (hx : zt_tok (J 3) L e kd2 a2 e2) : ∃ va2 I2 J2, cw_C (cc_w K) mX5_takeSemicolon [.ref (cw_a (cc_w K) 15)] I (some (.int 1)) I2 ∧ rw_C K mY11_semicolon [.ref (cw_a (cc_w K) 0)] J (some (.int 1)) J2 ∧ cu L kd2 a2 e2 va2 I2 J2 ∧ kf I J I2 J2 := by
  have hI := cu_cI h (c := 3) (by omega)
  have hJ := cu_cJ h (c := 3) (by omega)
  obtain ⟨va2, I2, J2, a1, b1, h2, f2, _⟩ := zt_step (K := K) h hx
  exact ⟨va2, I2, J2, eX5_takeSemicolon_15 ⟨fun _ => ⟨_, a1, rfl, rfl⟩, fun q => absurd (hI.mpr rfl) q⟩, eY11_semicolon_0 ⟨fun _ => ⟨_, b1, rfl, rfl⟩, fun q => absurd (hJ.mpr rfl) q⟩, h2, f2⟩
theorem zt_ranged (h : cu L 2 a e va I J) (hx : zt_tok (J 3) L e kd2 a2 e2) {to lo hi d : Nat} (hto : to < 2120) (hd : tp_nv (J 3) a (e - a) = nI d) (hlo : lo ≤ d) (hhi : d ≤ hi) (h99 : hi ≤ 99) : ∃ va2 I2 J2, cw_C (cc_w K) mX5_takeNumber [.ref (cw_a (cc_w K) 15), .int (nI lo), .int (nI hi)] I (some (.int 1)) I2 ∧ rw_C K mY11_parseRanged [.ref (cw_a (cc_w K) 0), .int (nI to), .int (nI lo), .int (nI hi)] J (some (.int 1)) J2 ∧ I2 15 5 = nI d ∧ cu L kd2 a2 e2 va2 I2 J2 ∧ kf I (cw_st J 1 to (nI d)) I2 J2 := by
  have hI := cu_cI h (c := 2) (by omega)
  have hJ := cu_cJ h (c := 2) (by omega)
  have hn := ks_number (K := K) h
  have ed : va = nI d := by
    obtain ⟨_, ⟨_, _, g3⟩, _⟩ := h
    rcases g3 with g3 | g3 | g3 | g3 | g3
    · omega
    · omega
    · exact g3.2.2.2.1.trans hd
    · omega
    · omega
  have h18 : J 0 18 = nI d := by rw [h.2.2.2.2.2.2.2.2.1, ed]
  rw [ed] at hn
  have hC2 : cu L 2 a e va (cw_st I 15 5 (nI d)) (cw_st J 1 to (nI d)) := h
  obtain ⟨va2, I2, J2, a1, b1, h2, f2, f3⟩ := zt_step (K := K) hC2 hx
  have r1 : nI lo ≤ nI d := nI_le hlo (by omega)
  have r2 : nI d ≤ nI hi := nI_le hhi (by omega)
  refine ⟨va2, I2, J2, eX5_takeNumber_15 ⟨fun _ => ⟨_, _, hn, fun q => absurd r1 (Int32.not_le.mpr q), fun _ => ⟨fun _ => ⟨_, a1, rfl, rfl⟩, fun q => absurd r2 q⟩⟩, fun q => absurd (hI.mpr rfl) q⟩, eY11_parseRanged_0 ⟨fun _ => ⟨_, _, sr_in, fun _ => ⟨vp_in_nI (by omega) (by omega), J2, ?_, rfl, rfl⟩, fun q => absurd ?_ (sp_bit0 q)⟩, fun q => absurd (hJ.mpr rfl) q⟩, f3.trans rfl, h2, ⟨fun o ho => (f2.1 o ho).trans (by simp [cw_up, ho]), f2.2.1, f2.2.2⟩⟩
  · rw [h18, nI_clamp (by omega)]; exact b1
  · rw [h18]; exact ⟨r1, r2⟩
/-- the word is the text j -/
theorem zt_isWord (hFS : cw_FS (cw_Fc K) (cw_sd K) (cw_sv K)) (h : cu L 1 a e va I J) {j : Nat} (hj : cw_tk j) (y : e - a = (cw_tx j).length) (hw : ∀ i, i < (cw_tx j).length → J 3 (a + i) = (cw_tx j).getD i 0) : cw_C (cc_w K) mX5_isWord [.ref (cw_a (cc_w K) 15), .ref (cw_sd K j)] I (some (.int 1)) I ∧ rw_C K mY11_isWord [.ref (cw_a (cc_w K) 0), .ref (cw_sd K j)] J (some (.int 1)) J := by
  have hI := cu_cI h (c := 1) (by omega)
  have hJ := cu_cJ h (c := 1) (by omega)
  obtain ⟨⟨hL, _, _, t4⟩, ⟨g1, g2, _⟩, h1, h2, h3, h4, h5, h6, h7, h8⟩ := h
  have hl := cw_tx_le j (by omega)
  have eI : I 15 4 - I 15 3 = nI (e - a) := by rw [h2, h3]; exact sp_sub g1
  have eJ : J 0 15 - J 0 17 = nI (e - a) := by rw [h4, h6]; exact sp_sub g1
  have loop : ∀ d i : Nat, i + d = (cw_tx j).length → bX5_isWord_15_28 K (some (.int 1)) I j (nI i) I ∧ bY11_isWord_0_28 K (some (.int 1)) J j (nI i) J := by
    intro d
    induction d with
    | zero =>
      intro i hi
      have z1 : cw_ln j ≤ nI i := by
        show nI (cw_tx j).length ≤ nI i
        rw [show i = (cw_tx j).length by omega]
        exact Int32.le_refl _
      exact ⟨tbX5_isWord_15_28 hFS ⟨hj, br_t z1 ⟨rfl, rfl⟩⟩, tbY11_isWord_0_28 hFS ⟨hj, br_t z1 ⟨rfl, rfl⟩⟩⟩
    | succ d ih =>
      intro i hi
      have z1 : ¬ cw_ln j ≤ nI i := fun q => absurd ((nI_leI (a := (cw_tx j).length) (by omega) (by omega)).mp q) (by omega)
      have i1 : vp_in (I 15 3 + nI i) 600 := by rw [h2, nI_add]; exact vp_in_nI (by omega) (by omega)
      have i2 : vp_in (J 0 17 + nI i) 600 := by rw [h6, nI_add]; exact vp_in_nI (by omega) (by omega)
      have i3 : vp_in (nI i) (cw_tx j).length := vp_in_nI (by omega) (by omega)
      have eb : I 2 (I 15 3 + nI i).toNatClampNeg = J 3 (J 0 17 + nI i).toNatClampNeg := by
        rw [h2, h6, nI_add, nI_clamp (by omega)]
        exact t4 _ (by omega)
      have w : J 3 (J 0 17 + nI i).toNatClampNeg = cw_ch j (nI i) := by
        rw [h6, nI_add, nI_clamp (by omega), hw i (by omega)]
        show _ = (cw_tx j).getD (nI i).toNatClampNeg 0
        rw [nI_clamp (by omega)]
      obtain ⟨a1, b1⟩ := ih (i + 1) (by omega)
      refine ⟨tbX5_isWord_15_28 hFS ⟨hj, br_f z1 ⟨i1, ⟨hj, i3⟩, fun _ => ?_, fun q => absurd (by rw [eb]; exact w) q⟩⟩, tbY11_isWord_0_28 hFS ⟨hj, br_f z1 ⟨i2, ⟨hj, i3⟩, fun _ => ?_, fun q => absurd w q⟩⟩⟩
      · rw [nI_1]; exact a1
      · rw [nI_1]; exact b1
  obtain ⟨a1, b1⟩ := loop (cw_tx j).length 0 (by omega)
  refine ⟨eX5_isWord_15 hFS ⟨fun q => absurd (hI.mpr rfl) q, fun _ => ⟨hj, fun _ => a1, fun q => absurd ?_ q⟩⟩, eY11_isWord_0 hFS ⟨fun q => absurd (hJ.mpr rfl) q, fun _ => ⟨hj, fun _ => b1, fun q => absurd ?_ q⟩⟩⟩
  · rw [eI, y]; rfl
  · rw [eJ, y]; rfl
end ZC
