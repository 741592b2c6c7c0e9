/-! ## the law's cake: the knife -/
theorem pl_fst {P : Nat → Bool} : ∀ d a : Nat, (∀ j, a ≤ j → j < sp_fst P d a → P j = false) ∧ (P (sp_fst P d a) = true ∨ sp_fst P d a = a + d)
  | 0, a => ⟨fun j h1 h2 => by
      have h3 : j < a := h2
      omega, Or.inr rfl⟩
  | d + 1, a => by
    obtain ⟨h1, h2⟩ := pl_fst (P := P) d (a + 1)
    unfold sp_fst
    by_cases q : P a = true
    · rw [if_pos q]
      exact ⟨fun j h3 h4 => by omega, Or.inl q⟩
    · rw [if_neg q]
      refine ⟨fun j h3 h4 => ?_, h2.imp (fun z => z) (fun z => by omega)⟩
      by_cases e : j = a
      · subst e
        exact Bool.eq_false_iff.mpr q
      · exact h1 j (by omega) h4
/-- j thinks that a .. c is enough, where w wait -/
def pl_E (v : Nat → Nat → Nat) (n w a j c : Nat) : Prop := if w = 1 then c + 1 = n else sp_run v j a (n - a) ≤ sp_run v j a (c + 1 - a) * w
theorem pl_E_spec (v : Nat → Nat → Nat) {n w a : Nat} (j : Nat) (ha : a < n) (hw : 1 ≤ w) : a ≤ sp_g v n a w j ∧ sp_g v n a w j < n ∧ pl_E v n w a j (sp_g v n a w j) ∧ ∀ c, a ≤ c → c < sp_g v n a w j → ¬ pl_E v n w a j c := by
  unfold sp_g pl_E
  by_cases e : w = 1
  · simp only [if_pos e]
    exact ⟨by omega, by omega, by omega, fun c h1 h2 => by omega⟩
  · simp only [if_neg e]
    have h1 := sp_mk_lt (v := v) (s := j) (p := w) ha
    obtain ⟨h2, h3⟩ := pl_fst (P := sp_enough v n j a w) (n - 1 - a) a
    refine ⟨h1.1, h1.2, ?_, fun c h4 h5 z => ?_⟩
    · rcases h3 with h3 | h3
      · exact of_decide_eq_true h3
      · have e2 : sp_mk v n j a w = n - 1 := by
          show sp_fst (sp_enough v n j a w) (n - 1 - a) a = _
          omega
        rw [e2, show n - 1 + 1 - a = n - a by omega]
        exact Nat.le_mul_of_pos_right _ hw
    · have h6 := h2 c h4 h5
      rw [show sp_enough v n j a w c = true from decide_eq_true z] at h6
      cases h6
theorem pl_fc_no {S : Nat} {g : Nat → Nat} : ∀ {i : Nat}, sp_fc S g i = none → ∀ j, j < i → ¬ sp_un S j = true
  | 0, _ => fun j hj => by omega
  | i + 1, h => by
    intro j hj hu
    unfold sp_fc at h
    by_cases q : sp_un S i = true ∧ sp_fc.sp_lt g (sp_fc S g i) i = true
    · rw [if_pos q] at h
      cases h
    · rw [if_neg q] at h
      by_cases e : j = i
      · subst e
        exact q ⟨hu, by rw [h]; rfl⟩
      · exact pl_fc_no h j (by omega) hu
theorem pl_fc_spec {S : Nat} {g : Nat → Nat} : ∀ {i t : Nat}, sp_fc S g i = some t → ∀ j, j < i → sp_un S j = true → g t ≤ g j ∧ (j < t → g t < g j)
  | 0, t, h => by cases h
  | i + 1, t, h => by
    intro j hj hu
    unfold sp_fc at h
    by_cases q : sp_un S i = true ∧ sp_fc.sp_lt g (sp_fc S g i) i = true
    · rw [if_pos q] at h
      cases h
      by_cases e : j = i
      · subst e
        exact ⟨Nat.le_refl _, fun z => absurd z (Nat.lt_irrefl _)⟩
      · cases e2 : sp_fc S g i with
        | none => exact absurd hu (pl_fc_no e2 j (by omega))
        | some b =>
          rw [e2] at q
          have q2 : g i < g b := of_decide_eq_true q.2
          have h9 := (pl_fc_spec e2 j (by omega) hu).1
          exact ⟨by omega, fun _ => by omega⟩
    · rw [if_neg q] at h
      by_cases e : j = i
      · subst e
        have h9 : ¬ g j < g t := fun z => q ⟨hu, by rw [h]; exact decide_eq_true z⟩
        exact ⟨by omega, fun z => by have := (sp_fc_lt h).1; omega⟩
      · exact pl_fc_spec h j (by omega) hu
theorem pl_fc_eq {S k t b : Nat} {g : Nat → Nat} (h : sp_fc S g k = some t) (hb : b < k) (hu : sp_un S b = true) (hm : ∀ j, j < k → sp_un S j = true → g b ≤ g j ∧ (j < b → g b < g j)) : t = b := by
  have h1 := pl_fc_spec h b hb hu
  have h2 := sp_fc_lt h
  have h3 := hm t h2.1 h2.2
  rcases Nat.lt_trichotomy t b with q | q | q
  · have := h3.2 q
    omega
  · exact q
  · have := h1.2 q
    omega
/-- the lowest of the waiting from i on that think that it is enough -/
def pl_who (v : Nat → Nat → Nat) (n w a S k c i : Nat) : Option Nat → Prop
  | none => ∀ j, i ≤ j → j < k → sp_un S j = true → ¬ pl_E v n w a j c
  | some b => i ≤ b ∧ b < k ∧ sp_un S b = true ∧ pl_E v n w a b c ∧ ∀ j, i ≤ j → j < b → sp_un S j = true → ¬ pl_E v n w a j c
/-- which have a piece, behind the knife -/
def pl_kg (v : Nat → Nat → Nat) (n k : Nat) : Nat → Nat → Nat → (Nat → Int32) → Nat → Int32
  | 0, _, _, g => g
  | w + 1, S, a, g => if n ≤ a then g else match sp_fc S (sp_g v n a (w + 1)) k with
    | none => g
    | some t => pl_kg v n k w (S ||| 2 ^ t) (sp_g v n a (w + 1) t + 1) (upd g t (vp_nar .boolean 1))
theorem pl_nar1 : vp_nar .boolean 1 = 1 := rfl
section PLK
variable {K K0 : cw_K} {I : cw_M} {n k S a w e : Nat} {v : Nat → Nat → Nat} {r : Option Value} {J0 : cw_M}
theorem pl_sumK (h : pl_v n k v I) {s a e : Nat} (hs : s < k) (ha : a ≤ e) (he : e ≤ n) : cw_C (ck_w K) mX11_sum [.ref (cw_a (ck_w K) 32), .int (nI s), .int (nI a), .int (nI e)] I (some (.int (nI (sp_run v s a (e - a))))) I :=
  cw_lift (cp_le_ck K) rfl (pl_sum (K := K) h hs ha he) (fun _ _ => rfl)
theorem pl_fillK {x : Int32} {a e : Nat} (ha : a ≤ e) (he : e ≤ 24) : cw_C (ck_w K) mX11_fill [.ref (cw_a (ck_w K) 32), .int x, .int (nI a), .int (nI e)] I none (cw_up I 40 (sp_put (I 40) x a e)) :=
  cw_lift (cp_le_ck K) rfl (pl_fill (K := K) (I := I) ha he) (fun k hk => by
    have h1 : 41 ≤ k := hk
    unfold cw_up
    rw [if_neg (by omega)])
theorem pl_knifeI (h : pl_v n k v I) (hS : ∀ s, s < k → I 41 s = if sp_un S s = true then 0 else 1) (hw : 1 ≤ w) (hw6 : w ≤ 6) (ha : a ≤ e) (he : e + 1 ≤ n) (cont : ∀ o, pl_who v n w a S k e 0 o → bX11_knife_32_40 K K0 r J0 (nI a) (nI w) (sp_oi o) (nI (e + 1)) I) : ∀ i o, i ≤ k → pl_who v n w a S k e i o → bX11_knife_32_56 K K0 r J0 (nI a) (nI w) (sp_oi o) (nI (e + 1)) (nI i + (-1)) I := by
  have hh := h
  obtain ⟨h1, h2, hn, hk, hd, hv⟩ := h
  intro i
  induction i with
  | zero =>
    intro o _ ho
    exact tbX11_knife_32_56 (br_t (by decide) (cont o ho))
  | succ i ih =>
    intro o hi ho
    have hin : vp_in (nI i) 6 := vp_in_nI (by omega) (by omega)
    have hSi := hS i (by omega)
    have keep : ¬ (sp_un S i = true ∧ pl_E v n w a i e) → bX11_knife_32_56 K K0 r J0 (nI a) (nI w) (sp_oi o) (nI (e + 1)) (nI i + (-1)) I := fun q => ih o (by omega) (by
      cases o with
      | none =>
        intro j h3 h4 h5 h6
        by_cases e2 : j = i
        · subst e2
          exact q ⟨h5, h6⟩
        · exact ho j (by omega) h4 h5 h6
      | some b =>
        obtain ⟨b1, b2, b3, b4, b5⟩ := ho
        refine ⟨by omega, b2, b3, b4, fun j h3 h4 h5 h6 => ?_⟩
        by_cases e2 : j = i
        · subst e2
          exact q ⟨h5, h6⟩
        · exact b5 j (by omega) h4 h5 h6)
    have take : sp_un S i = true → pl_E v n w a i e → bX11_knife_32_56 K K0 r J0 (nI a) (nI w) (nI i) (nI (e + 1)) (nI i + (-1)) I := fun q1 q2 => ih (some i) (by omega) ⟨Nat.le_refl _, by omega, q1, q2, fun j h3 h4 => by omega⟩
    have s1 := pl_sumK (K := K) hh (show i < k by omega) (show a ≤ e + 1 by omega) he
    have s2 := pl_sumK (K := K) hh (show i < k by omega) (show a ≤ n by omega) (Nat.le_refl n)
    have b1 := sp_run_le hd (show i < k by omega) (show a + (e + 1 - a) ≤ n by omega)
    have b2 := sp_run_le hd (show i < k by omega) (show a + (n - a) ≤ n by omega)
    have b3 : sp_run v i a (e + 1 - a) * w ≤ (9 * (e + 1 - a)) * 6 := Nat.mul_le_mul b1 hw6
    rw [pk_m1]
    refine tbX11_knife_32_56 (br_f (nI_pos (by omega)) ⟨fun q => ⟨_, _, s1, ?_⟩, fun q => ?_⟩)
    · rw [h1]
      refine ⟨_, _, s2, ?_⟩
      have qw : ¬ w = 1 := fun z => q (by rw [z]; rfl)
      rw [pk_mul, nI_clamp (show i < 2 ^ 31 by omega), hSi]
      refine ⟨fun q2 => ⟨hin, fun _ => keep ?_, fun _ => keep ?_⟩, fun q2 => ⟨hin, fun q3 => keep ?_, fun q3 => take ?_ ?_⟩⟩
      · intro z
        have z2 := z.2
        unfold pl_E at z2
        rw [if_neg qw] at z2
        have := (nI_ltI (by omega) (by omega)).mp q2
        omega
      · intro z
        have z2 := z.2
        unfold pl_E at z2
        rw [if_neg qw] at z2
        have := (nI_ltI (by omega) (by omega)).mp q2
        omega
      · intro z
        exact q3 (if_pos z.1)
      · by_cases z : sp_un S i = true
        · exact z
        · rw [if_neg z] at q3
          exact absurd q3 (by decide)
      · unfold pl_E
        rw [if_neg qw]
        exact Nat.not_lt.mp (fun z => q2 (nI_lt z (by omega)))
    · have qw : w = 1 := (nI_eq (a := w) (b := 1) (by omega) (by omega)).mp q
      rw [nI_clamp (show i < 2 ^ 31 by omega), hSi, h1]
      refine ⟨fun q2 => ⟨hin, fun _ => keep ?_, fun _ => keep ?_⟩, fun q2 => ⟨hin, fun q3 => keep ?_, fun q3 => take ?_ ?_⟩⟩
      · intro z
        have z2 := z.2
        unfold pl_E at z2
        rw [if_pos qw] at z2
        exact q2 (by rw [z2])
      · intro z
        have z2 := z.2
        unfold pl_E at z2
        rw [if_pos qw] at z2
        exact q2 (by rw [z2])
      · intro z
        exact q3 (if_pos z.1)
      · by_cases z : sp_un S i = true
        · exact z
        · rw [if_neg z] at q3
          exact absurd q3 (by decide)
      · unfold pl_E
        rw [if_pos qw]
        exact (nI_eq (by omega) (by omega)).mp q2
theorem pl_knifeE (h : pl_v n k v I) (hS : ∀ s, s < k → I 41 s = if sp_un S s = true then 0 else 1) (hw : 1 ≤ w) (hw6 : w ≤ 6) (ha : a < n) {t : Nat} (ht : sp_fc S (sp_g v n a w) k = some t) (cont : bX11_knife_32_40 K K0 r J0 (nI a) (nI w) (nI t) (nI (sp_g v n a w t + 1)) I) : ∀ d e, e + d = sp_g v n a w t → a ≤ e → bX11_knife_32_40 K K0 r J0 (nI a) (nI w) (-1) (nI e) I := by
  obtain ⟨t1, t2, t3, t4⟩ := pl_E_spec v t ha hw
  have htk := sp_fc_lt ht
  have hk0 := h.2.2.2.1
  have hn0 := h.2.2.1
  have go : ∀ e, a ≤ e → e ≤ sp_g v n a w t → (∀ o, pl_who v n w a S k e 0 o → bX11_knife_32_40 K K0 r J0 (nI a) (nI w) (sp_oi o) (nI (e + 1)) I) → bX11_knife_32_40 K K0 r J0 (nI a) (nI w) (-1) (nI e) I := fun e h1 h2 h3 => by
    refine tbX11_knife_32_40 (br_f pl_m1 ?_)
    rw [nI_1, h.2.1, Int32.sub_eq_add_neg]
    exact pl_knifeI h hS hw hw6 h1 (by omega) h3 k none (Nat.le_refl k) (fun j h4 h5 => by omega)
  intro d
  induction d with
  | zero =>
    intro e he hae
    refine go e hae (by omega) (fun o ho => ?_)
    cases o with
    | none =>
      refine absurd ?_ (ho t (Nat.zero_le _) htk.1 htk.2)
      rw [show e = sp_g v n a w t by omega]
      exact t3
    | some b =>
      obtain ⟨-, b2, b3, b4, b5⟩ := ho
      have hm : ∀ j, j < k → sp_un S j = true → sp_g v n a w b ≤ sp_g v n a w j ∧ (j < b → sp_g v n a w b < sp_g v n a w j) := fun j hj hu => by
        obtain ⟨c1, c2, c3, c4⟩ := pl_E_spec v j ha hw
        obtain ⟨d1, d2, d3, d4⟩ := pl_E_spec v b ha hw
        have m1 := (pl_fc_spec ht j hj hu).1
        have m2 : ¬ e < sp_g v n a w b := fun z => d4 e hae z b4
        refine ⟨by omega, fun z => ?_⟩
        have m3 := b5 j (Nat.zero_le _) z hu
        have m4 : sp_g v n a w j ≠ e := fun z2 => m3 (by rw [← z2]; exact c3)
        omega
      have e2 := pl_fc_eq ht b2 b3 hm
      subst e2
      rw [show e = sp_g v n a w t by omega]
      exact cont
  | succ d ih =>
    intro e he hae
    refine go e hae (by omega) (fun o ho => ?_)
    cases o with
    | none => exact ih (e + 1) (by omega) (by omega)
    | some b =>
      obtain ⟨-, b2, b3, b4, b5⟩ := ho
      obtain ⟨d1, d2, d3, d4⟩ := pl_E_spec v b ha hw
      have m1 := (pl_fc_spec ht b b2 b3).1
      exact absurd b4 (d4 e hae (by omega))
theorem pl_knifeL {I0 : cw_M} (h : pl_v n k v I0) (hle : cw_le (cp_w K0) (ck_w K)) : ∀ (w S a : Nat) (f g : Nat → Int32), w ≤ 6 → S < 64 → sp_wt k S = w → a ≤ n → (∀ s, s < k → g s = if sp_un S s = true then 0 else 1) → bX11_knife_32_22 K K0 none (cw_up (cw_up I0 40 (sp_kn v n k w S a f)) 41 (pl_kg v n k w S a g)) (nI a) (nI w) (cw_up (cw_up I0 40 f) 41 g) := by
  have hn := h.2.2.1
  have hk := h.2.2.2.1
  have hv2 : ∀ f g, pl_v n k v (cw_up (cw_up I0 40 f) 41 g) := fun f g => (h.up (by decide) (by decide)).up (by decide) (by decide)
  intro w
  induction w with
  | zero =>
    intro S a f g _ hS hwt ha hg
    exact tbX11_knife_32_22 hle (br_t (by decide) ⟨rfl, rfl⟩)
  | succ w ih =>
    intro S a f g hw6 hS hwt ha hg
    have hI := hv2 f g
    by_cases q : n ≤ a
    · have e1 : pl_kg v n k (w + 1) S a g = g := by
        show (if n ≤ a then g else _) = g
        rw [if_pos q]
      refine tbX11_knife_32_22 hle (br_f (nI_nle (by omega) (by omega)) (br_t ?_ ⟨rfl, ?_⟩))
      · rw [hI.1]; exact nI_le q (by omega)
      · rw [sp_kn_end q, e1]
    · obtain ⟨t, ht⟩ := sp_fc_some (S := S) (g := sp_g v n a (w + 1)) (i := k) (by omega)
      have htk := sp_fc_lt ht
      obtain ⟨t1, t2, t3, t4⟩ := pl_E_spec v t (show a < n by omega) (show 1 ≤ w + 1 by omega)
      have hset := sp_set6 S hS t (by omega)
      have hwt2 := sp_wt_set k (by omega) S hS t htk.1 htk.2
      have e1 : sp_kn v n k (w + 1) S a f = sp_kn v n k w (S ||| 2 ^ t) (sp_g v n a (w + 1) t + 1) (sp_put f (nI t) a (sp_g v n a (w + 1) t + 1)) := by
        show (if n ≤ a then f else match sp_fc S (sp_g v n a (w + 1)) k with | none => f | some t => _) = _
        rw [if_neg q, ht]
      have e2 : pl_kg v n k (w + 1) S a g = pl_kg v n k w (S ||| 2 ^ t) (sp_g v n a (w + 1) t + 1) (upd g t (vp_nar .boolean 1)) := by
        show (if n ≤ a then g else match sp_fc S (sp_g v n a (w + 1)) k with | none => g | some t => _) = _
        rw [if_neg q, ht]
      have h9 := ih (S ||| 2 ^ t) (sp_g v n a (w + 1) t + 1) (sp_put f (nI t) a (sp_g v n a (w + 1) t + 1)) (upd g t (vp_nar .boolean 1)) (by omega) hset.2.1 (by omega) (by omega) (fun s hs => by
        have hb := hset.2.2 s (by omega)
        by_cases e : s = t
        · subst e
          rw [pk_us, pl_nar1, if_neg]
          unfold sp_un
          rw [hb]
          simp
        · rw [pk_un e, hg s hs]
          unfold sp_un
          rw [hb]
          simp [e])
      rw [e1, e2]
      refine tbX11_knife_32_22 hle (br_f (nI_nle (by omega) (by omega)) (br_f ?_ ?_))
      · rw [hI.1]; exact nI_ge (by omega) (by omega)
      · refine pl_knifeE hI (fun s hs => by
          show g s = _
          exact hg s hs) (by omega) hw6 (by omega) ht ?_ (sp_g v n a (w + 1) t - a) a (by omega) (Nat.le_refl a)
        refine tbX11_knife_32_40 (br_t (nI_pos' (by omega)) ⟨vp_in_nI (by omega) (by omega), _, pl_fillK (by omega) (by omega), ?_⟩)
        rw [pk_m1, nI_clamp (show t < 2 ^ 31 by omega)]
        have e3 : cw_up (cw_st (cw_up (cw_up I0 40 f) 41 g) 41 t (vp_nar .boolean 1)) 40 (sp_put ((cw_st (cw_up (cw_up I0 40 f) 41 g) 41 t (vp_nar .boolean 1)) 40) (nI t) a (sp_g v n a (w + 1) t + 1)) = cw_up (cw_up I0 40 (sp_put f (nI t) a (sp_g v n a (w + 1) t + 1))) 41 (upd g t (vp_nar .boolean 1)) := by
          funext q
          by_cases q0 : q = 40
          · subst q0
            simp [cw_up]
          · by_cases q1 : q = 41
            · subst q1
              simp [cw_up]
            · simp [cw_up, q0, q1]
        rw [e3]
        exact h9
theorem pl_knife (h : pl_v n k v I) : cw_CN 1 6 (cp_w K) mX11_knife [.ref (cw_a (cp_w K) 32)] I none (cw_up I 40 (sp_kn v n k k 0 0 (sp_put (I 40) (-1) 0 n))) := by
  have hn := h.2.2.1
  have hk := h.2.2.2.1
  have h41 : pl_v n k v (cw_up I 41 (fun _ => 0)) := h.up (by decide) (by decide)
  refine cw_CNj (I2 := cw_up (cw_up I 40 (sp_kn v n k k 0 0 (sp_put (I 40) (-1) 0 n))) 41 (pl_kg v n k k 0 0 (fun _ => 0))) (fun j hj => ?_) (eX11_knife_32 (fun q => ?_))
  · have hj2 : j < 41 := hj
    show (if j = 41 then _ else _) = _
    rw [if_neg (by omega)]
  · rw [h41.1]
    refine ⟨_, pl_fillK (a := 0) (Nat.zero_le n) hn, ?_⟩
    have e3 : cw_up (cw_up I 41 (fun _ => 0)) 40 (sp_put ((cw_up I 41 (fun _ => 0)) 40) (-1) 0 n) = cw_up (cw_up I 40 (sp_put (I 40) (-1) 0 n)) 41 (fun _ => 0) := by
      funext q
      by_cases q0 : q = 40
      · subst q0
        simp [cw_up]
      · by_cases q1 : q = 41
        · subst q1
          simp [cw_up]
        · simp [cw_up, q0, q1]
    rw [e3]
    have h32 : pl_v n k v (cw_up (cw_up I 40 (sp_put (I 40) (-1) 0 n)) 41 (fun _ => 0)) := (h.up (by decide) (by decide)).up (by decide) (by decide)
    rw [h32.2.1]
    exact pl_knifeL (K := kset K 41 q) (K0 := K) h (xk_ext K q).le k 0 0 (sp_put (I 40) (-1) 0 n) (fun _ => 0) hk (by decide) (sp_wt0 k (by omega)) (Nat.zero_le n) (fun s hs => by
      rw [if_pos]
      unfold sp_un
      simp)
end PLK
