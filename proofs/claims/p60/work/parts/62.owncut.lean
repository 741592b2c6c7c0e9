/-! ## the law's cake: cut, divide, read -/
theorem pl_cat (f : Nat → Nat) (c : Nat) : ∀ d : Nat, sp_s f c + sp_s (fun j => f (c + j)) d = sp_s f (c + d)
  | 0 => rfl
  | d + 1 => by
    have h := pl_cat f c d
    show sp_s f c + (sp_s (fun j => f (c + j)) d + f (c + d)) = sp_s f (c + d) + f (c + d)
    omega
theorem pl_run0 (v : Nat → Nat → Nat) (s c : Nat) : sp_run v s 0 (c - 0) = sp_s (v s) c := by
  rw [Nat.sub_zero]
  exact sp_s_congr (fun j _ => by rw [Nat.zero_add])
theorem pl_runs (v : Nat → Nat → Nat) (s : Nat) {c n : Nat} (h : c ≤ n) : sp_s (v s) c + sp_run v s c (n - c) = sp_s (v s) n := by
  have h1 := pl_cat (v s) c (n - c)
  rw [show c + (n - c) = n by omega] at h1
  exact h1
/-- the first of the cuts with the least difference -/
def pl_best (v : Nat → Nat → Nat) (n s : Nat) (P : Nat → Prop) (b : Nat) : Prop := b ≤ n ∧ P b ∧ ∀ j, j ≤ n → P j → sp_df v n s b ≤ sp_df v n s j ∧ (sp_df v n s j = sp_df v n s b → b ≤ j)
theorem pl_best_ct {v : Nat → Nat → Nat} {n s : Nat} : ∀ i : Nat, i ≤ n → pl_best v n s (fun j => j ≤ i) (sp_ct v n s i)
  | 0, _ => ⟨Nat.zero_le _, Nat.le_refl _, fun j _ hj => by
    have h0 : j ≤ 0 := hj
    obtain rfl : j = 0 := by omega
    exact ⟨Nat.le_refl _, fun _ => Nat.le_refl _⟩⟩
  | i + 1, hi => by
    obtain ⟨h1, h2, h3⟩ := pl_best_ct (v := v) (n := n) (s := s) i (by omega)
    have h2' : sp_ct v n s i ≤ i := h2
    show pl_best v n s (fun j => j ≤ i + 1) (if sp_df v n s (i + 1) < sp_df v n s (sp_ct v n s i) then i + 1 else sp_ct v n s i)
    by_cases q : sp_df v n s (i + 1) < sp_df v n s (sp_ct v n s i)
    · rw [if_pos q]
      refine ⟨hi, Nat.le_refl _, fun j hj hj2 => ?_⟩
      have hj3 : j ≤ i + 1 := hj2
      by_cases e : j = i + 1
      · subst e
        exact ⟨Nat.le_refl _, fun _ => Nat.le_refl _⟩
      · have h4 := (h3 j hj (show j ≤ i by omega)).1
        exact ⟨by omega, fun z => by omega⟩
    · rw [if_neg q]
      refine ⟨h1, show sp_ct v n s i ≤ i + 1 by omega, fun j hj hj2 => ?_⟩
      have hj3 : j ≤ i + 1 := hj2
      by_cases e : j = i + 1
      · subst e
        exact ⟨by omega, fun _ => by omega⟩
      · exact h3 j hj (show j ≤ i by omega)
theorem pl_best_eq {v : Nat → Nat → Nat} {n s a b : Nat} {P Q : Nat → Prop} (hPQ : ∀ j, j ≤ n → (P j ↔ Q j)) (ha : pl_best v n s P a) (hb : pl_best v n s Q b) : a = b := by
  obtain ⟨a1, a2, a3⟩ := ha
  obtain ⟨b1, b2, b3⟩ := hb
  have h1 := a3 b b1 ((hPQ b b1).mpr b2)
  have h2 := b3 a a1 ((hPQ a a1).mp a2)
  have h3 := h1.2 (by omega)
  have h4 := h2.2 (by omega)
  omega
section PLC
variable {K : cw_K} {I : cw_M} {n k : Nat} {v : Nat → Nat → Nat} {ow : Nat → Int32}
/-- the difference of the two sides -/
theorem pl_df (hd : sp_dig v n k) (hn : n ≤ 24) {s c : Nat} (hs : s < k) (hc : c ≤ n) : (if 0 ≤ nI (sp_run v s 0 (c - 0)) - nI (sp_run v s c (n - c)) then nI (sp_run v s 0 (c - 0)) - nI (sp_run v s c (n - c)) else 0 - (nI (sp_run v s 0 (c - 0)) - nI (sp_run v s c (n - c)))) = nI (sp_df v n s c) := by
  have e := pl_runs v s hc
  have b := sp_pre_le hd hn hs (Nat.le_refl n)
  rw [pl_run0]
  have hy : (nI (sp_s (v s) c) - nI (sp_run v s c (n - c))).toInt = (sp_s (v s) c : Int) - (sp_run v s c (n - c) : Int) := pk_sub_toInt (by omega) (by omega)
  rw [sp_abs hy (by omega) (by omega)]
  have e2 : ((sp_s (v s) c : Int) - (sp_run v s c (n - c) : Int)).natAbs = sp_df v n s c := by
    unfold sp_df
    omega
  rw [e2]
theorem pl_cutL (h : pl_v n k v I) {s : Nat} (hs : s < k) : ∀ c b : Nat, c ≤ n + 1 → pl_best v n s (fun j => j = 0 ∨ c ≤ j) b → bX11_cut_32_7 K (some (.int (nI (sp_ct v n s n)))) I (nI s) (nI b) (nI c + (-1)) I := by
  have hh := h
  obtain ⟨h1, h2, hn, hk, hd, hv⟩ := h
  have hdf : ∀ c, c ≤ n → sp_df v n s c < 1000 := fun c hc => sp_df_lt (sp_pre_le hd hn hs (Nat.le_refl n)) (sp_pre_le hd hn hs hc)
  intro c
  induction c with
  | zero =>
    intro b _ hb
    have e := pl_best_eq (fun j hj => (⟨fun _ => hj, fun _ => Or.inr (Nat.zero_le _)⟩ : (j = 0 ∨ 0 ≤ j) ↔ j ≤ n)) hb (pl_best_ct n (Nat.le_refl n))
    subst e
    exact tbX11_cut_32_7 (br_t (by decide) ⟨rfl, rfl⟩)
  | succ c ih =>
    intro b hc hb
    have hb1 := hb.1
    have hcn : c ≤ n := by omega
    have s1 := pl_sum (K := K) hh hs (Nat.zero_le c) hcn
    have s2 := pl_sum (K := K) hh hs hcn (Nat.le_refl n)
    have s3 := pl_sum (K := K) hh hs (Nat.zero_le b) hb1
    have s4 := pl_sum (K := K) hh hs hb1 (Nat.le_refl n)
    rw [pk_m1]
    refine tbX11_cut_32_7 (br_f (nI_pos (by omega)) ⟨_, _, s1, ?_⟩)
    rw [h1]
    refine ⟨_, _, s2, _, _, s3, ?_⟩
    rw [h1]
    refine ⟨_, _, s4, ?_⟩
    rw [pl_df hd hn hs hcn, pl_df hd hn hs hb1]
    have step : ∀ b2, pl_best v n s (fun j => j = 0 ∨ c ≤ j) b2 → bX11_cut_32_7 K (some (.int (nI (sp_ct v n s n)))) I (nI s) (nI b2) (nI c + (-1)) I := fun b2 h2 => ih b2 (by omega) h2
    have keep : sp_df v n s b ≤ sp_df v n s c → (sp_df v n s c = sp_df v n s b → b ≤ c) → pl_best v n s (fun j => j = 0 ∨ c ≤ j) b := fun q1 q2 => ⟨hb.1, hb.2.1.imp (fun z => z) (fun z => by omega), fun j hj hj2 => by
      by_cases e : j = c
      · subst e
        exact ⟨q1, q2⟩
      · exact hb.2.2 j hj (hj2.imp (fun z => z) (fun z => by omega))⟩
    have take : sp_df v n s c ≤ sp_df v n s b → (sp_df v n s c = sp_df v n s b → c ≤ b) → pl_best v n s (fun j => j = 0 ∨ c ≤ j) c := fun q1 q2 => ⟨hcn, Or.inr (Nat.le_refl _), fun j hj hj2 => by
      by_cases e : j = c
      · subst e
        exact ⟨Nat.le_refl _, fun _ => Nat.le_refl _⟩
      · have h9 := hb.2.2 j hj (hj2.imp (fun z => z) (fun z => by omega))
        refine ⟨by omega, fun z => ?_⟩
        have h10 := q2 (by omega)
        have h11 := h9.2 (by omega)
        omega⟩
    refine ⟨fun q => ?_, fun q => ⟨_, _, s3, ?_⟩⟩
    · have q1 := (nI_ltI (by have := hdf b hb1; omega) (by have := hdf c hcn; omega)).mp q
      exact step b (keep (by omega) (fun z => by omega))
    · have q1 : ¬ sp_df v n s b < sp_df v n s c := fun z => q (nI_lt z (by have := hdf c hcn; omega))
      rw [h1]
      refine ⟨_, _, s4, ?_⟩
      rw [pl_df hd hn hs hb1]
      refine ⟨fun q => ?_, fun q => ⟨fun q2 => ?_, fun q2 => ?_⟩⟩
      · have q3 := (nI_ltI (by have := hdf c hcn; omega) (by have := hdf b hb1; omega)).mp q
        exact step c (take (by omega) (fun z => by omega))
      · have q3 := (nI_leI (by omega) (by omega)).mp q2
        have q4 : ¬ sp_df v n s c < sp_df v n s b := fun z => q (nI_lt z (by have := hdf b hb1; omega))
        exact step b (keep (by omega) (fun _ => q3))
      · have q3 : ¬ b ≤ c := fun z => q2 (nI_le z (by omega))
        exact step c (take (by omega) (fun _ => by omega))
theorem pl_cut (h : pl_v n k v I) {s : Nat} (hs : s < k) : cw_C (cp_w K) mX11_cut [.ref (cw_a (cp_w K) 32), .int (nI s)] I (some (.int (nI (sp_ct v n s n)))) I := by
  refine eX11_cut_32 ?_
  have h9 := pl_cutL (K := K) h hs (n + 1) 0 (Nat.le_refl _) ⟨Nat.zero_le _, Or.inl rfl, fun j hj hj2 => by
    rcases hj2 with rfl | z
    · exact ⟨Nat.le_refl _, fun _ => Nat.le_refl _⟩
    · omega⟩
  rw [pk_m1] at h9
  rw [h.1]
  exact h9
theorem pl_divide (h : pl_v n k v I) {a b : Nat} (ha : a < k) (hb : b < k) : cw_C (cp_w K) mX11_divide [.ref (cw_a (cp_w K) 32), .int (nI a), .int (nI b)] I (some (.int (nI (sp_ct v n a n)))) (cw_up I 40 (sp_dv v n a b (I 40))) := by
  have hh := h
  obtain ⟨h1, h2, hn, hk, hd, hv⟩ := h
  have hc := sp_ct_le (v := v) (n := n) (s := a) n
  have b1 := sp_run_le hd hb (show 0 + sp_ct v n a n ≤ n by omega)
  have b2 := sp_run_le hd hb (show sp_ct v n a n + (n - sp_ct v n a n) ≤ n by omega)
  have h0 := pl_sum (K := K) hh hb (Nat.zero_le (sp_ct v n a n)) hc
  rw [Nat.sub_zero] at h0
  have key : ∀ x y : Int32, cw_up (cw_up I 40 (sp_put (I 40) x 0 (sp_ct v n a n))) 40 (sp_put ((cw_up I 40 (sp_put (I 40) x 0 (sp_ct v n a n))) 40) y (sp_ct v n a n) n) = cw_up I 40 (fun j => if j < sp_ct v n a n then x else if j < n then y else I 40 j) := by
    intro x y
    funext q j
    by_cases hq : q = 40
    · subst hq
      simp only [cw_up, if_true, sp_put]
      by_cases h1 : j < sp_ct v n a n
      · rw [if_neg (by omega), if_pos ⟨Nat.zero_le _, h1⟩, if_pos h1]
      · rw [if_neg h1]
        by_cases h2 : j < n
        · rw [if_pos ⟨by omega, h2⟩, if_pos h2]
        · rw [if_neg (by omega), if_neg (by omega), if_neg h2]
    · simp only [cw_up, if_neg hq]
  refine eX11_divide_32 ⟨_, _, pl_cut hh ha, _, _, h0, ?_⟩
  rw [h1]
  refine ⟨_, _, pl_sum hh hb hc (Nat.le_refl n), fun q => ?_, fun q => ?_⟩
  · have q2 := (nI_ltI (by omega) (by omega)).mp q
    refine ⟨_, pl_fill (Nat.zero_le _) (by omega), ?_⟩
    rw [show (cw_up I 40 (sp_put (I 40) (nI a) 0 (sp_ct v n a n))) 32 1 = nI n from h1]
    refine ⟨_, pl_fill hc hn, rfl, ?_⟩
    rw [key]
    have : ¬ sp_tl v n b (sp_ct v n a n) := by omega
    unfold sp_dv
    simp only [if_neg this]
  · have q2 : ¬ _ := fun z => q (nI_lt z (by omega))
    refine ⟨_, pl_fill (Nat.zero_le _) (by omega), ?_⟩
    rw [show (cw_up I 40 (sp_put (I 40) (nI b) 0 (sp_ct v n a n))) 32 1 = nI n from h1]
    refine ⟨_, pl_fill hc hn, rfl, ?_⟩
    rw [key]
    have : sp_tl v n b (sp_ct v n a n) := Nat.not_lt.mp q2
    unfold sp_dv
    simp only [if_pos this]
end PLC
