/-! ## the law's own cake: 32 the object, rows 34 to 39 its values, 40 its owners; pl_ contracts in the world of both -/
/-- the law's cake holds n cells, k siblings, the values v -/
def pl_v (n k : Nat) (v : Nat → Nat → Nat) (I : cw_M) : Prop := I 32 1 = nI n ∧ I 32 2 = nI k ∧ n ≤ 24 ∧ k ≤ 6 ∧ sp_dig v n k ∧ ∀ s c, s < k → c < n → I (34 + s) c = nI (v s c)
theorem pl_0 (x : Int32) : x + 0 = x := by simp
section PLS
variable {K : cw_K} {I : cw_M} {n k : Nat} {v : Nat → Nat → Nat} {ow : Nat → Int32}
theorem pl_sumL (h : pl_v n k v I) {s a e : Nat} (hs : s < k) (he : e ≤ n) : ∀ d i : Nat, i + d = e → a ≤ i → bX11_sum_32_6 K (some (.int (nI (sp_run v s a (e - a))))) I (nI s) (nI e) (nI (sp_run v s a (i - a))) (nI i) I := by
  obtain ⟨h1, h2, hn, hk, hd, hv⟩ := h
  intro d
  induction d with
  | zero =>
    intro i hi ha
    have : i = e := by omega
    subst this
    exact tbX11_sum_32_6 (br_t (nI_le (Nat.le_refl _) (by omega)) ⟨rfl, rfl⟩)
  | succ d ih =>
    intro i hi ha
    refine tbX11_sum_32_6 (br_f (nI_ge (by omega) (by omega)) ⟨vp_in_nI (by omega) (by omega), vp_in_nI (by omega) (by omega), ?_⟩)
    have h9 := ih (i + 1) (by omega) (by omega)
    rw [nI_clamp (show s < 2 ^ 31 by omega), nI_clamp (show i < 2 ^ 31 by omega), hv s i hs (by omega), nI_1, nI_add, ← sp_run_succ v s ha]
    exact h9
theorem pl_sum (h : pl_v n k v I) {s a e : Nat} (hs : s < k) (ha : a ≤ e) (he : e ≤ n) : cw_C (cp_w K) mX11_sum [.ref (cw_a (cp_w K) 32), .int (nI s), .int (nI a), .int (nI e)] I (some (.int (nI (sp_run v s a (e - a))))) I := by
  have h9 := pl_sumL (K := K) h hs he (a := a) (e - a) a (by omega) (Nat.le_refl a)
  rw [Nat.sub_self] at h9
  exact eX11_sum_32 h9
theorem pl_worthL (h : pl_v n k v I) (ho : ∀ c, c < n → I 40 c = ow c) {s : Nat} (hs : s < k) (o : Int32) : ∀ d i : Nat, i + d = n → bX11_worth_32_5 K (some (.int (nI (sp_own v ow s o n)))) I (nI s) o (nI (sp_own v ow s o i)) (nI i) I := by
  obtain ⟨h1, h2, hn, hk, hd, hv⟩ := h
  intro d
  induction d with
  | zero =>
    intro i hi
    have : i = n := by omega
    subst this
    exact tbX11_worth_32_5 (br_t (by rw [h1]; exact nI_le (Nat.le_refl _) (by omega)) ⟨rfl, rfl⟩)
  | succ d ih =>
    intro i hi
    have h9 := ih (i + 1) (by omega)
    refine tbX11_worth_32_5 (br_f (by rw [h1]; exact nI_ge (by omega) (by omega)) ⟨vp_in_nI (by omega) (by omega), ?_⟩)
    rw [nI_clamp (show i < 2 ^ 31 by omega), nI_clamp (show s < 2 ^ 31 by omega), hv s i hs (by omega), ho i (by omega), nI_1, nI_add, pl_0]
    refine ⟨fun q => ?_, fun q => ⟨vp_in_nI (by omega) (by omega), vp_in_nI (by omega) (by omega), ?_⟩⟩
    · have e3 : sp_own v ow s o (i + 1) = sp_own v ow s o i := by
        show sp_own v ow s o i + sp_o v ow s o i = _
        rw [sp_o, if_neg q, Nat.add_zero]
      rw [e3] at h9
      exact h9
    · have e3 : sp_own v ow s o (i + 1) = sp_own v ow s o i + v s i := by
        show sp_own v ow s o i + sp_o v ow s o i = _
        rw [sp_o, if_pos q]
      rw [e3] at h9
      exact h9
theorem pl_worth (h : pl_v n k v I) (ho : ∀ c, c < n → I 40 c = ow c) {s : Nat} (hs : s < k) (o : Nat) : cw_C (cp_w K) mX11_worth [.ref (cw_a (cp_w K) 32), .int (nI s), .int (nI o)] I (some (.int (nI (sp_w v ow n s o)))) I :=
  eX11_worth_32 (pl_worthL h ho hs (nI o) n 0 (by omega))
theorem pl_fillL {x : Int32} {e : Nat} (he : e ≤ 24) (I0 : cw_M) {a : Nat} : ∀ d i : Nat, i + d = e → a ≤ i → bX11_fill_32_3 K none (cw_up I0 40 (sp_put (I0 40) x a e)) x (nI e) (nI i) (cw_up I0 40 (sp_put (I0 40) x a i)) := by
  intro d
  induction d with
  | zero =>
    intro i hi ha
    have : i = e := by omega
    subst this
    exact tbX11_fill_32_3 (br_t (nI_le (Nat.le_refl _) (by omega)) ⟨rfl, rfl⟩)
  | succ d ih =>
    intro i hi ha
    refine tbX11_fill_32_3 (br_f (nI_ge (by omega) (by omega)) ⟨vp_in_nI (by omega) (by omega), ?_⟩)
    have h1 := ih (i + 1) (by omega) (by omega)
    rw [nI_1, nI_clamp (by omega)]
    have e1 : cw_st (cw_up I0 40 (sp_put (I0 40) x a i)) 40 i x = cw_up I0 40 (sp_put (I0 40) x a (i + 1)) := by
      funext q j
      by_cases hq : q = 40
      · subst hq
        simp only [cw_st, cw_up, if_true, sp_put, upd]
        by_cases hj : j = i
        · subst hj
          rw [if_pos rfl, if_pos ⟨ha, by omega⟩]
        · rw [if_neg hj]
          by_cases hj2 : a ≤ j ∧ j < i
          · rw [if_pos hj2, if_pos ⟨hj2.1, by omega⟩]
          · rw [if_neg hj2, if_neg (fun z => hj2 ⟨z.1, by omega⟩)]
      · simp only [cw_st, cw_up, if_neg hq]
    rw [e1]
    exact h1
theorem pl_fill {x : Int32} {a e : Nat} (ha : a ≤ e) (he : e ≤ 24) : cw_C (cp_w K) mX11_fill [.ref (cw_a (cp_w K) 32), .int x, .int (nI a), .int (nI e)] I none (cw_up I 40 (sp_put (I 40) x a e)) := by
  refine eX11_fill_32 ?_
  have h1 := pl_fillL (K := K) (x := x) he I (a := a) (e - a) a (by omega) (Nat.le_refl a)
  have e1 : cw_up I 40 (sp_put (I 40) x a a) = I := by
    funext q j
    by_cases hq : q = 40
    · subst hq
      simp only [cw_up, if_true, sp_put]
      rw [if_neg (by omega)]
    · simp only [cw_up, if_neg hq]
  rw [e1] at h1
  exact h1
/-- what is put beside the law's cake leaves it -/
theorem pl_v.up (h : pl_v n k v I) {o : Nat} {f : Nat → Int32} (h1 : o ≠ 32) (h2 : o < 34 ∨ 40 ≤ o) : pl_v n k v (cw_up I o f) := by
  obtain ⟨a1, a2, hn, hk, hd, hv⟩ := h
  have e : ∀ j, j ≠ o → cw_up I o f j = I j := fun j hj => by
    unfold cw_up
    rw [if_neg hj]
  refine ⟨by rw [e 32 (fun q => h1 q.symm)]; exact a1, by rw [e 32 (fun q => h1 q.symm)]; exact a2, hn, hk, hd, fun s c hs hc => ?_⟩
  rw [e (34 + s) (by omega)]
  exact hv s c hs hc
theorem pl_satL (h : pl_v n k v I) (ho : ∀ c, c < n → I 40 c = ow c) : ∀ d i : Nat, i + d = k → bX11_satisfied_32_4 K (some (.int (nI (sp_n (fun s => sp_fair v ow n k s) k)))) I (nI (sp_n (fun s => sp_fair v ow n k s) i)) (nI i) I := by
  have hh := h
  obtain ⟨h1, h2, hn, hk, hd, hv⟩ := h
  intro d
  induction d with
  | zero =>
    intro i hi
    have : i = k := by omega
    subst this
    exact tbX11_satisfied_32_4 (br_t (by rw [h2]; exact nI_le (Nat.le_refl _) (by omega)) ⟨rfl, rfl⟩)
  | succ d ih =>
    intro i hi
    have h9 := ih (i + 1) (by omega)
    have hw := pl_worth (K := K) hh ho (show i < k by omega) i
    have hs := pl_sum (K := K) hh (show i < k by omega) (Nat.zero_le n) (Nat.le_refl n)
    have b1 := sp_own_le (ow := ow) (o := nI i) hd (show i < k by omega) (Nat.le_refl n)
    have b2 := sp_run_le hd (show i < k by omega) (show 0 + n ≤ n by omega)
    have b3 : sp_w v ow n i i * k ≤ 9 * n * 6 := Nat.mul_le_mul b1 hk
    have e0 : sp_run v i 0 (n - 0) = sp_s (v i) n := sp_s_congr (fun j _ => by rw [Nat.zero_add])
    have e1 : sp_run v i 0 n = sp_s (v i) n := sp_s_congr (fun j _ => by rw [Nat.zero_add])
    rw [e0] at hs
    rw [e1] at b2
    refine tbX11_satisfied_32_4 (br_f (by rw [h2]; exact nI_ge (by omega) (by omega)) ⟨_, _, hw, ?_⟩)
    rw [h1]
    refine ⟨_, _, hs, ?_⟩
    rw [h2, pk_mul, nI_1, nI_1, pl_0]
    refine ⟨fun q => ?_, fun q => ?_⟩
    · have q1 := (nI_ltI (by omega) (by omega)).mp q
      have e3 : sp_n (fun s => sp_fair v ow n k s) (i + 1) = sp_n (fun s => sp_fair v ow n k s) i := by
        show sp_n (fun s => sp_fair v ow n k s) i + (if sp_fair v ow n k i then 1 else 0) = _
        rw [if_neg (Nat.not_le.mpr q1), Nat.add_zero]
      rw [e3] at h9
      exact h9
    · have q1 : ¬ sp_w v ow n i i * k < sp_s (v i) n := fun z => q (nI_lt z (by omega))
      have e3 : sp_n (fun s => sp_fair v ow n k s) (i + 1) = sp_n (fun s => sp_fair v ow n k s) i + 1 := by
        show sp_n (fun s => sp_fair v ow n k s) i + (if sp_fair v ow n k i then 1 else 0) = _
        rw [if_pos (Nat.not_lt.mp q1)]
      rw [e3] at h9
      exact h9
theorem pl_satisfied (h : pl_v n k v I) (ho : ∀ c, c < n → I 40 c = ow c) : cw_C (cp_w K) mX11_satisfied [.ref (cw_a (cp_w K) 32)] I (some (.int (nI (sp_n (fun s => sp_fair v ow n k s) k)))) I :=
  eX11_satisfied_32 (pl_satL h ho k 0 (by omega))
end PLS
