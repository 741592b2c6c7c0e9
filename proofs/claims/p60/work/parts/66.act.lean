/-! ## the law's changes: what each does to the class, in numbers; act; isMildAll -/
section ACT
variable {K : cw_K} {I : cw_M} {n k q u : Nat} {v : Nat → Nat → Nat} {ow : Nat → Int32}
theorem ps_nq {q : Nat} (h : q < 6) : sp_nq q < 6 := by
  unfold sp_nq
  split <;> omega
/-- the class remembered, with new owners -/
theorem ps_own (h : ps n k v ow q u I) {F : Nat → Int32} (hF : ∀ c, c < n → sp_okw k (F c)) : ps n k v F (sp_nq q) (min (u + 1) 6) (cw_up (sp_mem I q u) 9 F) := by
  obtain ⟨h1, h2, h3, h4, h5, h6, h7, h8, h9⟩ := h
  exact ⟨(sp_mem_cv h1).up (by decide) (by decide), h2, h3, fun c _ => by simp [cw_up], hF, rfl, ps_nq h7, rfl, Nat.min_le_right _ _⟩
theorem ps_mem32 : ∀ o, 32 ≤ o → sp_mem I q u o = I o := fun o ho => by
  unfold sp_mem sp_kp cw_st cw_up
  simp only [if_neg (show ¬ o = 28 by omega), if_neg (show ¬ o = 31 by omega), if_neg (show ¬ o = 30 by omega)]
theorem ps_own32 {F : Nat → Int32} : ∀ o, 32 ≤ o → cw_up (sp_mem I q u) 9 F o = I o := fun o ho => by
  rw [← ps_mem32 (I := I) (q := q) (u := u) o ho]
  unfold cw_up
  rw [if_neg (show ¬ o = 9 by omega)]
theorem ps_okI (h : ps n k v ow q u I) : ∀ c, c < n → sp_okw k (I 9 c) := fun c hc => by
  rw [h.2.2.2.1 c hc]
  exact h.2.2.2.2.1 c hc
theorem ps_cyI {f17 f18 f19 : Nat → Int32} (h : ps n k v ow q u I) : ps n k v ow q u (sp_cyI I f17 f18 f19) := by
  obtain ⟨h1, h2, h3, h4, h5, h6, h7, h8, h9⟩ := h
  exact ⟨sp_cyI_cv h1, h2, h3, h4, h5, h6, h7, h8, h9⟩
theorem ps_cyI32 {f17 f18 f19 : Nat → Int32} : ∀ o, 32 ≤ o → sp_cyI I f17 f18 f19 o = I o := fun o ho => by
  unfold sp_cyI cw_up
  simp only [if_neg (show ¬ o = 17 by omega), if_neg (show ¬ o = 18 by omega), if_neg (show ¬ o = 19 by omega)]
/-- the owners behind a rotation -/
abbrev ps_rot (v : Nat → Nat → Nat) (ow : Nat → Int32) (n k s len : Nat) (f : Nat → Int32) : Nat → Int32 := sp_mp (sp_ro (sp_w v ow n) k s len) f n
theorem ps_rotate (h : ps n k v ow q u I) {s len : Nat} (hs : s < k) (hl : sp_len (sp_w v ow n) k s = some len) : ∃ J, cw_C (cc_w K) mX10_rotate [.ref (cw_a (cc_w K) 0), .int (nI s)] I (some (.int (nI len))) J ∧ ps n k v (ps_rot v ow n k s len (I 9)) (sp_nq q) (min (u + 1) 6) J ∧ ∀ o, 32 ≤ o → J o = I o := by
  have hk := h.1.2.2.2.1
  obtain ⟨f17, f18, f19, g17, g18, g19, hC⟩ := fc_rotate (K := K) h.1 h.2.2.2.1 h.2.2.2.2.2.1 h.2.2.2.2.2.2.1 h.2.2.2.2.2.2.2.1 h.2.2.2.2.2.2.2.2 hs hl
  refine ⟨_, hC, ?_, fun o ho => ?_⟩
  · have h0 := ps_okI h
    have h1 := ps_own (ps_cyI (f17 := f17) (f18 := f18) (f19 := f19) h) (F := ps_rot v ow n k s len (I 9)) (sp_okw_mp h0 hs hk hl n)
    have h2 := ps_cyI (f17 := g17) (f18 := g18) (f19 := g19) h1
    refine h2.congr (fun o _ => ?_)
    unfold sp_cyI cw_up
    by_cases e9 : o = 9
    · subst e9
      simp
    · simp only [if_neg e9]
  · have e : ¬ o = 9 := by omega
    unfold cw_up
    rw [if_neg e]
    exact (ps_cyI32 o ho).trans ((ps_mem32 o ho).trans (ps_cyI32 o ho))
theorem ps_setValue (h : ps n k v ow q u I) {s c d : Nat} (hs : s < k) (hc : c < n) (hd : d ≤ 9) : ps n k (fun a b => if a = s ∧ b = c then d else v a b) ow (sp_nq q) (min (u + 1) 6) (cw_st (sp_mem I q u) 8 (s * 24 + c) (nI d)) := by
  obtain ⟨h1, h2, h3, h4, h5, h6, h7, h8, h9⟩ := h
  obtain ⟨c1, c2, c3, c4, c5, c6⟩ := sp_mem_cv (q := q) (u := u) h1
  refine ⟨⟨c1, c2, c3, c4, fun a b ha hb => ?_, fun a b ha hb => ?_⟩, h2, h3, h4, h5, rfl, ps_nq h7, rfl, Nat.min_le_right _ _⟩
  · show (if a = s ∧ b = c then d else v a b) ≤ 9
    split
    · exact hd
    · exact c5 a b ha hb
  · show upd (sp_mem I q u 8) (s * 24 + c) (nI d) (a * 24 + b) = nI (if a = s ∧ b = c then d else v a b)
    by_cases e : a = s ∧ b = c
    · rw [if_pos e, e.1, e.2, pk_us]
    · rw [if_neg e, pk_un (by omega)]
      exact c6 a b ha hb
theorem ps_st32 {i : Nat} {x : Int32} : ∀ o, 32 ≤ o → cw_st (sp_mem I q u) 8 i x o = I o := fun o ho => by
  rw [← ps_mem32 (I := I) (q := q) (u := u) o ho]
  unfold cw_st cw_up
  rw [if_neg (show ¬ o = 8 by omega)]
/-! act -/
theorem ac_rem {a d : Nat} (ha : a < 2 ^ 31) (h0 : 0 < d) (hd : d < 2 ^ 31) {x : Int32} (hx : x = nI d) : nI a - nI a / x * x = nI (a % d) := by
  rw [hx]
  exact pk_rem ha h0 hd
theorem ac_div {a d : Nat} (ha : a < 2 ^ 31) (h0 : 0 < d) (hd : d < 2 ^ 31) {x : Int32} (hx : x = nI d) : nI a / x = nI (a / d) := by
  rw [hx]
  exact pk_div ha h0 hd
set_option maxHeartbeats 1000000 in
theorem la_act (h : ps n k v ow q u I) {Z : Nat} (hZ : Z < 2 ^ 28) : ∃ J v2 ow2 q2 u2, cw_C (cc_w K) mL_act [.ref (cw_a (cc_w K) 0), .int (nI Z)] I none J ∧ ps n k v2 ow2 q2 u2 J ∧ ∀ o, 32 ≤ o → J o = I o := by
  have hh := h
  obtain ⟨hc, hn1, hk1, ho, hg, hq, hq6, hu, hu6⟩ := h
  have hn := hc.2.2.1
  have hk := hc.2.2.2.1
  have hI := ps_okI hh
  have nk : ¬ nI k = 0 := nI_ne0 (by omega) (by omega)
  have nn : ¬ nI n = 0 := nI_ne0 (by omega) (by omega)
  have d16 : nI Z / 16 = nI (Z / 16) := ac_div (by omega) (by omega) (by omega) rfl
  have d128 : nI Z / 128 = nI (Z / 128) := ac_div (by omega) (by omega) (by omega) rfl
  have d1024 : nI Z / 1024 = nI (Z / 1024) := ac_div (by omega) (by omega) (by omega) rfl
  have d32768 : nI Z / 32768 = nI (Z / 32768) := ac_div (by omega) (by omega) (by omega) rfl
  have dbig : nI Z / 4194304 = nI (Z / 4194304) := ac_div (by omega) (by omega) (by omega) rfl
  have d12 : nI Z - nI Z / 12 * 12 = nI (Z % 12) := ac_rem (by omega) (by omega) (by omega) rfl
  have ra : nI (Z / 16) - nI (Z / 16) / nI k * nI k = nI (Z / 16 % k) := pk_rem (by omega) (by omega) (by omega)
  have rb : nI (Z / 128) - nI (Z / 128) / nI k * nI k = nI (Z / 128 % k) := pk_rem (by omega) (by omega) (by omega)
  have rf : nI (Z / 1024) - nI (Z / 1024) / nI n * nI n = nI (Z / 1024 % n) := pk_rem (by omega) (by omega) (by omega)
  have r10 : nI (Z / 32768) - nI (Z / 32768) / 10 * 10 = nI (Z / 32768 % 10) := ac_rem (by omega) (by omega) (by omega) rfl
  have r3 : nI (Z / 4194304) - nI (Z / 4194304) / 3 * 3 = nI (Z / 4194304 % 3) := ac_rem (by omega) (by omega) (by omega) rfl
  have ha : Z / 16 % k < k := Nat.mod_lt _ (by omega)
  have hb : Z / 128 % k < k := Nat.mod_lt _ (by omega)
  have hf : Z / 1024 % n < n := Nat.mod_lt _ (by omega)
  have hv10 : Z / 32768 % 10 < 10 := Nat.mod_lt _ (by omega)
  have sub : nI n - nI (Z / 1024 % n) = nI (n - Z / 1024 % n) := pk_sub (by omega)
  have rt : nI (Z / 32768) - nI (Z / 32768) / nI (n - Z / 1024 % n) * nI (n - Z / 1024 % n) = nI (Z / 32768 % (n - Z / 1024 % n)) := pk_rem (by omega) (by omega) (by omega)
  have ht : Z / 32768 % (n - Z / 1024 % n) < n - Z / 1024 % n := Nat.mod_lt _ (by omega)
  have ns : ¬ nI (n - Z / 1024 % n) = 0 := nI_ne0 (by omega) (by omega)
  have eab : nI (Z / 16 % k) = nI (Z / 128 % k) ↔ Z / 16 % k = Z / 128 % k := nI_eq (by omega) (by omega)
  generalize eA : Z / 16 % k = a at *
  generalize eB : Z / 128 % k = b at *
  generalize eF : Z / 1024 % n = f at *
  generalize eT : Z / 32768 % (n - f) = t at *
  generalize eD : Z / 32768 % 10 = d at *
  generalize e3 : Z / 4194304 % 3 = m at *
  have hr : Z % 12 < 12 := Nat.mod_lt _ (by omega)
  generalize eR : Z % 12 = r at *
  rcases (by omega : r = 0 ∨ r = 1 ∨ r = 2 ∨ r = 3 ∨ r = 4 ∨ r = 5 ∨ r = 6 ∨ r = 7 ∨ r = 8 ∨ r = 9 ∨ r = 10 ∨ r = 11) with rfl | rfl | rfl | rfl | rfl | rfl | rfl | rfl | rfl | rfl | rfl | rfl
  · refine ⟨cw_up (sp_mem I q u) 9 (sp_put (I 9) (nI a) f (f + t + 1)), _, _, _, _, eL_act_0 ⟨_, _, fc_siblingCount hc, nk, nk, _, _, fc_cellCount hc, nn, _, _, fc_cellCount hc, ?_⟩, ps_own hh (sp_okw_put hI (sp_okw_nI ha) _ _), ps_own32⟩
    rw [d16, d128, d1024, d32768, dbig, d12, ra, rb, rf, sub, rt, r10, r3, nI_add]
    exact ⟨ns, fun _ => ⟨_, _, fc_give hc hq hq6 hu hu6 ha (by omega) (by omega), rfl, rfl⟩, fun z => absurd z (by decide), fun z => absurd z (by decide), fun z => absurd z (by decide), fun z => absurd z (by decide), fun z => absurd z (by decide), fun z => absurd z (by decide), fun z => absurd z (by decide), fun z => absurd z (by decide), fun z => absurd z (by decide), fun z _ _ _ _ _ _ _ _ _ => absurd rfl z⟩
  · refine ⟨cw_up (sp_mem I q u) 9 (sp_put (I 9) (nI a) f (f + t + 1)), _, _, _, _, eL_act_0 ⟨_, _, fc_siblingCount hc, nk, nk, _, _, fc_cellCount hc, nn, _, _, fc_cellCount hc, ?_⟩, ps_own hh (sp_okw_put hI (sp_okw_nI ha) _ _), ps_own32⟩
    rw [d16, d128, d1024, d32768, dbig, d12, ra, rb, rf, sub, rt, r10, r3, nI_add]
    exact ⟨ns, fun z => absurd z (by decide), fun _ => ⟨_, _, fc_give hc hq hq6 hu hu6 ha (by omega) (by omega), rfl, rfl⟩, fun z => absurd z (by decide), fun z => absurd z (by decide), fun z => absurd z (by decide), fun z => absurd z (by decide), fun z => absurd z (by decide), fun z => absurd z (by decide), fun z => absurd z (by decide), fun z => absurd z (by decide), fun _ z _ _ _ _ _ _ _ _ => absurd rfl z⟩
  · refine ⟨cw_up (sp_mem I q u) 9 (sp_put (I 9) (nI a) f (f + t + 1)), _, _, _, _, eL_act_0 ⟨_, _, fc_siblingCount hc, nk, nk, _, _, fc_cellCount hc, nn, _, _, fc_cellCount hc, ?_⟩, ps_own hh (sp_okw_put hI (sp_okw_nI ha) _ _), ps_own32⟩
    rw [d16, d128, d1024, d32768, dbig, d12, ra, rb, rf, sub, rt, r10, r3, nI_add]
    exact ⟨ns, fun z => absurd z (by decide), fun z => absurd z (by decide), fun _ => ⟨_, _, fc_give hc hq hq6 hu hu6 ha (by omega) (by omega), rfl, rfl⟩, fun z => absurd z (by decide), fun z => absurd z (by decide), fun z => absurd z (by decide), fun z => absurd z (by decide), fun z => absurd z (by decide), fun z => absurd z (by decide), fun z => absurd z (by decide), fun _ _ z _ _ _ _ _ _ _ => absurd rfl z⟩
  · refine ⟨cw_up (sp_mem I q u) 9 (sp_put (I 9) (nI a) f (f + t + 1)), _, _, _, _, eL_act_0 ⟨_, _, fc_siblingCount hc, nk, nk, _, _, fc_cellCount hc, nn, _, _, fc_cellCount hc, ?_⟩, ps_own hh (sp_okw_put hI (sp_okw_nI ha) _ _), ps_own32⟩
    rw [d16, d128, d1024, d32768, dbig, d12, ra, rb, rf, sub, rt, r10, r3, nI_add]
    exact ⟨ns, fun z => absurd z (by decide), fun z => absurd z (by decide), fun z => absurd z (by decide), fun _ => ⟨_, _, fc_give hc hq hq6 hu hu6 ha (by omega) (by omega), rfl, rfl⟩, fun z => absurd z (by decide), fun z => absurd z (by decide), fun z => absurd z (by decide), fun z => absurd z (by decide), fun z => absurd z (by decide), fun z => absurd z (by decide), fun _ _ _ z _ _ _ _ _ _ => absurd rfl z⟩
  · refine ⟨cw_up (sp_mem I q u) 9 (sp_put (I 9) (-1) f (f + t + 1)), _, _, _, _, eL_act_0 ⟨_, _, fc_siblingCount hc, nk, nk, _, _, fc_cellCount hc, nn, _, _, fc_cellCount hc, ?_⟩, ps_own hh (sp_okw_put hI (Or.inl rfl) _ _), ps_own32⟩
    rw [d16, d128, d1024, d32768, dbig, d12, ra, rb, rf, sub, rt, r10, r3, nI_add]
    exact ⟨ns, fun z => absurd z (by decide), fun z => absurd z (by decide), fun z => absurd z (by decide), fun z => absurd z (by decide), fun _ => ⟨_, _, fc_release hc hq hq6 hu hu6 (by omega) (by omega), rfl, rfl⟩, fun z => absurd z (by decide), fun z => absurd z (by decide), fun z => absurd z (by decide), fun z => absurd z (by decide), fun z => absurd z (by decide), fun _ _ _ _ z _ _ _ _ _ => absurd rfl z⟩
  · by_cases e : a = b
    · refine ⟨I, _, _, _, _, eL_act_0 ⟨_, _, fc_siblingCount hc, nk, nk, _, _, fc_cellCount hc, nn, _, _, fc_cellCount hc, ?_⟩, hh, (fun _ _ => rfl)⟩
      rw [d16, d128, d1024, d32768, dbig, d12, ra, rb, rf, sub, rt, r10, r3, nI_add]
      exact ⟨ns, fun z => absurd z (by decide), fun z => absurd z (by decide), fun z => absurd z (by decide), fun z => absurd z (by decide), fun z => absurd z (by decide), fun _ => ⟨fun _ => ⟨rfl, rfl⟩, fun z => absurd (eab.mpr e) z⟩, fun z => absurd z (by decide), fun z => absurd z (by decide), fun z => absurd z (by decide), fun z => absurd z (by decide), fun _ _ _ _ _ z _ _ _ _ => absurd rfl z⟩
    · refine ⟨cw_up (sp_mem I q u) 9 (sp_x (I 9) (nI a) (nI b) n), _, _, _, _, eL_act_0 ⟨_, _, fc_siblingCount hc, nk, nk, _, _, fc_cellCount hc, nn, _, _, fc_cellCount hc, ?_⟩, ps_own hh (sp_okw_x hI (sp_okw_nI ha) (sp_okw_nI hb) _), ps_own32⟩
      rw [d16, d128, d1024, d32768, dbig, d12, ra, rb, rf, sub, rt, r10, r3, nI_add]
      exact ⟨ns, fun z => absurd z (by decide), fun z => absurd z (by decide), fun z => absurd z (by decide), fun z => absurd z (by decide), fun z => absurd z (by decide), fun _ => ⟨fun z => absurd (eab.mp z) e, fun _ => ⟨_, _, fc_swapShares hc hq hq6 hu hu6 ha hb e, rfl, rfl⟩⟩, fun z => absurd z (by decide), fun z => absurd z (by decide), fun z => absurd z (by decide), fun z => absurd z (by decide), fun _ _ _ _ _ z _ _ _ _ => absurd rfl z⟩
  · refine ⟨cw_st (sp_mem I q u) 8 (a * 24 + f) (nI d), _, _, _, _, eL_act_0 ⟨_, _, fc_siblingCount hc, nk, nk, _, _, fc_cellCount hc, nn, _, _, fc_cellCount hc, ?_⟩, ps_setValue hh ha hf (by omega), ps_st32⟩
    rw [d16, d128, d1024, d32768, dbig, d12, ra, rb, rf, sub, rt, r10, r3, nI_add]
    exact ⟨ns, fun z => absurd z (by decide), fun z => absurd z (by decide), fun z => absurd z (by decide), fun z => absurd z (by decide), fun z => absurd z (by decide), fun z => absurd z (by decide), fun _ => ⟨_, _, fc_setValue hc hq hq6 hu hu6 ha hf (by omega), rfl, rfl⟩, fun z => absurd z (by decide), fun z => absurd z (by decide), fun z => absurd z (by decide), fun _ _ _ _ _ _ z _ _ _ => absurd rfl z⟩
  · refine ⟨cw_up (sp_mem I q u) 9 (sp_rb v n k n (I 9) a 0).1, _, _, _, _, eL_act_0 ⟨_, _, fc_siblingCount hc, nk, nk, _, _, fc_cellCount hc, nn, _, _, fc_cellCount hc, ?_⟩, ps_own hh (sp_okw_rb n (I 9) a 0 ha hI), ps_own32⟩
    rw [d16, d128, d1024, d32768, dbig, d12, ra, rb, rf, sub, rt, r10, r3, nI_add]
    exact ⟨ns, fun z => absurd z (by decide), fun z => absurd z (by decide), fun z => absurd z (by decide), fun z => absurd z (by decide), fun z => absurd z (by decide), fun z => absurd z (by decide), fun z => absurd z (by decide), fun _ => ⟨_, _, fc_roundRobin hc hq hq6 hu hu6 ha, rfl, rfl⟩, fun z => absurd z (by decide), fun z => absurd z (by decide), fun _ _ _ _ _ _ _ z _ _ => absurd rfl z⟩
  · obtain ⟨f17, f18, f19, hL⟩ := fc_envyCycleLength (K := K) hc ho ha
    cases e : sp_len (sp_w v ow n) k a with
    | none =>
      rw [e] at hL
      refine ⟨sp_cyI I f17 f18 f19, _, _, _, _, eL_act_0 ⟨_, _, fc_siblingCount hc, nk, nk, _, _, fc_cellCount hc, nn, _, _, fc_cellCount hc, ?_⟩, ps_cyI hh, ps_cyI32⟩
      rw [d16, d128, d1024, d32768, dbig, d12, ra, rb, rf, sub, rt, r10, r3, nI_add]
      exact ⟨ns, fun z => absurd z (by decide), fun z => absurd z (by decide), fun z => absurd z (by decide), fun z => absurd z (by decide), fun z => absurd z (by decide), fun z => absurd z (by decide), fun z => absurd z (by decide), fun z => absurd z (by decide), fun _ => ⟨_, _, hL, fun _ => ⟨rfl, rfl⟩, fun z => absurd (show sp_oi none ≤ 0 by decide) z⟩, fun z => absurd z (by decide), fun _ _ _ _ _ _ _ _ z _ => absurd rfl z⟩
    | some len =>
      rw [e] at hL
      have h9 := sp_len_spec e
      obtain ⟨J, j1, j2, j3⟩ := ps_rotate (K := K) (ps_cyI (f17 := f17) (f18 := f18) (f19 := f19) hh) ha e
      refine ⟨J, _, _, _, _, eL_act_0 ⟨_, _, fc_siblingCount hc, nk, nk, _, _, fc_cellCount hc, nn, _, _, fc_cellCount hc, ?_⟩, j2, (fun o ho => (j3 o ho).trans (ps_cyI32 o ho))⟩
      rw [d16, d128, d1024, d32768, dbig, d12, ra, rb, rf, sub, rt, r10, r3, nI_add]
      exact ⟨ns, fun z => absurd z (by decide), fun z => absurd z (by decide), fun z => absurd z (by decide), fun z => absurd z (by decide), fun z => absurd z (by decide), fun z => absurd z (by decide), fun z => absurd z (by decide), fun z => absurd z (by decide), fun _ => ⟨_, _, hL, fun z => absurd z (nI_nle (by omega) (by omega)), fun _ => ⟨_, _, j1, rfl, rfl⟩⟩, fun z => absurd z (by decide), fun _ _ _ _ _ _ _ _ z _ => absurd rfl z⟩
  · refine ⟨cw_up (sp_mem I q u) 9 (sp_kn v n k k 0 0 (I 9)), _, _, _, _, eL_act_0 ⟨_, _, fc_siblingCount hc, nk, nk, _, _, fc_cellCount hc, nn, _, _, fc_cellCount hc, ?_⟩, ps_own hh (sp_okw_kn k 0 0 (I 9) hI), ps_own32⟩
    rw [d16, d128, d1024, d32768, dbig, d12, ra, rb, rf, sub, rt, r10, r3, nI_add]
    exact ⟨ns, fun z => absurd z (by decide), fun z => absurd z (by decide), fun z => absurd z (by decide), fun z => absurd z (by decide), fun z => absurd z (by decide), fun z => absurd z (by decide), fun z => absurd z (by decide), fun z => absurd z (by decide), fun z => absurd z (by decide), fun _ => ⟨_, _, fc_movingKnife hc hk1 hq hq6 hu hu6, rfl, rfl⟩, fun _ _ _ _ _ _ _ _ _ z => absurd rfl z⟩
  · have hm : m < 3 := by rw [← e3]; exact Nat.mod_lt _ (by omega)
    by_cases e : a = b
    · refine ⟨I, _, _, _, _, eL_act_0 ⟨_, _, fc_siblingCount hc, nk, nk, _, _, fc_cellCount hc, nn, _, _, fc_cellCount hc, ?_⟩, hh, (fun _ _ => rfl)⟩
      rw [d16, d128, d1024, d32768, dbig, d12, ra, rb, rf, sub, rt, r10, r3, nI_add]
      exact ⟨ns, fun z => absurd z (by decide), fun z => absurd z (by decide), fun z => absurd z (by decide), fun z => absurd z (by decide), fun z => absurd z (by decide), fun z => absurd z (by decide), fun z => absurd z (by decide), fun z => absurd z (by decide), fun z => absurd z (by decide), fun z => absurd z (by decide), fun _ _ _ _ _ _ _ _ _ _ => ⟨fun _ => ⟨rfl, rfl⟩, fun z => absurd (eab.mpr e) z⟩⟩
    · by_cases e0 : m = 0
      · refine ⟨cw_up (sp_mem I q u) 9 (sp_dv v n a b (I 9)), _, _, _, _, eL_act_0 ⟨_, _, fc_siblingCount hc, nk, nk, _, _, fc_cellCount hc, nn, _, _, fc_cellCount hc, ?_⟩, ps_own hh (sp_okw_dv hI ha hb), ps_own32⟩
        rw [d16, d128, d1024, d32768, dbig, d12, ra, rb, rf, sub, rt, r10, r3, nI_add]
        exact ⟨ns, fun z => absurd z (by decide), fun z => absurd z (by decide), fun z => absurd z (by decide), fun z => absurd z (by decide), fun z => absurd z (by decide), fun z => absurd z (by decide), fun z => absurd z (by decide), fun z => absurd z (by decide), fun z => absurd z (by decide), fun z => absurd z (by decide), fun _ _ _ _ _ _ _ _ _ _ => ⟨fun z => absurd (eab.mp z) e, fun _ => ⟨fun z => absurd (by rw [e0]; rfl) z, fun _ => ⟨_, _, fc_divideAndChoose hc hq hq6 hu hu6 ha hb e, rfl, rfl⟩⟩⟩⟩
      · refine ⟨I, _, _, _, _, eL_act_0 ⟨_, _, fc_siblingCount hc, nk, nk, _, _, fc_cellCount hc, nn, _, _, fc_cellCount hc, ?_⟩, hh, (fun _ _ => rfl)⟩
        rw [d16, d128, d1024, d32768, dbig, d12, ra, rb, rf, sub, rt, r10, r3, nI_add]
        exact ⟨ns, fun z => absurd z (by decide), fun z => absurd z (by decide), fun z => absurd z (by decide), fun z => absurd z (by decide), fun z => absurd z (by decide), fun z => absurd z (by decide), fun z => absurd z (by decide), fun z => absurd z (by decide), fun z => absurd z (by decide), fun z => absurd z (by decide), fun _ _ _ _ _ _ _ _ _ _ => ⟨fun z => absurd (eab.mp z) e, fun _ => ⟨fun _ => ⟨rfl, rfl⟩, fun z => absurd ((nI_eq (a := m) (b := 0) (by omega) (by omega)).mp z) e0⟩⟩⟩
  · have hm : m < 3 := by rw [← e3]; exact Nat.mod_lt _ (by omega)
    by_cases e : a = b
    · refine ⟨I, _, _, _, _, eL_act_0 ⟨_, _, fc_siblingCount hc, nk, nk, _, _, fc_cellCount hc, nn, _, _, fc_cellCount hc, ?_⟩, hh, (fun _ _ => rfl)⟩
      rw [d16, d128, d1024, d32768, dbig, d12, ra, rb, rf, sub, rt, r10, r3, nI_add]
      exact ⟨ns, fun z => absurd z (by decide), fun z => absurd z (by decide), fun z => absurd z (by decide), fun z => absurd z (by decide), fun z => absurd z (by decide), fun z => absurd z (by decide), fun z => absurd z (by decide), fun z => absurd z (by decide), fun z => absurd z (by decide), fun z => absurd z (by decide), fun _ _ _ _ _ _ _ _ _ _ => ⟨fun _ => ⟨rfl, rfl⟩, fun z => absurd (eab.mpr e) z⟩⟩
    · by_cases e0 : m = 0
      · refine ⟨cw_up (sp_mem I q u) 9 (sp_dv v n a b (I 9)), _, _, _, _, eL_act_0 ⟨_, _, fc_siblingCount hc, nk, nk, _, _, fc_cellCount hc, nn, _, _, fc_cellCount hc, ?_⟩, ps_own hh (sp_okw_dv hI ha hb), ps_own32⟩
        rw [d16, d128, d1024, d32768, dbig, d12, ra, rb, rf, sub, rt, r10, r3, nI_add]
        exact ⟨ns, fun z => absurd z (by decide), fun z => absurd z (by decide), fun z => absurd z (by decide), fun z => absurd z (by decide), fun z => absurd z (by decide), fun z => absurd z (by decide), fun z => absurd z (by decide), fun z => absurd z (by decide), fun z => absurd z (by decide), fun z => absurd z (by decide), fun _ _ _ _ _ _ _ _ _ _ => ⟨fun z => absurd (eab.mp z) e, fun _ => ⟨fun z => absurd (by rw [e0]; rfl) z, fun _ => ⟨_, _, fc_divideAndChoose hc hq hq6 hu hu6 ha hb e, rfl, rfl⟩⟩⟩⟩
      · refine ⟨I, _, _, _, _, eL_act_0 ⟨_, _, fc_siblingCount hc, nk, nk, _, _, fc_cellCount hc, nn, _, _, fc_cellCount hc, ?_⟩, hh, (fun _ _ => rfl)⟩
        rw [d16, d128, d1024, d32768, dbig, d12, ra, rb, rf, sub, rt, r10, r3, nI_add]
        exact ⟨ns, fun z => absurd z (by decide), fun z => absurd z (by decide), fun z => absurd z (by decide), fun z => absurd z (by decide), fun z => absurd z (by decide), fun z => absurd z (by decide), fun z => absurd z (by decide), fun z => absurd z (by decide), fun z => absurd z (by decide), fun z => absurd z (by decide), fun _ _ _ _ _ _ _ _ _ _ => ⟨fun z => absurd (eab.mp z) e, fun _ => ⟨fun _ => ⟨rfl, rfl⟩, fun z => absurd ((nI_eq (a := m) (b := 0) (by omega) (by omega)).mp z) e0⟩⟩⟩
/-! isMildAll -/
theorem la_mild (h : ps n k v ow q u I) (hs : ∀ s o, s < k → o < k → ¬ sp_strong v ow n s o) : cw_C (cc_w K) mL_isMildAll [.ref (cw_a (cc_w K) 0)] I (some (.int 1)) I := by
  obtain ⟨hc, hn1, hk1, ho, hg, -⟩ := h
  have hk := hc.2.2.2.1
  have h0 : sp_strongs v ow n k k = 0 := sp_s_zero (fun s hs2 => sp_s_zero (fun o ho2 => if_neg (hs s o hs2 ho2)))
  have inner : ∀ a, a < k → bL_isMildAll_0_2 K (some (.int 1)) I (nI (a + 1)) I → ∀ d b, b + d = k → bL_isMildAll_0_12 K (some (.int 1)) I (nI a) (nI b) I := by
    intro a ha cont d
    induction d with
    | zero =>
      intro b hb
      obtain rfl : b = k := by omega
      exact tbL_isMildAll_0_12 ⟨_, _, fc_siblingCount hc, fun _ => by rw [nI_1]; exact cont, fun z => absurd (nI_le (Nat.le_refl _) (by omega)) z⟩
    | succ d ih =>
      intro b hb
      have h9 := ih (b + 1) (by omega)
      refine tbL_isMildAll_0_12 ⟨_, _, fc_siblingCount hc, fun z => absurd z (nI_ge (by omega) (by omega)), fun _ => ⟨_, _, fc_envies hc ho ha (show b < k by omega), ?_⟩⟩
      rw [nI_1]
      by_cases e : sp_envy v ow n a b
      · refine ⟨fun z => absurd z (by rw [if_pos e]; decide), fun _ => ⟨_, _, fc_isMild hc ho ha (show b < k by omega) e, fun _ => h9, fun z => absurd z ?_⟩⟩
        rw [if_pos (hs a b ha (by omega))]
        decide
      · exact ⟨fun _ => h9, fun z => absurd (if_neg e) z⟩
  have outer : ∀ d a, a + d = k → bL_isMildAll_0_2 K (some (.int 1)) I (nI a) I := by
    intro d
    induction d with
    | zero =>
      intro a ha
      obtain rfl : a = k := by omega
      refine tbL_isMildAll_0_2 ⟨_, _, fc_siblingCount hc, fun _ => ⟨_, _, fc_strongEnvyCount hc ho, ?_⟩, fun z => absurd (nI_le (Nat.le_refl _) (by omega)) z⟩
      rw [h0]
      exact ⟨fun z => absurd rfl z, fun _ => ⟨rfl, rfl⟩⟩
    | succ d ih =>
      intro a ha
      exact tbL_isMildAll_0_2 ⟨_, _, fc_siblingCount hc, fun z => absurd z (nI_ge (by omega) (by omega)), fun _ => inner a (by omega) (ih (a + 1) (by omega)) k 0 (by omega)⟩
  exact eL_isMildAll_0 (outer k 0 (by omega))
end ACT
