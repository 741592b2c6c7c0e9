/-! ## the face: changes, the reference -/
theorem sp_cb_low (f : Nat → Int32) {a b j : Nat} (hb : 1 ≤ b) (hj : j < 212) : sp_cb f a b j = f j := by
  unfold sp_cb sp_cbp
  rw [if_neg (by omega)]
theorem sp_shf_low (f : Nat → Int32) {j : Nat} (hj : j < 212) : ∀ i, sp_shf f i j = f j
  | 0 => rfl
  | i + 1 => by
    show sp_cb (sp_shf f i) (i + 2) (i + 1) j = f j
    rw [sp_cb_low _ (by omega) hj, sp_shf_low f hj i]
/-- the reference's ints with the cake remembered; u: how many could be undone before -/
def sp_rem (J : cw_M) (u : Nat) : cw_M := if u < 6 then cw_up (cw_st J 0 2 (nI (u + 1))) 1 (sp_cb (J 1) 0 (u + 1)) else cw_up (cw_st J 0 2 6) 1 (sp_cb (sp_shf (J 1) 5) 0 6)
theorem sp_rem_low (J : cw_M) (u : Nat) {j : Nat} (hj : j < 212) : (sp_rem J u) 1 j = J 1 j := by
  unfold sp_rem
  by_cases z : u < 6
  · rw [if_pos z]
    show sp_cb (J 1) 0 (u + 1) j = _
    exact sp_cb_low _ (by omega) hj
  · rw [if_neg z]
    show sp_cb (sp_shf (J 1) 5) 0 6 j = _
    rw [sp_cb_low _ (by omega) hj, sp_shf_low _ hj]
theorem sp_rem_rv {J : cw_M} {n k u : Nat} {v : Nat → Nat → Nat} (h : sp_rv n k v J) : sp_rv n k v (sp_rem J u) := by
  obtain ⟨h1, h2, h3, h4, h5, h6⟩ := h
  exact ⟨by rw [sp_rem_low J u (by omega)]; exact h1, by rw [sp_rem_low J u (by omega)]; exact h2, h3, h4, h5, fun s c hs hc => by rw [sp_rem_low J u (by omega)]; exact h6 s c hs hc⟩
section CHGR
variable {K : cw_K} {J : cw_M} {n k u : Nat} {v : Nat → Nat → Nat}
theorem sr_remember (hu : J 0 2 = nI u) (hu6 : u ≤ 6) : cw_C (cr_w K) mX11_remember [.ref (cw_a (cr_w K) 0), .int (nI 0)] J none (sp_rem J u) := by
  unfold sp_rem
  by_cases z : u < 6
  · rw [if_pos z]
    exact sr_remember0 hu z
  · rw [if_neg z]
    have e : u = 6 := by omega
    subst e
    exact sr_remember6 hu
/-- the ints behind 'thrown 0' and 'remember' -/
abbrev sp_R (J : cw_M) (u : Nat) : cw_M := sp_rem (cw_st J 0 9 0) u
theorem sp_R_rv (h : sp_rv n k v J) : sp_rv n k v (sp_R J u) := sp_rem_rv (h.st0 9 0)
theorem sr_R (hu : J 0 2 = nI u) (hu6 : u ≤ 6) : cw_C (cr_w K) mX11_remember [.ref (cw_a (cr_w K) 0), .int 0] (cw_st J 0 9 0) none (sp_R J u) := sr_remember (J := cw_st J 0 9 0) hu hu6
theorem fr_movingKnife (h : sp_rv n k v J) (hn1 : 1 ≤ n) (hu : J 0 2 = nI u) (hu6 : u ≤ 6) : ∃ h9 : Nat → Int32, cw_C (cr_w K) mX11_movingKnife [.ref (cw_a (cr_w K) 0)] J (some (.int (nI (sp_n (fun s => sp_fair v (sp_kn v n k k 0 0 (sp_put (fun c => (sp_R J u) 1 (2 + c)) (-1) 0 n)) n k s) k)))) (sp_M (sp_R J u) (sp_kn v n k k 0 0 (sp_put (fun c => (sp_R J u) 1 (2 + c)) (-1) 0 n)) 7 h9) := by
  obtain ⟨h9, h1⟩ := sr_knife (K := K) (sp_R_rv (u := u) h) hn1
  exact ⟨h9, eX11_movingKnife_0 ⟨_, sr_R hu hu6, _, _, h1, rfl, rfl⟩⟩
theorem fr_roundRobin (h : sp_rv n k v J) (hu : J 0 2 = nI u) (hu6 : u ≤ 6) {t : Nat} (ht : t < k) : cw_C (cr_w K) mX11_roundRobin [.ref (cw_a (cr_w K) 0), .int (nI t)] J (some (.int (nI (sp_rb v n k n (fun c => (sp_R J u) 1 (2 + c)) t 0).2))) (cw_up (sp_R J u) 1 (sp_sh (sp_rb v n k n (fun c => (sp_R J u) 1 (2 + c)) t 0).1 ((sp_R J u) 1))) := by
  have hk := h.2.2.2.1
  exact eX11_roundRobin_0 ⟨_, _, sr_isSibling h, fun _ => ⟨_, _, sr_fails0, fun _ => ⟨_, sr_R hu hu6, _, _, sr_robin (sp_R_rv h) ht, rfl, rfl⟩, fun q => absurd rfl q⟩, fun q => fp_no hk ht (sp_bit0 q)⟩
theorem fx_roundRobin (h : sp_rv n k v J) {x : Int32} (hx : ¬ (0 ≤ x ∧ x < nI k)) : cw_C (cr_w K) mX11_roundRobin [.ref (cw_a (cr_w K) 0), .int x] J (some (.int 0)) (cw_st J 0 9 1) :=
  eX11_roundRobin_0 ⟨_, _, sr_isSibling h, fun q => absurd (sp_bit1 q) hx, fun _ => ⟨_, _, sr_fails1, fun q => absurd q (by decide), fun _ => ⟨rfl, rfl⟩⟩⟩
end CHGR
