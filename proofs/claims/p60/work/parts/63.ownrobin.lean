/-! ## the law's cake: robin -/
def pl_fv (f : Nat → Nat) (ow : Nat → Int32) (n c : Nat) : Option Nat → Prop
  | none => ∀ j, c ≤ j → j < n → ¬ ow j = -1
  | some b => c ≤ b ∧ b < n ∧ ow b = -1 ∧ ∀ j, c ≤ j → j < n → ow j = -1 → f j ≤ f b ∧ (f j = f b → b ≤ j)
theorem pl_fv_spec (f : Nat → Nat) (ow : Nat → Int32) : ∀ n, pl_fv f ow n 0 (sp_fv f ow n)
  | 0 => fun j _ hj => by omega
  | n + 1 => by
    have h := pl_fv_spec f ow n
    show pl_fv f ow (n + 1) 0 (if ow n = -1 ∧ sp_bt f (sp_fv f ow n) n = true then some n else sp_fv f ow n)
    cases e : sp_fv f ow n with
    | none =>
      rw [e] at h
      by_cases q : ow n = -1
      · rw [if_pos ⟨q, rfl⟩]
        refine ⟨Nat.zero_le _, Nat.lt_succ_self n, q, fun j h0 hj hf => ?_⟩
        by_cases e2 : j = n
        · subst e2
          exact ⟨Nat.le_refl _, fun _ => Nat.le_refl _⟩
        · exact absurd hf (h j h0 (by omega))
      · rw [if_neg (fun z => q z.1)]
        intro j h0 hj hf
        by_cases e2 : j = n
        · subst e2
          exact q hf
        · exact h j h0 (by omega) hf
    | some b =>
      rw [e] at h
      obtain ⟨-, h2, h3, h4⟩ := h
      by_cases q : ow n = -1 ∧ f b < f n
      · rw [if_pos ⟨q.1, by show decide (f b < f n) = true; exact decide_eq_true q.2⟩]
        refine ⟨Nat.zero_le _, Nat.lt_succ_self n, q.1, fun j h0 hj hf => ?_⟩
        by_cases e2 : j = n
        · subst e2
          exact ⟨Nat.le_refl _, fun _ => Nat.le_refl _⟩
        · have h5 := (h4 j h0 (by omega) hf).1
          exact ⟨by omega, fun z => by omega⟩
      · rw [if_neg (fun z => q ⟨z.1, of_decide_eq_true (show decide (f b < f n) = true from z.2)⟩)]
        refine ⟨Nat.zero_le _, by omega, h3, fun j h0 hj hf => ?_⟩
        by_cases e2 : j = n
        · subst e2
          have : ¬ f b < f j := fun z => q ⟨hf, z⟩
          exact ⟨by omega, fun _ => by omega⟩
        · exact h4 j h0 (by omega) hf
theorem pl_fv_eq {f : Nat → Nat} {ow : Nat → Int32} {n : Nat} {o p : Option Nat} (ho : pl_fv f ow n 0 o) (hp : pl_fv f ow n 0 p) : o = p := by
  cases o with
  | none =>
    cases p with
    | none => rfl
    | some b => exact absurd hp.2.2.1 (ho b (Nat.zero_le _) hp.2.1)
  | some a =>
    cases p with
    | none => exact absurd ho.2.2.1 (hp a (Nat.zero_le _) ho.2.1)
    | some b =>
      obtain ⟨-, a2, a3, a4⟩ := ho
      obtain ⟨-, b2, b3, b4⟩ := hp
      have h1 := a4 b (Nat.zero_le _) b2 b3
      have h2 := b4 a (Nat.zero_le _) a2 a3
      have h3 := h1.2 (by omega)
      have h4 := h2.2 (by omega)
      have : a = b := by omega
      rw [this]
theorem pl_m1 : ¬ (0 : Int32) ≤ -1 := by decide
/-- a cell less is free -/
theorem pl_cnt_upd {f : Nat → Int32} {x : Int32} (hx : ¬ x = -1) {c : Nat} (hf : f c = -1) : ∀ n, c < n → sp_cnt (upd f c x) (-1) n + 1 = sp_cnt f (-1) n := by
  have low : ∀ m, m ≤ c → sp_cnt (upd f c x) (-1) m = sp_cnt f (-1) m := fun m hm => sp_s_congr (fun j hj => by rw [pk_un (by omega)])
  intro n
  induction n with
  | zero => intro h; omega
  | succ n ih =>
    intro h
    show sp_cnt (upd f c x) (-1) n + (if upd f c x n = -1 then 1 else 0) + 1 = sp_cnt f (-1) n + (if f n = -1 then 1 else 0)
    by_cases e : n = c
    · subst e
      rw [low n (Nat.le_refl _), pk_us, if_neg hx, if_pos hf]
    · rw [pk_un e, ← ih (by omega)]
      omega
theorem pl_cnt_none {f : Nat → Int32} {n : Nat} (h : sp_cnt f (-1) n = 0) : ∀ j, j < n → ¬ f j = -1 := by
  induction n with
  | zero => intro j hj; omega
  | succ n ih =>
    have h' : sp_cnt f (-1) n + (if f n = -1 then 1 else 0) = 0 := h
    intro j hj
    by_cases e : j = n
    · subst e
      intro z
      rw [if_pos z] at h'
      omega
    · exact ih (by omega) j (by omega)
section PLR
variable {K : cw_K} {I : cw_M} {n k : Nat} {v : Nat → Nat → Nat} {ow : Nat → Int32}
theorem pl_robinI (h : pl_v n k v I) (ho : ∀ c, c < n → I 40 c = ow c) (hg : ∀ c, c < n → sp_okw k (ow c)) {t : Nat} (ht : t < k) {r : Option Value} {J0 : cw_M} {x2 x3 : Int32} (hk : bX11_robin_32_23 K r J0 x2 x3 (sp_oi (sp_fv (v t) ow n)) (nI t) (-1) I) : ∀ c (o : Option Nat), c ≤ n → pl_fv (v t) ow n c o → bX11_robin_32_23 K r J0 x2 x3 (sp_oi o) (nI t) (nI c + (-1)) I := by
  obtain ⟨h1, h2, hn, hk6, hd, hv⟩ := h
  intro c
  induction c with
  | zero =>
    intro o _ ho2
    rw [pl_fv_eq ho2 (pl_fv_spec (v t) ow n)]
    exact hk
  | succ c ih =>
    intro o hc ho2
    rw [pk_m1]
    refine tbX11_robin_32_23 (br_f (nI_pos (by omega)) ⟨vp_in_nI (by omega) (by omega), ?_⟩)
    rw [nI_clamp (show c < 2 ^ 31 by omega), nI_clamp (show t < 2 ^ 31 by omega), ho c (by omega), hv t c ht (by omega)]
    have dc := hd t c ht (by omega)
    rcases hg c (by omega) with e | ⟨s, hs, e⟩
    · rw [e]
      refine br_f pl_m1 ?_
      cases o with
      | none =>
        refine br_t (show (-1 : Int32) < 0 by decide) (ih (some c) (by omega) ⟨Nat.le_refl _, by omega, e, fun j h0 hj hf => ?_⟩)
        by_cases e2 : j = c
        · subst e2
          exact ⟨Nat.le_refl _, fun _ => Nat.le_refl _⟩
        · exact absurd hf (ho2 j (by omega) hj)
      | some b =>
        obtain ⟨b1, b2, b3, b4⟩ := ho2
        have db := hd t b ht b2
        refine br_f (show ¬ nI b < 0 from nI_pos (by omega)) ⟨vp_in_nI (by omega) (by omega), vp_in_nI (by omega) (by omega), vp_in_nI (by omega) (by omega), show vp_in (nI b) 24 from vp_in_nI (by omega) (by omega), ?_⟩
        rw [show (sp_oi (some b)).toNatClampNeg = b from nI_clamp (by omega), hv t b ht b2]
        refine ⟨fun q => ?_, fun q => ?_⟩
        · have q1 := (nI_ltI (by omega) (by omega)).mp q
          refine ih (some b) (by omega) ⟨by omega, b2, b3, fun j h0 hj hf => ?_⟩
          by_cases e2 : j = c
          · subst e2
            exact ⟨by omega, fun z => by omega⟩
          · exact b4 j (by omega) hj hf
        · have q1 : ¬ v t c < v t b := fun z => q (nI_lt z (by omega))
          refine ih (some c) (by omega) ⟨Nat.le_refl _, by omega, e, fun j h0 hj hf => ?_⟩
          by_cases e2 : j = c
          · subst e2
            exact ⟨Nat.le_refl _, fun _ => Nat.le_refl _⟩
          · have h9 := (b4 j (by omega) hj hf).1
            exact ⟨by omega, fun z => by omega⟩
    · rw [e]
      refine br_t (nI_pos' (by omega)) (ih o (by omega) ?_)
      cases o with
      | none =>
        intro j h0 hj hf
        by_cases e2 : j = c
        · subst e2
          rw [e] at hf
          exact sp_nI_ne s (by omega) hf
        · exact ho2 j (by omega) hj hf
      | some b =>
        obtain ⟨b1, b2, b3, b4⟩ := ho2
        refine ⟨by omega, b2, b3, fun j h0 hj hf => ?_⟩
        by_cases e2 : j = c
        · subst e2
          rw [e] at hf
          exact absurd hf (sp_nI_ne s (by omega))
        · exact b4 j (by omega) hj hf
theorem pl_nx {k t T : Nat} (hk : 1 ≤ k) (h : T % k = t) : (T + 1) % k = sp_nx k t := by
  have h1 : (T + 1) % k = (t + 1) % k := by
    rw [← h, Nat.mod_add_mod]
  have ht : t < k := by
    rw [← h]
    exact Nat.mod_lt _ (by omega)
  rw [h1]
  unfold sp_nx
  by_cases q : t + 1 < k
  · rw [if_pos q, Nat.mod_eq_of_lt q]
  · rw [if_neg q, show t + 1 = k by omega, Nat.mod_self]
theorem pl_robinL {I0 : cw_M} (h : pl_v n k v I0) (hk1 : 1 ≤ k) : ∀ d (f : Nat → Int32) (t T m : Nat), sp_cnt f (-1) n ≤ d → T % k = t → T + d ≤ 1000 → m + d ≤ 1000 → (∀ c, c < n → sp_okw k (f c)) → bX11_robin_32_4 K (some (.int (nI (sp_rb v n k d f t m).2))) (cw_up I0 40 (sp_rb v n k d f t m).1) (nI m) (nI T) (cw_up I0 40 f) := by
  have hn := h.2.2.1
  have hk6 := h.2.2.2.1
  have hv2 : ∀ f, pl_v n k v (cw_up I0 40 f) := fun f => h.up (by decide) (by decide)
  intro d
  induction d with
  | zero =>
    intro f t T m hc hT hT2 hm hg
    have ht : t < k := by rw [← hT]; exact Nat.mod_lt _ (by omega)
    have hI := hv2 f
    refine tbX11_robin_32_4 ⟨?_, ?_⟩
    · rw [hI.2.1]; exact nI_ne0 (by omega) (by omega)
    · rw [hI.2.1, hI.1, pk_rem (by omega) (by omega) (by omega), hT, Int32.sub_eq_add_neg]
      refine pl_robinI hI (fun c _ => by simp [cw_up]) hg ht ?_ n none (Nat.le_refl n) (fun j h1 h2 => by omega)
      have e : sp_fv (v t) f n = none := by
        cases e : sp_fv (v t) f n with
        | none => rfl
        | some c =>
          have h9 := sp_fv_lt e
          exact absurd h9.2 (pl_cnt_none (by omega) c h9.1)
      rw [e]
      exact tbX11_robin_32_23 (br_t (by decide) (br_f pl_m1 ⟨rfl, rfl⟩))
  | succ d ih =>
    intro f t T m hc hT hT2 hm hg
    have ht : t < k := by rw [← hT]; exact Nat.mod_lt _ (by omega)
    have hI := hv2 f
    refine tbX11_robin_32_4 ⟨?_, ?_⟩
    · rw [hI.2.1]; exact nI_ne0 (by omega) (by omega)
    · rw [hI.2.1, hI.1, pk_rem (by omega) (by omega) (by omega), hT, Int32.sub_eq_add_neg]
      refine pl_robinI hI (fun c _ => by simp [cw_up]) hg ht ?_ n none (Nat.le_refl n) (fun j h1 h2 => by omega)
      cases e : sp_fv (v t) f n with
      | none =>
        have e1 : sp_rb v n k (d + 1) f t m = (f, m) := by
          show (match sp_fv (v t) f n with | none => (f, m) | some c => _) = _
          rw [e]
        rw [e1]
        exact tbX11_robin_32_23 (br_t (by decide) (br_f pl_m1 ⟨rfl, rfl⟩))
      | some c =>
        have h9 := sp_fv_lt e
        have e1 : sp_rb v n k (d + 1) f t m = sp_rb v n k d (upd f c (nI t)) (sp_nx k t) (m + 1) := by
          show (match sp_fv (v t) f n with | none => (f, m) | some c => _) = _
          rw [e]
        rw [e1]
        have hne := sp_nI_ne t (by omega)
        have h10 := pl_cnt_upd hne h9.2 n h9.1
        have h11 := ih (upd f c (nI t)) (sp_nx k t) (T + 1) (m + 1) (by omega) (pl_nx hk1 hT) (by omega) (by omega) (fun j hj => by
          by_cases q : j = c
          · subst q
            rw [pk_us]
            exact Or.inr ⟨t, ht, rfl⟩
          · rw [pk_un q]
            exact hg j hj)
        refine tbX11_robin_32_23 (br_t (by decide) (br_t (show (0 : Int32) ≤ nI c from nI_pos' (by omega)) ⟨show vp_in (nI c) 24 from vp_in_nI (by omega) (by omega), ?_⟩))
        rw [nI_1, nI_1]
        have e2 : cw_st (cw_up I0 40 f) 40 (sp_oi (some c)).toNatClampNeg (nI t) = cw_up I0 40 (upd f c (nI t)) := by
          show cw_up (cw_up I0 40 f) 40 (upd ((cw_up I0 40 f) 40) (nI c).toNatClampNeg (nI t)) = _
          rw [nI_clamp (by omega), sp_upup]
          congr 1
        rw [e2]
        exact h11
theorem pl_robin (h : pl_v n k v I) (hk1 : 1 ≤ k) (hg : ∀ c, c < n → sp_okw k (I 40 c)) {t : Nat} (ht : t < k) : cw_C (cp_w K) mX11_robin [.ref (cw_a (cp_w K) 32), .int (nI t)] I (some (.int (nI (sp_rb v n k n (I 40) t 0).2))) (cw_up I 40 (sp_rb v n k n (I 40) t 0).1) := by
  have hn := h.2.2.1
  have hk6 := h.2.2.2.1
  refine eX11_robin_32 ?_
  have h1 := pl_robinL (K := K) h hk1 n (I 40) t t 0 sp_n_le (Nat.mod_eq_of_lt ht) (by omega) (by omega) hg
  have e : cw_up I 40 (I 40) = I := by
    funext q
    by_cases hq : q = 40
    · subst hq
      simp [cw_up]
    · simp [cw_up, hq]
  rw [e] at h1
  exact h1
end PLR
