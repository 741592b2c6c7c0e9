/-! ## envy cycles: the reference, the cycle and the turn -/
theorem sp_f1_first {P : Nat → Bool} {k t : Nat} (h : sp_f1 P k = some t) {j : Nat} (hj : j < t) : P j = false := by
  have h1 := (sp_f1_lt h).1
  have h2 : sp_f1 P t = none := by
    cases q : sp_f1 P t with
    | none => rfl
    | some b =>
      have h3 := sp_f1_keep (show t ≤ k by omega) q
      rw [h] at h3
      have h4 := (sp_f1_lt q).1
      have : t = b := Option.some.inj h3
      omega
  exact sp_f1_none h2 j hj
theorem sp_cy_inj {w : Nat → Nat → Nat} {k st len : Nat} (hst : st < k) (hk : k ≤ 6) (h : sp_len w k st = some len) {p q : Nat} (hp : p < q) (hq : q < len) : sp_cy w k st len p ≠ sp_cy w k st len q := by
  intro z
  have h1 := (sp_cy_spec hst hk h q hq).2.1 (by omega)
  by_cases y : p = 0
  · subst y
    rw [← z] at h1
    have h2 : sp_D w k st (k - 1) (sp_cy w k st len 0) = 0 := sp_D_st _
    omega
  · have h2 := (sp_cy_spec hst hk h p (by omega)).2.1 (by omega)
    rw [z] at h2
    omega
theorem sp_turn : ∀ len, len < 7 → 1 ≤ len → ∀ p, p < len → ((nI p + nI len) - 1) - ((nI p + nI len) - 1) / nI len * nI len = nI ((p + len - 1) % len) := by decide +kernel
section RCT
variable {K : cw_K} {J : cw_M} {n k : Nat} {v : Nat → Nat → Nat} {ow : Nat → Int32}
theorem sr_hasEnvyE (h : sp_rv n k v J) (ho : ∀ c, c < n → J 1 (2 + c) = ow c) {a b : Nat} (ha : a < k) : cw_C (cr_w K) mX11_hasEnvy [.ref (cw_a (cr_w K) 0), .int (nI a), .int (nI b)] J (some (.int (if sp_E (sp_w v ow n) a b then 1 else 0))) J := by
  have hcall := sr_hasEnvy (K := K) h ho (o := b) ha
  have hE : (if sp_envy v ow n a b then (1 : Int32) else 0) = if sp_E (sp_w v ow n) a b then 1 else 0 := by
    by_cases z : sp_envy v ow n a b
    · rw [if_pos z, if_pos (decide_eq_true z)]
    · rw [if_neg z, if_neg (by rw [show sp_E (sp_w v ow n) a b = false from decide_eq_false z]; decide)]
  rw [hE] at hcall
  exact hcall
theorem sl_rfind36 (h : sp_rv n k v J) (ho : ∀ c, c < n → J 1 (2 + c) = ow c) {st len q : Nat} (hst : st < k) (hl : sp_len (sp_w v ow n) k st = some len) (hq : q + 1 < len) (h5 : ∀ j, j < k → J 5 j = sp_oi (sp_T (sp_w v ow n) k st k j)) (h6 : J 6 q = nI (sp_cy (sp_w v ow n) k st len q)) {r : Option Value} {J9 : cw_M} (hout : bX11_findCycle_0_28 K r J9 (nI st) (nI len) (nI (q + 1 + 1)) (cw_st J 6 (q + 1) (nI (sp_cy (sp_w v ow n) k st len (q + 1))))) : ∀ e b : Nat, b + e = sp_cy (sp_w v ow n) k st len (q + 1) → bX11_findCycle_0_36 K r J9 (nI st) (nI len) (nI (q + 1)) (nI b) J := by
  have hk := h.2.2.2.1
  obtain ⟨b1, b2, -⟩ := sp_len_spec hl
  obtain ⟨c1, -, c3⟩ := sp_cy_spec hst hk hl q (by omega)
  have c4 := c3 hq
  obtain ⟨c5, c6⟩ := sp_f1_lt c4
  simp only [Bool.and_eq_true] at c6
  have c7 : sp_D (sp_w v ow n) k st (k - 1) (sp_cy (sp_w v ow n) k st len (q + 1)) = len - (q + 1) := of_decide_eq_true c6.1
  have hsub : nI len - nI (q + 1) = nI (len - (q + 1)) := sp_sub (by omega)
  have hT : ∀ b, b < k → b ≠ st → (J 5 b = nI (len - (q + 1)) ↔ sp_D (sp_w v ow n) k st (k - 1) b = len - (q + 1)) := by
    intro b hb hbs
    rw [h5 b hb, sp_oi_some (by omega) (fun e he => by have := sp_T_le he; omega), sp_T_at (by omega) hk (by omega) (by omega) hbs]
  intro e
  induction e with
  | zero =>
    intro b hb
    have e0 : b = sp_cy (sp_w v ow n) k st len (q + 1) := by omega
    have hbs : b ≠ st := fun z => by
      rw [← e0, z, sp_D_st] at c7
      omega
    have hbk : b < k := by omega
    have hD : J 5 b = nI (len - (q + 1)) := (hT b hbk hbs).mpr (by rw [e0]; exact c7)
    refine tbX11_findCycle_0_36 ⟨fun z => absurd ((nI_eq (by omega) (by omega)).mp z) hbs, fun _ => ⟨vp_in_nI (by omega) (by omega), ?_⟩⟩
    rw [nI_clamp (by omega), hD, hsub, show nI (q + 1) - 1 = nI q from nI_pred q, nI_clamp (by omega), nI_clamp (by omega), h6, show nI (q + 1) + 1 = nI (q + 1 + 1) from nI_1 (q + 1)]
    refine ⟨fun z => absurd rfl z, fun _ => ⟨vp_in_nI (by omega) (by omega), _, _, sr_hasEnvyE h ho c1, fun _ => ⟨vp_in_nI (by omega) (by omega), ?_⟩, fun z => ?_⟩⟩
    · rw [e0]
      exact hout
    · have := sp_bit0 z
      rw [e0] at this
      exact absurd c6.2 this
  | succ e ih =>
    intro b hb
    have hbk : b < k := by omega
    have hP := sp_f1_first c4 (show b < sp_cy (sp_w v ow n) k st len (q + 1) by omega)
    have h1 := ih (b + 1) (by omega)
    refine tbX11_findCycle_0_36 ⟨fun _ => ?_, fun z => ⟨vp_in_nI (by omega) (by omega), ?_⟩⟩
    · rw [nI_1]
      exact h1
    · have hbs : b ≠ st := fun y => z (by rw [y])
      rw [nI_clamp (by omega), hsub, show nI (q + 1) - 1 = nI q from nI_pred q, nI_clamp (by omega), h6, show nI b + 1 = nI (b + 1) from nI_1 b]
      refine ⟨fun _ => h1, fun z2 => ⟨vp_in_nI (by omega) (by omega), _, _, sr_hasEnvyE h ho c1, fun z3 => ?_, fun _ => h1⟩⟩
      have y1 := (hT b hbk hbs).mp z2
      have y2 := sp_bit1 z3
      simp only [y1, decide_true, Bool.true_and] at hP
      rw [hP] at y2
      cases y2
theorem sl_rfind28 {J1 : cw_M} (h : sp_rv n k v J1) (ho : ∀ c, c < n → J1 1 (2 + c) = ow c) {st len : Nat} (hst : st < k) (hl : sp_len (sp_w v ow n) k st = some len) (h5 : ∀ j, j < k → J1 5 j = sp_oi (sp_T (sp_w v ow n) k st k j)) (f : Nat → Int32) : ∀ e q : Nat, q + 1 + e = len → bX11_findCycle_0_28 K (some (.int (nI len))) (cw_up J1 6 (sp_row (sp_cy (sp_w v ow n) k st len) len f)) (nI st) (nI len) (nI (q + 1)) (cw_up J1 6 (sp_row (sp_cy (sp_w v ow n) k st len) (q + 1) f)) := by
  have hk := h.2.2.2.1
  obtain ⟨b1, b2, -⟩ := sp_len_spec hl
  intro e
  induction e with
  | zero =>
    intro q hq
    have e0 : q + 1 = len := by omega
    rw [e0]
    exact tbX11_findCycle_0_28 ⟨fun _ => ⟨rfl, rfl⟩, fun z => absurd (nI_le (Nat.le_refl _) (by omega)) z⟩
  | succ e ih =>
    intro q hq
    have hJ : sp_rv n k v (cw_up J1 6 (sp_row (sp_cy (sp_w v ow n) k st len) (q + 1) f)) := h.up (by decide)
    have e9 : cw_st (cw_up J1 6 (sp_row (sp_cy (sp_w v ow n) k st len) (q + 1) f)) 6 (q + 1) (nI (sp_cy (sp_w v ow n) k st len (q + 1))) = cw_up J1 6 (sp_row (sp_cy (sp_w v ow n) k st len) (q + 1 + 1) f) := by
      show cw_up (cw_up J1 6 _) 6 (upd ((cw_up J1 6 (sp_row (sp_cy (sp_w v ow n) k st len) (q + 1) f)) 6) (q + 1) _) = _
      rw [sp_upup, show (cw_up J1 6 (sp_row (sp_cy (sp_w v ow n) k st len) (q + 1) f)) 6 = sp_row (sp_cy (sp_w v ow n) k st len) (q + 1) f by simp [cw_up], sp_row_upd]
    have h1 := ih (q + 1) (by omega)
    rw [← e9] at h1
    have h6 : (cw_up J1 6 (sp_row (sp_cy (sp_w v ow n) k st len) (q + 1) f)) 6 q = nI (sp_cy (sp_w v ow n) k st len q) := by
      show sp_row (sp_cy (sp_w v ow n) k st len) (q + 1) f q = _
      unfold sp_row
      rw [if_pos (by omega)]
    exact tbX11_findCycle_0_28 ⟨fun z => absurd ((nI_leI (by omega) (by omega)).mp z) (by omega), fun _ => sl_rfind36 hJ (fun c hc => ho c hc) hst hl (by omega) (fun j hj => h5 j hj) h6 h1 (sp_cy (sp_w v ow n) k st len (q + 1)) 0 (Nat.zero_add _)⟩
/-- the reference's rows behind a search for a cycle -/
abbrev sp_cyJ (J : cw_M) (f5 f6 : Nat → Int32) : cw_M := cw_up (cw_up J 5 f5) 6 f6
theorem sr_findCycle (h : sp_rv n k v J) (ho : ∀ c, c < n → J 1 (2 + c) = ow c) {st : Nat} (hst : st < k) : ∃ f5 f6 : Nat → Int32, (∀ len, sp_len (sp_w v ow n) k st = some len → ∀ p, p < len → f6 p = nI (sp_cy (sp_w v ow n) k st len p)) ∧ cw_C (cr_w K) mX11_findCycle [.ref (cw_a (cr_w K) 0), .int (nI st)] J (some (.int (sp_oi (sp_len (sp_w v ow n) k st)))) (sp_cyJ J f5 f6) := by
  have hk := h.2.2.2.1
  have hJ1 : sp_rv n k v (cw_up J 5 (sp_wk v ow n k st (J 5))) := h.up (by decide)
  have h5 : ∀ j, j < k → (cw_up J 5 (sp_wk v ow n k st (J 5))) 5 j = sp_oi (sp_T (sp_w v ow n) k st k j) := fun j hj => by
    show sp_wk v ow n k st (J 5) j = _
    unfold sp_wk sp_rw
    rw [if_pos hj]
  have hst5 := h5 st hst
  rw [sp_T_len (by omega) hk] at hst5
  have hwk := sr_walkTo (K := K) h ho hst
  cases hl : sp_len (sp_w v ow n) k st with
  | none =>
    refine ⟨sp_wk v ow n k st (J 5), J 6, fun len z => by (cases z), ?_⟩
    have e17 : sp_cyJ J (sp_wk v ow n k st (J 5)) (J 6) = cw_up J 5 (sp_wk v ow n k st (J 5)) := by
      have : J 6 = (cw_up J 5 (sp_wk v ow n k st (J 5))) 6 := rfl
      rw [this]
      exact sp_upself _ 6
    rw [e17]
    rw [hl] at hst5
    refine eX11_findCycle_0 ⟨_, hwk, vp_in_nI (by omega) (by omega), ?_⟩
    rw [nI_clamp (by omega), hst5]
    exact ⟨fun z => absurd rfl z, fun _ => ⟨rfl, rfl⟩⟩
  | some len =>
    obtain ⟨b1, b2, -⟩ := sp_len_spec hl
    refine ⟨sp_wk v ow n k st (J 5), sp_row (sp_cy (sp_w v ow n) k st len) len (J 6), fun len2 z p hp => ?_, ?_⟩
    · cases z
      unfold sp_row
      rw [if_pos hp]
    · rw [hl] at hst5
      have hst6 : (cw_up J 5 (sp_wk v ow n k st (J 5))) 5 st = nI len := hst5
      have hloop := sl_rfind28 (K := K) hJ1 (fun c hc => ho c hc) hst hl h5 (J 6) (len - 1) 0 (by omega)
      refine eX11_findCycle_0 ⟨_, hwk, vp_in_nI (by omega) (by omega), ?_⟩
      rw [nI_clamp (by omega), hst6]
      refine ⟨fun _ => ?_, fun z => absurd z (sp_nI_ne len (by omega))⟩
      have e9 : cw_st (cw_up J 5 (sp_wk v ow n k st (J 5))) 6 0 (nI st) = cw_up (cw_up J 5 (sp_wk v ow n k st (J 5))) 6 (sp_row (sp_cy (sp_w v ow n) k st len) 1 (J 6)) := by
        show cw_up _ 6 (upd (J 6) 0 (nI st)) = _
        have := sp_row_upd (sp_cy (sp_w v ow n) k st len) 0 (J 6)
        rw [sp_row_0] at this
        rw [show st = sp_cy (sp_w v ow n) k st len 0 from rfl, this]
        rfl
      rw [e9]
      exact hloop
/-- who owns behind the first i members what o owned -/
def sp_ri (w : Nat → Nat → Nat) (k st len : Nat) (o : Int32) (i : Nat) : Int32 := match sp_f1 (fun p => decide (nI (sp_cy w k st len p) = o)) i with
  | none => o
  | some p => nI (sp_cy w k st len ((p + len - 1) % len))
theorem sl_rturn28 {J1 : cw_M} (h : sp_rv n k v J1) {w : Nat → Nat → Nat} {st len : Nat} (hst : st < k) (hl : sp_len w k st = some len) (h6 : ∀ p, p < len → J1 6 p = nI (sp_cy w k st len p)) (g : Nat → Int32) {c : Nat} (hc : c < n) {r : Option Value} {J9 : cw_M} (hout : bX11_turnCycle_0_8 K r J9 (nI len) (nI (c + 1)) (cw_up J1 1 (sp_sh (upd g c (sp_ro w k st len (g c))) (J1 1)))) : ∀ e i : Nat, i + e = len → bX11_turnCycle_0_28 K r J9 (nI len) (nI c) (g c) (nI i) (cw_up J1 1 (sp_sh (upd g c (sp_ri w k st len (g c) i)) (J1 1))) := by
  have hk := h.2.2.2.1
  have hn := h.2.2.1
  obtain ⟨b1, b2, -⟩ := sp_len_spec hl
  intro e
  induction e with
  | zero =>
    intro i hi
    have e0 : i = len := by omega
    rw [e0]
    refine tbX11_turnCycle_0_28 ⟨fun _ => ?_, fun z => absurd (nI_le (Nat.le_refl _) (by omega)) z⟩
    rw [nI_1]
    exact hout
  | succ e ih =>
    intro i hi
    have h1 := ih (i + 1) (by omega)
    have hs := sp_f1_succ (fun p => decide (nI (sp_cy w k st len p) = g c)) i
    have hck : ∀ p, p < len → sp_cy w k st len p < 2 ^ 31 := fun p hp => by
      have := (sp_cy_spec hst hk hl p hp).1
      omega
    refine tbX11_turnCycle_0_28 ⟨fun z => absurd ((nI_leI (by omega) (by omega)).mp z) (by omega), fun _ => ⟨vp_in_nI (by omega) (by omega), ?_⟩⟩
    have h6i : (cw_up J1 1 (sp_sh (upd g c (sp_ri w k st len (g c) i)) (J1 1))) 6 (nI i).toNatClampNeg = nI (sp_cy w k st len i) := by
      rw [nI_clamp (by omega)]
      exact h6 i (by omega)
    have hm : (i + len - 1) % len < len := Nat.mod_lt _ (by omega)
    have h6m : (cw_up J1 1 (sp_sh (upd g c (sp_ri w k st len (g c) i)) (J1 1))) 6 (nI ((i + len - 1) % len)).toNatClampNeg = nI (sp_cy w k st len ((i + len - 1) % len)) := by
      rw [nI_clamp (by omega)]
      exact h6 _ hm
    rw [h6i, sp_turn len (by omega) (by omega) i (by omega), h6m, nI_1]
    refine ⟨fun q => ?_, fun q => ⟨nI_ne0 (by omega) (by omega), vp_in_nI (by omega) (by omega), ?_⟩⟩
    · have e1 : sp_ri w k st len (g c) (i + 1) = sp_ri w k st len (g c) i := by
        unfold sp_ri
        rw [hs]
        cases z : sp_f1 (fun p => decide (nI (sp_cy w k st len p) = g c)) i with
        | some p => rfl
        | none => rw [decide_eq_false q]; rfl
      rw [e1] at h1
      exact h1
    · have e1 : sp_ri w k st len (g c) (i + 1) = nI (sp_cy w k st len ((i + len - 1) % len)) := by
        unfold sp_ri
        rw [hs]
        cases z : sp_f1 (fun p => decide (nI (sp_cy w k st len p) = g c)) i with
        | some p =>
          obtain ⟨y1, y2⟩ := sp_f1_lt z
          have y3 : nI (sp_cy w k st len p) = g c := of_decide_eq_true y2
          exact absurd ((nI_eq (hck p (by omega)) (hck i (by omega))).mp (y3.trans q.symm)) (sp_cy_inj hst hk hl y1 (by omega))
        | none => rw [decide_eq_true q]; rfl
      rw [e1] at h1
      rw [sp_ix2]
      refine ⟨vp_in_nI (by omega) (by omega), ?_⟩
      rw [nI_clamp (by omega), sp_sh_st J1 _ (by omega)]
      have e2 : ∀ x y : Int32, upd (upd g c x) c y = upd g c y := fun x y => by
        funext j
        unfold upd
        by_cases z : j = c
        · rw [if_pos z, if_pos z]
        · rw [if_neg z, if_neg z, if_neg z]
      rw [e2]
      exact h1
theorem sl_rturn8 {J1 : cw_M} (h : sp_rv n k v J1) {w : Nat → Nat → Nat} {st len : Nat} (hst : st < k) (hl : sp_len w k st = some len) (h6 : ∀ p, p < len → J1 6 p = nI (sp_cy w k st len p)) (f : Nat → Int32) : ∀ e c : Nat, c + e = n → bX11_turnCycle_0_8 K (some (.int (nI len))) (cw_up J1 1 (sp_sh (sp_mp (sp_ro w k st len) f n) (J1 1))) (nI len) (nI c) (cw_up J1 1 (sp_sh (sp_mp (sp_ro w k st len) f c) (J1 1))) := by
  have hn := h.2.2.1
  intro e
  induction e with
  | zero =>
    intro c hc
    have e0 : c = n := by omega
    rw [e0]
    have hJ := h.sh (sp_mp (sp_ro w k st len) f n)
    exact tbX11_turnCycle_0_8 ⟨fun _ => ⟨rfl, rfl⟩, fun z => absurd (by rw [hJ.1]; exact nI_le (Nat.le_refl _) (by omega)) z⟩
  | succ e ih =>
    intro c hc
    have hJ := h.sh (sp_mp (sp_ro w k st len) f c)
    have ho2 : ∀ j, j < n → (cw_up J1 1 (sp_sh (sp_mp (sp_ro w k st len) f c) (J1 1))) 1 (2 + j) = sp_mp (sp_ro w k st len) f c j := fun j hj => sp_sh_at J1 _ (by omega)
    refine tbX11_turnCycle_0_8 ⟨fun z => absurd (by rw [hJ.1] at z; exact (nI_leI (by omega) (by omega)).mp z) (by omega), fun _ => ⟨_, _, sr_ownerOf hn ho2 (show c < n by omega), ?_⟩⟩
    have h1 := ih (c + 1) (by omega)
    rw [← sp_mp_upd, ← sp_mp_at (sp_ro w k st len) f c] at h1
    have h2 := sl_rturn28 (K := K) h hst hl h6 (sp_mp (sp_ro w k st len) f c) (show c < n by omega) h1 len 0 (by omega)
    have e3 : upd (sp_mp (sp_ro w k st len) f c) c (sp_ri w k st len (sp_mp (sp_ro w k st len) f c c) 0) = sp_mp (sp_ro w k st len) f c := by
      funext j
      unfold upd
      by_cases z : j = c
      · subst z
        rw [if_pos rfl]
        rfl
      · rw [if_neg z]
    rw [e3] at h2
    exact h2
theorem sr_turnCycle (h : sp_rv n k v J) (ho : ∀ c, c < n → J 1 (2 + c) = ow c) {st len : Nat} (hst : st < k) (hl : sp_len (sp_w v ow n) k st = some len) : ∃ f5 f6 : Nat → Int32, cw_C (cr_w K) mX11_turnCycle [.ref (cw_a (cr_w K) 0), .int (nI st)] J (some (.int (nI len))) (cw_up (sp_cyJ J f5 f6) 1 (sp_sh (sp_mp (sp_ro (sp_w v ow n) k st len) (fun c => J 1 (2 + c)) n) (J 1))) := by
  obtain ⟨f5, f6, h6, hc⟩ := sr_findCycle (K := K) h ho hst
  rw [hl] at hc
  refine ⟨f5, f6, eX11_turnCycle_0 ⟨_, _, hc, ?_⟩⟩
  have hJ : sp_rv n k v (sp_cyJ J f5 f6) := (h.up (o := 5) (f := f5) (by decide)).up (by decide)
  have h1 := sl_rturn8 (K := K) (J1 := sp_cyJ J f5 f6) hJ hst hl (fun p hp => by show f6 p = _; exact h6 len hl p hp) (fun c => J 1 (2 + c)) n 0 (by omega)
  rw [sp_mp_0] at h1
  have e1 : cw_up (sp_cyJ J f5 f6) 1 (sp_sh (fun c => J 1 (2 + c)) ((sp_cyJ J f5 f6) 1)) = sp_cyJ J f5 f6 := sp_sh_self (sp_cyJ J f5 f6)
  rw [e1] at h1
  exact h1
end RCT
