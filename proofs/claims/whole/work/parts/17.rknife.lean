/-! ## the reference's knife -/
/-- the reference's ints with other owners g, and a scratch row h at o -/
abbrev sp_M (J : cw_M) (g : Nat → Int32) (o : Nat) (h : Nat → Int32) : cw_M := cw_up (cw_up J 1 (sp_sh g (J 1))) o h
theorem sp_up_comm (J : cw_M) {o p : Nat} (hop : o ≠ p) (f g : Nat → Int32) : cw_up (cw_up J o f) p g = cw_up (cw_up J p g) o f := by
  funext q
  by_cases h1 : q = p
  · subst h1
    simp only [cw_up, if_true]
    rw [if_neg (Ne.symm hop)]
  · by_cases h2 : q = o
    · subst h2
      simp only [cw_up, if_true, if_neg h1]
    · simp only [cw_up, if_neg h1, if_neg h2]
theorem sp_rv.up {J : cw_M} {n k : Nat} {v : Nat → Nat → Nat} (h : sp_rv n k v J) {o : Nat} {f : Nat → Int32} (h1 : o ≠ 1) : sp_rv n k v (cw_up J o f) := by
  have e1 : cw_up J o f 1 = J 1 := by simp only [cw_up]; rw [if_neg (Ne.symm h1)]
  unfold sp_rv
  rw [e1]
  exact h
theorem sp_M_rv {J : cw_M} {n k : Nat} {v : Nat → Nat → Nat} (h : sp_rv n k v J) (g : Nat → Int32) {o : Nat} (ho : o ≠ 1) (h7 : Nat → Int32) : sp_rv n k v (sp_M J g o h7) := (h.sh g).up ho
theorem sp_M_1 (J : cw_M) (g : Nat → Int32) {o : Nat} (ho : o ≠ 1) (h7 : Nat → Int32) : (sp_M J g o h7) 1 = sp_sh g (J 1) := by
  show (if 1 = o then h7 else (if 1 = 1 then sp_sh g (J 1) else J 1)) = _
  rw [if_neg (Ne.symm ho), if_pos rfl]
theorem sp_M_ow (J : cw_M) (g : Nat → Int32) {o : Nat} (ho : o ≠ 1) (h7 : Nat → Int32) {c : Nat} (hc : c < 24) : (sp_M J g o h7) 1 (2 + c) = g c := by
  rw [sp_M_1 J g ho h7]
  show (if 2 ≤ 2 + c ∧ 2 + c < 26 then g (2 + c - 2) else _) = _
  rw [if_pos (by omega), Nat.add_sub_cancel_left]
theorem sp_M_o (J : cw_M) (g : Nat → Int32) (o : Nat) (h7 : Nat → Int32) : (sp_M J g o h7) o = h7 := by simp [sp_M, cw_up]
theorem sp_sh_put (f g : Nat → Int32) (x : Int32) {a e : Nat} (he : e ≤ 24) : sp_put (sp_sh g f) x (2 + a) (2 + e) = sp_sh (sp_put g x a e) f := by
  funext j
  unfold sp_put sp_sh
  by_cases h1 : 2 ≤ j ∧ j < 26
  · rw [if_pos h1, if_pos h1]
    show (if 2 + a ≤ j ∧ j < 2 + e then x else g (j - 2)) = (if a ≤ j - 2 ∧ j - 2 < e then x else g (j - 2))
    by_cases h2 : a ≤ j - 2 ∧ j - 2 < e
    · rw [if_pos h2, if_pos (by omega)]
    · rw [if_neg h2, if_neg (by omega)]
  · rw [if_neg h1, if_neg h1, if_neg (by omega)]
theorem sp_M_put (J : cw_M) (g : Nat → Int32) {o : Nat} (ho : o ≠ 1) (h7 : Nat → Int32) (x : Int32) {a e : Nat} (he : e ≤ 24) : cw_up (sp_M J g o h7) 1 (sp_put ((sp_M J g o h7) 1) x (2 + a) (2 + e)) = sp_M J (sp_put g x a e) o h7 := by
  rw [sp_M_1 J g ho h7, sp_sh_put _ _ _ he]
  show cw_up (cw_up (cw_up J 1 (sp_sh g (J 1))) o h7) 1 _ = _
  rw [sp_up_comm _ ho, sp_upup]
section CLR
variable {K : cw_K} {J : cw_M} {n k : Nat} {v : Nat → Nat → Nat}
theorem sl_clear (h : sp_rv n k v J) (g : Nat → Int32) : ∀ d i : Nat, i + d = n → bX11_clear_0_2 K none (cw_up J 1 (sp_sh (sp_put g (-1) 0 n) (J 1))) (nI i) (cw_up J 1 (sp_sh (sp_put g (-1) 0 i) (J 1))) := by
  have hn := h.2.2.1
  intro d
  induction d with
  | zero =>
    intro i hi
    have e : i = n := by omega
    rw [e]
    exact tbX11_clear_0_2 (br_t (by rw [(h.sh _).1]; exact nI_le (Nat.le_refl _) (by omega)) ⟨rfl, rfl⟩)
  | succ d ih =>
    intro i hi
    have h1 := ih (i + 1) (by omega)
    refine tbX11_clear_0_2 (br_f (by rw [(h.sh _).1]; exact nI_ge (by omega) (by omega)) ?_)
    rw [sp_ix2, nI_clamp (by omega), nI_1, sp_sh_st J _ (by omega)]
    have e : upd (sp_put g (-1) 0 i) i (-1) = sp_put g (-1) 0 (i + 1) := by
      funext j
      unfold upd sp_put
      by_cases hj : j = i
      · subst hj; rw [if_pos rfl, if_pos (by omega)]
      · rw [if_neg hj]
        by_cases h2 : 0 ≤ j ∧ j < i
        · rw [if_pos h2, if_pos (by omega)]
        · rw [if_neg h2, if_neg (by omega)]
    rw [e]
    exact ⟨vp_in_nI (by omega) (by omega), h1⟩
theorem sr_clear (h : sp_rv n k v J) : cw_C (cr_w K) mX11_clear [.ref (cw_a (cr_w K) 0)] J none (cw_up J 1 (sp_sh (sp_put (fun c => J 1 (2 + c)) (-1) 0 n) (J 1))) := by
  have h1 := sl_clear (K := K) h (fun c => J 1 (2 + c)) n 0 (by omega)
  rw [sp_put_nil, sp_sh_self] at h1
  exact eX11_clear_0 h1
/-- the mark that goes with the best so far -/
def sp_om (n : Nat) (g : Nat → Nat) : Option Nat → Int32
  | none => nI n - 1
  | some b => nI (g b)
theorem sl_rknife2 (h : sp_rv n k v J) {S a w : Nat} (hS : S < 64) (hb : ∀ i, i < 6 → J 7 i = if sp_un S i then 0 else 1) (ha : a < n) (hw : w + 1 ≤ 24) {r : Option Value} {J9 : cw_M} {t : Nat} (ht : sp_fc S (sp_g v n a (w + 1)) k = some t) (hout : bX11_knife_0_63 K r J9 (nI a) (nI (w + 1)) (nI t) (nI (sp_g v n a (w + 1) t)) (nI k) J) : ∀ d i : Nat, i + d = k → bX11_knife_0_63 K r J9 (nI a) (nI (w + 1)) (sp_oi (sp_fc S (sp_g v n a (w + 1)) i)) (sp_om n (sp_g v n a (w + 1)) (sp_fc S (sp_g v n a (w + 1)) i)) (nI i) J := by
  have hn := h.2.2.1
  have hk := h.2.2.2.1
  have gl : ∀ i, sp_g v n a (w + 1) i < n := by
    intro i
    show (if w + 1 = 1 then n - 1 else sp_mk v n i a (w + 1)) < n
    split
    · omega
    · exact (sp_mk_lt ha).2
  intro d
  induction d with
  | zero =>
    intro i hi
    have : i = k := by omega
    subst this
    rw [ht]
    exact hout
  | succ d ih =>
    intro i hi
    have h1 := ih (i + 1) (by omega)
    have e : sp_fc S (sp_g v n a (w + 1)) (i + 1) = if sp_un S i = true ∧ sp_fc.sp_lt (sp_g v n a (w + 1)) (sp_fc S (sp_g v n a (w + 1)) i) i = true then some i else sp_fc S (sp_g v n a (w + 1)) i := rfl
    have key : sp_un S i = true → ∀ x : Int32, x = nI (sp_g v n a (w + 1) i) → ((sp_oi (sp_fc S (sp_g v n a (w + 1)) i) = -1 → bX11_knife_0_63 K r J9 (nI a) (nI (w + 1)) (nI i) x (nI i + 1) J) ∧ (¬ sp_oi (sp_fc S (sp_g v n a (w + 1)) i) = -1 → ((x < sp_om n (sp_g v n a (w + 1)) (sp_fc S (sp_g v n a (w + 1)) i) → bX11_knife_0_63 K r J9 (nI a) (nI (w + 1)) (nI i) x (nI i + 1) J) ∧ (¬ x < sp_om n (sp_g v n a (w + 1)) (sp_fc S (sp_g v n a (w + 1)) i) → bX11_knife_0_63 K r J9 (nI a) (nI (w + 1)) (sp_oi (sp_fc S (sp_g v n a (w + 1)) i)) (sp_om n (sp_g v n a (w + 1)) (sp_fc S (sp_g v n a (w + 1)) i)) (nI i + 1) J)))) := by
      intro hu x hx
      subst hx
      rw [nI_1]
      cases hf : sp_fc S (sp_g v n a (w + 1)) i with
      | none =>
        rw [hf, if_pos ⟨hu, rfl⟩] at e
        rw [e] at h1
        exact ⟨fun _ => h1, fun z => absurd rfl z⟩
      | some b =>
        have hbl := (sp_fc_lt hf).1
        have g1 := gl i
        have g2 := gl b
        refine ⟨fun z => absurd z (sp_nI_ne b (by omega)), fun _ => ⟨fun q => ?_, fun q => ?_⟩⟩
        · have q2 : sp_g v n a (w + 1) i < sp_g v n a (w + 1) b := (nI_ltI (by omega) (by omega)).mp q
          rw [hf, if_pos ⟨hu, decide_eq_true q2⟩] at e
          rw [e] at h1
          exact h1
        · have q2 : ¬ sp_g v n a (w + 1) i < sp_g v n a (w + 1) b := fun z => q (nI_lt z (by omega))
          rw [hf, if_neg (fun z => q2 (of_decide_eq_true z.2))] at e
          rw [e] at h1
          exact h1
    refine tbX11_knife_0_63 (br_f (by rw [h.2.1]; exact nI_ge (by omega) (by omega)) ⟨vp_in_nI (by omega) (by omega), ?_⟩)
    rw [nI_clamp (by omega), hb i (by omega), h.1]
    refine ⟨fun q => ⟨fun q1 => ?_, fun q1 => ?_⟩, fun q => ?_⟩
    · have hu : sp_un S i = true := by
        cases z : sp_un S i with
        | true => rfl
        | false => rw [z] at q; exact absurd q (by decide)
      have hw0 : ¬ w = 0 := fun z => q1 (by rw [z]; rfl)
      have hg : sp_g v n a (w + 1) i = sp_mk v n i a (w + 1) := by
        show (if w + 1 = 1 then _ else _) = _
        rw [if_neg (by omega)]
      exact ⟨_, _, sr_markOf h (show i < k by omega) ha (by omega) hw, key hu _ (by rw [hg])⟩
    · have hu : sp_un S i = true := by
        cases z : sp_un S i with
        | true => rfl
        | false => rw [z] at q; exact absurd q (by decide)
      have hw0 : w + 1 = 1 := (nI_eq (b := 1) (by omega) (by omega)).mp q1
      have hg : sp_g v n a (w + 1) i = n - 1 := by
        show (if w + 1 = 1 then _ else _) = _
        rw [if_pos hw0]
      exact key hu _ (by rw [hg]; exact sp_sub (b := 1) (by omega))
    · have hu : ¬ sp_un S i = true := fun z => by rw [z] at q; exact q rfl
      rw [e, if_neg (fun z => hu z.1)] at h1
      rw [nI_1]
      exact h1
theorem sl_rknife (h : sp_rv n k v J) (hn1 : 1 ≤ n) : ∀ (w S a : Nat) (g h7 : Nat → Int32), S < 64 → (∀ i, i < 6 → h7 i = if sp_un S i then 0 else 1) → sp_wt k S = w → a ≤ n → ∃ h9 : Nat → Int32, bX11_knife_0_34 K (some (.int (nI (sp_n (fun s => sp_fair v (sp_kn v n k w S a g) n k s) k)))) (sp_M J (sp_kn v n k w S a g) 7 h9) (nI a) (nI w) (sp_M J g 7 h7) := by
  have hn := h.2.2.1
  have hk := h.2.2.2.1
  have fin : ∀ (g h7 : Nat → Int32), cw_C (cr_w K) mX11_contentCount [.ref (cw_a (cr_w K) 0)] (sp_M J g 7 h7) (some (.int (nI (sp_n (fun s => sp_fair v g n k s) k)))) (sp_M J g 7 h7) := fun g h7 => sr_contentCount (sp_M_rv h g (by decide) h7) hn1 (fun c hc => sp_M_ow J g (by decide) h7 (by omega))
  intro w
  induction w with
  | zero =>
    intro S a g h7 hS hb hw ha
    exact ⟨h7, tbX11_knife_0_34 (br_t (by decide) ⟨_, _, fin g h7, rfl, rfl⟩)⟩
  | succ w ih =>
    intro S a g h7 hS hb hw ha
    have hwk : sp_wt k S ≤ k := sp_n_le
    have hJ := sp_M_rv h g (o := 7) (by decide) h7
    by_cases hna : n ≤ a
    · refine ⟨h7, ?_⟩
      rw [sp_kn_end hna]
      exact tbX11_knife_0_34 (br_f (fun z => absurd ((nI_leI (b := 0) (by omega) (by omega)).mp z) (by omega)) (br_t (by rw [hJ.1]; exact nI_le hna (by omega)) ⟨_, _, fin g h7, rfl, rfl⟩))
    · obtain ⟨t, ht⟩ := sp_fc_some (g := sp_g v n a (w + 1)) (show 1 ≤ sp_wt k S by omega)
      obtain ⟨htk, htS⟩ := sp_fc_lt ht
      obtain ⟨-, b2, b3⟩ := sp_set6 S hS t (by omega)
      have hw2 := sp_wt_set k (by omega) S hS t htk htS
      have gl : a ≤ sp_g v n a (w + 1) t ∧ sp_g v n a (w + 1) t < n := by
        show a ≤ (if w + 1 = 1 then n - 1 else sp_mk v n t a (w + 1)) ∧ (if w + 1 = 1 then n - 1 else sp_mk v n t a (w + 1)) < n
        split
        · omega
        · exact sp_mk_lt (by omega)
      have hstep : sp_kn v n k (w + 1) S a g = sp_kn v n k w (S ||| 2 ^ t) (sp_g v n a (w + 1) t + 1) (sp_put g (nI t) a (sp_g v n a (w + 1) t + 1)) := by
        show (if n ≤ a then g else match sp_fc S (sp_g v n a (w + 1)) k with | none => g | some t => _) = _
        rw [if_neg hna, ht]
      obtain ⟨h9, h1⟩ := ih (S ||| 2 ^ t) (sp_g v n a (w + 1) t + 1) (sp_put g (nI t) a (sp_g v n a (w + 1) t + 1)) (upd h7 t 1) b2 (fun i hi => by
        unfold upd
        have e9 : sp_un (S ||| 2 ^ t) i = !(S.testBit i || decide (i = t)) := by unfold sp_un; rw [b3 i hi]
        rw [e9]
        by_cases q : i = t
        · rw [if_pos q, decide_eq_true q, Bool.or_true]; rfl
        · rw [if_neg q, decide_eq_false q, Bool.or_false, hb i hi]; rfl) (by omega) (by omega)
      rw [hstep]
      refine ⟨h9, tbX11_knife_0_34 (br_f (fun z => absurd ((nI_leI (b := 0) (by omega) (by omega)).mp z) (by omega)) (br_f (by rw [hJ.1]; exact nI_ge (by omega) (by omega)) ?_))⟩
      have hb2 : ∀ i, i < 6 → (sp_M J g 7 h7) 7 i = if sp_un S i then 0 else 1 := fun i hi => by rw [sp_M_o]; exact hb i hi
      have h2 := sl_rknife2 (K := K) hJ hS hb2 (show a < n by omega) (show w + 1 ≤ 24 by omega) (r := some (.int (nI (sp_n (fun s => sp_fair v (sp_kn v n k w (S ||| 2 ^ t) (sp_g v n a (w + 1) t + 1) (sp_put g (nI t) a (sp_g v n a (w + 1) t + 1))) n k s) k)))) (J9 := sp_M J (sp_kn v n k w (S ||| 2 ^ t) (sp_g v n a (w + 1) t + 1) (sp_put g (nI t) a (sp_g v n a (w + 1) t + 1))) 7 h9) ht ?_ k 0 (by omega)
      · rw [hJ.1]
        exact h2
      · refine tbX11_knife_0_63 (br_t (by rw [hJ.2.1]; exact nI_le (Nat.le_refl _) (by omega)) ?_)
        have hown := sr_own (K := K) (J := sp_M J g 7 h7) (x := nI t) (a := a) (e := sp_g v n a (w + 1) t + 1) (by omega) (by omega)
        rw [show nI (sp_g v n a (w + 1) t + 1) - 1 = nI (sp_g v n a (w + 1) t) from nI_pred _, sp_M_put J g (by decide) h7 (nI t) (by omega)] at hown
        refine ⟨_, hown, vp_in_nI (by omega) (by omega), ?_⟩
        rw [nI_clamp (by omega), nI_1, sp_dec]
        have e7 : cw_st (sp_M J (sp_put g (nI t) a (sp_g v n a (w + 1) t + 1)) 7 h7) 7 t (vp_nar .boolean 1) = sp_M J (sp_put g (nI t) a (sp_g v n a (w + 1) t + 1)) 7 (upd h7 t 1) := by
          show cw_up (sp_M J _ 7 h7) 7 (upd ((sp_M J _ 7 h7) 7) t 1) = _
          rw [sp_M_o, sp_upup]
        rw [e7]
        exact h1
theorem sl_rknife0 (h : sp_rv n k v J) {r : Option Value} {J9 : cw_M} (g f : Nat → Int32) (hout : bX11_knife_0_34 K r J9 0 (nI k) (sp_M J g 7 (sp_put f 0 0 6))) : ∀ d i : Nat, i + d = 6 → bX11_knife_0_6 K r J9 (nI i) (sp_M J g 7 (sp_put f 0 0 i)) := by
  intro d
  induction d with
  | zero =>
    intro i hi
    have e : i = 6 := by omega
    subst e
    refine tbX11_knife_0_6 (br_t (by decide) ?_)
    rw [(sp_M_rv h g (o := 7) (by decide) (sp_put f 0 0 6)).2.1]
    exact hout
  | succ d ih =>
    intro i hi
    have h1 := ih (i + 1) (by omega)
    refine tbX11_knife_0_6 (br_f (nI_ge (b := 6) (by omega) (by omega)) ⟨vp_in_nI (by omega) (by omega), ?_⟩)
    rw [nI_1, nI_clamp (by omega)]
    have e7 : cw_st (sp_M J g 7 (sp_put f 0 0 i)) 7 i (vp_nar .boolean 0) = sp_M J g 7 (sp_put f 0 0 (i + 1)) := by
      show cw_up (sp_M J g 7 _) 7 (upd ((sp_M J g 7 _) 7) i 0) = _
      rw [sp_M_o, sp_upup]
      congr 1
      funext j
      unfold upd sp_put
      by_cases hj : j = i
      · subst hj; rw [if_pos rfl, if_pos (by omega)]
      · rw [if_neg hj]
        by_cases h2 : 0 ≤ j ∧ j < i
        · rw [if_pos h2, if_pos (by omega)]
        · rw [if_neg h2, if_neg (by omega)]
    rw [e7]
    exact h1
theorem sr_knife (h : sp_rv n k v J) (hn1 : 1 ≤ n) : ∃ h9 : Nat → Int32, cw_C (cr_w K) mX11_knife [.ref (cw_a (cr_w K) 0)] J (some (.int (nI (sp_n (fun s => sp_fair v (sp_kn v n k k 0 0 (sp_put (fun c => J 1 (2 + c)) (-1) 0 n)) n k s) k)))) (sp_M J (sp_kn v n k k 0 0 (sp_put (fun c => J 1 (2 + c)) (-1) 0 n)) 7 h9) := by
  have hk := h.2.2.2.1
  obtain ⟨h9, h1⟩ := sl_rknife (K := K) h hn1 k 0 0 (sp_put (fun c => J 1 (2 + c)) (-1) 0 n) (sp_put (J 7) 0 0 6) (by omega) (fun i hi => by
    unfold sp_put
    rw [if_pos (by omega)]
    have : sp_un 0 i = true := by simp [sp_un]
    rw [this]; rfl) (sp_wt0 k (by omega)) (Nat.zero_le n)
  refine ⟨h9, eX11_knife_0 ⟨_, sr_clear h, ?_⟩⟩
  have h2 := sl_rknife0 (K := K) h (sp_put (fun c => J 1 (2 + c)) (-1) 0 n) (J 7) h1 6 0 (by omega)
  rw [sp_put_nil] at h2
  have e : sp_M J (sp_put (fun c => J 1 (2 + c)) (-1) 0 n) 7 (J 7) = cw_up J 1 (sp_sh (sp_put (fun c => J 1 (2 + c)) (-1) 0 n) (J 1)) := by
    have e7 : (cw_up J 1 (sp_sh (sp_put (fun c => J 1 (2 + c)) (-1) 0 n) (J 1))) 7 = J 7 := by simp [cw_up]
    show cw_up (cw_up J 1 _) 7 (J 7) = _
    rw [← e7, sp_upself]
  rw [e] at h2
  exact h2
end CLR
