/-! ## what the changes do, in numbers: no envy behind a choice, nothing free behind a robin, mild behind a robin of all, the ring -/
/-- the worth of a row of two runs -/
theorem mt_two {v : Nat → Nat → Nat} {s c n : Nat} {x y o : Int32} {f : Nat → Int32} (hc : c ≤ n) : sp_own v (fun j => if j < c then x else if j < n then y else f j) s o n = (if x = o then sp_s (v s) c else 0) + (if y = o then sp_run v s c (n - c) else 0) := by
  have h := pl_cat (sp_o v (fun j => if j < c then x else if j < n then y else f j) s o) c (n - c)
  rw [show c + (n - c) = n by omega] at h
  show sp_s (sp_o v (fun j => if j < c then x else if j < n then y else f j) s o) n = _
  rw [← h]
  have e1 : sp_s (sp_o v (fun j => if j < c then x else if j < n then y else f j) s o) c = (if x = o then sp_s (v s) c else 0) := by
    by_cases q : x = o
    · rw [if_pos q]
      refine sp_s_congr fun j hj => ?_
      show (if (if j < c then x else if j < n then y else f j) = o then v s j else 0) = _
      rw [if_pos hj, if_pos q]
    · rw [if_neg q]
      refine sp_s_zero fun j hj => ?_
      show (if (if j < c then x else if j < n then y else f j) = o then v s j else 0) = _
      rw [if_pos hj, if_neg q]
  have e2 : sp_s (fun j => sp_o v (fun j => if j < c then x else if j < n then y else f j) s o (c + j)) (n - c) = (if y = o then sp_run v s c (n - c) else 0) := by
    by_cases q : y = o
    · rw [if_pos q]
      refine sp_s_congr fun j hj => ?_
      show (if (if c + j < c then x else if c + j < n then y else f (c + j)) = o then v s (c + j) else 0) = _
      rw [if_neg (show ¬ c + j < c by omega), if_pos (show c + j < n by omega), if_pos q]
    · rw [if_neg q]
      refine sp_s_zero fun j hj => ?_
      show (if (if c + j < c then x else if c + j < n then y else f (c + j)) = o then v s (c + j) else 0) = _
      rw [if_neg (show ¬ c + j < c by omega), if_pos (show c + j < n by omega), if_neg q]
  rw [e1, e2]
/-- who chose doesn't envy who cut -/
theorem mt_dv {v : Nat → Nat → Nat} {n a b : Nat} {f : Nat → Int32} (ha : a < 6) (hb : b < 6) (hab : a ≠ b) : ¬ sp_envy v (sp_dv v n a b f) n b a := by
  have hc := sp_ct_le (v := v) (n := n) (s := a) n
  have hne : ¬ nI a = nI b := fun e => hab ((nI_eq (by omega) (by omega)).mp e)
  have hne2 : ¬ nI b = nI a := fun e => hne e.symm
  have hr : sp_run v b 0 (sp_ct v n a n) = sp_s (v b) (sp_ct v n a n) := pl_run0 v b _
  unfold sp_dv
  show ¬ sp_own v _ b (nI b) n < sp_own v _ b (nI a) n
  rw [mt_two hc, mt_two hc]
  by_cases q : sp_tl v n b (sp_ct v n a n)
  · have q2 : sp_run v b (sp_ct v n a n) (n - sp_ct v n a n) ≤ sp_run v b 0 (sp_ct v n a n) := q
    simp only [if_pos q, if_pos, if_neg hne, if_neg hne2]
    omega
  · have q2 : ¬ sp_run v b (sp_ct v n a n) (n - sp_ct v n a n) ≤ sp_run v b 0 (sp_ct v n a n) := q
    simp only [if_neg q, if_pos, if_neg hne, if_neg hne2]
    omega
/-- a robin takes all that is free -/
theorem mt_rb {v : Nat → Nat → Nat} {n k : Nat} (hk : k ≤ 6) : ∀ d (f : Nat → Int32) (t m : Nat), t < k → sp_cnt f (-1) n ≤ d → (sp_rb v n k d f t m).2 = m + sp_cnt f (-1) n ∧ sp_cnt (sp_rb v n k d f t m).1 (-1) n = 0
  | 0, f, t, m, _, h => ⟨by show m = m + _; omega, by show sp_cnt f (-1) n = 0; omega⟩
  | d + 1, f, t, m, ht, h => by
    cases e : sp_fv (v t) f n with
    | none =>
      have e1 : sp_rb v n k (d + 1) f t m = (f, m) := by
        show (match sp_fv (v t) f n with | none => (f, m) | some c => _) = _
        rw [e]
      have h9 := pl_fv_spec (v t) f n
      rw [e] at h9
      have e0 : sp_cnt f (-1) n = 0 := sp_s_zero fun j hj => by rw [if_neg (h9 j (Nat.zero_le _) hj)]
      rw [e1]
      exact ⟨by show m = m + _; omega, e0⟩
    | some c =>
      have h9 := sp_fv_lt e
      have e1 : sp_rb v n k (d + 1) f t m = sp_rb v n k d (upd f c (nI t)) (sp_nx k t) (m + 1) := by
        show (match sp_fv (v t) f n with | none => (f, m) | some c => _) = _
        rw [e]
      have h10 := pl_cnt_upd (sp_nI_ne t (by omega)) h9.2 n h9.1
      have hnx : sp_nx k t < k := by unfold sp_nx; split <;> omega
      have h11 := mt_rb (v := v) (n := n) hk d (upd f c (nI t)) (sp_nx k t) (m + 1) hnx (by omega)
      rw [e1]
      exact ⟨by rw [h11.1]; omega, h11.2⟩
theorem mt_all {f : Nat → Int32} {n : Nat} (h : ∀ j, j < n → f j = -1) : sp_cnt f (-1) n = n := by
  induction n with
  | zero => rfl
  | succ n ih =>
    show sp_cnt f (-1) n + (if f n = -1 then 1 else 0) = n + 1
    rw [ih (fun j hj => h j (by omega)), if_pos (h n (by omega))]
/-- what a cell more adds -/
theorem mt_upd {v : Nat → Nat → Nat} {f : Nat → Int32} {s c : Nat} {x o : Int32} (hf : f c = -1) (ho : ¬ o = -1) : ∀ n, c < n → sp_own v (upd f c x) s o n = sp_own v f s o n + (if x = o then v s c else 0) := by
  have low : ∀ m, m ≤ c → sp_own v (upd f c x) s o m = sp_own v f s o m := fun m hm => sp_s_congr (fun j hj => by unfold sp_o; rw [pk_un (by omega)])
  intro n
  induction n with
  | zero => intro h; omega
  | succ n ih =>
    intro h
    show sp_own v (upd f c x) s o n + sp_o v (upd f c x) s o n = sp_own v f s o n + sp_o v f s o n + _
    by_cases e : n = c
    · subst e
      rw [low n (Nat.le_refl _)]
      unfold sp_o
      have hm : ¬ (-1 : Int32) = o := fun z => ho z.symm
      rw [pk_us, hf, if_neg hm]
      omega
    · rw [ih (by omega)]
      have e2 : sp_o v (upd f c x) s o n = sp_o v f s o n := by unfold sp_o; rw [pk_un e]
      rw [e2]
      omega
theorem mt_max {f : Nat → Nat} : ∀ {m j : Nat}, j < m → f j ≤ sp_max f m
  | 0, j, h => by omega
  | m + 1, j, h => by
    show f j ≤ max (sp_max f m) (f m)
    by_cases q : j = m
    · subst q; exact Nat.le_max_right _ _
    · exact Nat.le_trans (mt_max (show j < m by omega)) (Nat.le_max_left _ _)
/-- from t on, j comes before i -/
def mt_bef (t j i : Nat) : Prop := (t ≤ j ∧ (i < t ∨ j < i)) ∨ (j < t ∧ i < t ∧ j < i)
theorem mt_bef_nb {k t i : Nat} (ht : t < k) (hi : i < k) : ¬ mt_bef (sp_nx k t) t i := by
  unfold mt_bef sp_nx
  split <;> omega
theorem mt_bef_self {t i : Nat} (h : i ≠ t) : mt_bef t t i := by
  unfold mt_bef
  omega
theorem mt_bef_step {k t i j : Nat} (hi : i < k) (hj : j < k) (ht : t < k) (qi : ¬ t = i) (qj : ¬ t = j) (h : mt_bef (sp_nx k t) j i) : mt_bef t j i := by
  unfold mt_bef sp_nx at *
  split at h <;> omega
/-- between i and j, while a robin goes on at t -/
def mt_inv (v : Nat → Nat → Nat) (n i j t : Nat) (f : Nat → Int32) : Prop :=
  sp_w v f n i j = 0 ∨ ∃ E, (E = 0 ∨ ∃ g, g < n ∧ f g = nI j ∧ E = v i g) ∧ sp_w v f n i j ≤ sp_w v f n i i + E ∧ (mt_bef t j i → ∀ x, x < n → f x = -1 → sp_w v f n i j + v i x ≤ sp_w v f n i i + E)
theorem mt_inv_end {v : Nat → Nat → Nat} {n i j t : Nat} {f : Nat → Int32} (h : mt_inv v n i j t f) : ¬ sp_strong v f n i j := by
  intro hs
  have hs' : sp_w v f n i i < sp_w v f n i j - sp_dear v f i j n := hs
  rcases h with h | ⟨E, hE, h1, -⟩
  · omega
  · have : E ≤ sp_dear v f i j n := by
      rcases hE with h | ⟨g, hg, hf, he⟩
      · omega
      · have h2 := mt_max (f := sp_o v f i (nI j)) hg
        unfold sp_o at h2
        rw [if_pos hf] at h2
        rw [he]
        exact h2
    omega
theorem mt_step {v : Nat → Nat → Nat} {n k i j t c : Nat} {f : Nat → Int32} (hk : k ≤ 6) (hi : i < k) (hj : j < k) (ht : t < k) (hij : i ≠ j) (h : mt_inv v n i j t f) (hc : sp_fv (v t) f n = some c) : mt_inv v n i j (sp_nx k t) (upd f c (nI t)) := by
  have h9 := sp_fv_lt hc
  have hfav := pl_fv_spec (v t) f n
  rw [hc] at hfav
  have hfree : ∀ x, x < n → upd f c (nI t) x = -1 → x ≠ c ∧ f x = -1 := fun x hx hq => by
    by_cases e : x = c
    · subst e
      rw [pk_us] at hq
      exact absurd hq (sp_nI_ne t (by omega))
    · rw [pk_un e] at hq
      exact ⟨e, hq⟩
  have ui : sp_w v (upd f c (nI t)) n i i = sp_w v f n i i + (if nI t = nI i then v i c else 0) := mt_upd h9.2 (sp_nI_ne i (by omega)) n h9.1
  have uj : sp_w v (upd f c (nI t)) n i j = sp_w v f n i j + (if nI t = nI j then v i c else 0) := mt_upd h9.2 (sp_nI_ne j (by omega)) n h9.1
  have hke : ∀ E, (E = 0 ∨ ∃ g, g < n ∧ f g = nI j ∧ E = v i g) → (E = 0 ∨ ∃ g, g < n ∧ upd f c (nI t) g = nI j ∧ E = v i g) := fun E hE => hE.imp (fun z => z) (fun ⟨g, hg, hf, he⟩ => ⟨g, hg, by
    rw [pk_un (fun z => by subst z; rw [h9.2] at hf; exact sp_nI_ne j (by omega) hf.symm)]
    exact hf, he⟩)
  by_cases qj : t = j
  · subst qj
    have hne : ¬ nI t = nI i := fun e => hij ((nI_eq (by omega) (by omega)).mp e).symm
    rw [if_neg hne] at ui
    rw [if_pos rfl] at uj
    have nb : ¬ mt_bef (sp_nx k t) t i := mt_bef_nb ht hi
    rcases h with h | ⟨E, hE, h1, h2⟩
    · refine Or.inr ⟨v i c, Or.inr ⟨c, h9.1, by rw [pk_us], rfl⟩, by omega, fun z => absurd z nb⟩
    · have b : mt_bef t t i := mt_bef_self hij
      have h3 := h2 b c h9.1 h9.2
      exact Or.inr ⟨E, hke E hE, by omega, fun z => absurd z nb⟩
  · have hnej : ¬ nI t = nI j := fun e => qj ((nI_eq (by omega) (by omega)).mp e)
    rw [if_neg hnej] at uj
    by_cases qi : t = i
    · subst qi
      rw [if_pos rfl] at ui
      rcases h with h | ⟨E, hE, h1, h2⟩
      · exact Or.inl (by omega)
      · refine Or.inr ⟨E, hke E hE, by omega, fun _ x hx hq => ?_⟩
        have h3 := (hfav.2.2.2 x (Nat.zero_le _) hx (hfree x hx hq).2).1
        omega
    · have hnei : ¬ nI t = nI i := fun e => qi ((nI_eq (by omega) (by omega)).mp e)
      rw [if_neg hnei] at ui
      rcases h with h | ⟨E, hE, h1, h2⟩
      · exact Or.inl (by omega)
      · refine Or.inr ⟨E, hke E hE, by omega, fun z x hx hq => ?_⟩
        have b : mt_bef t j i := mt_bef_step hi hj ht qi qj z
        have h3 := h2 b x hx (hfree x hx hq).2
        omega
theorem mt_invs {v : Nat → Nat → Nat} {n k i j : Nat} (hk : k ≤ 6) (hi : i < k) (hj : j < k) (hij : i ≠ j) : ∀ d (f : Nat → Int32) (t m : Nat), t < k → mt_inv v n i j t f → ∃ t2, mt_inv v n i j t2 (sp_rb v n k d f t m).1
  | 0, f, t, m, _, h => ⟨t, h⟩
  | d + 1, f, t, m, ht, h => by
    cases e : sp_fv (v t) f n with
    | none =>
      have e1 : sp_rb v n k (d + 1) f t m = (f, m) := by
        show (match sp_fv (v t) f n with | none => (f, m) | some c => _) = _
        rw [e]
      rw [e1]
      exact ⟨t, h⟩
    | some c =>
      have e1 : sp_rb v n k (d + 1) f t m = sp_rb v n k d (upd f c (nI t)) (sp_nx k t) (m + 1) := by
        show (match sp_fv (v t) f n with | none => (f, m) | some c => _) = _
        rw [e]
      have hnx : sp_nx k t < k := by unfold sp_nx; split <;> omega
      rw [e1]
      exact mt_invs hk hi hj hij d _ _ _ hnx (mt_step hk hi hj ht hij h e)
/-- a robin of a free cake leaves it mild -/
theorem mt_mild {v : Nat → Nat → Nat} {n k t : Nat} {f : Nat → Int32} (hk : k ≤ 6) (ht : t < k) (hf : ∀ c, c < n → f c = -1) : ∀ i j, i < k → j < k → ¬ sp_strong v (sp_rb v n k n f t 0).1 n i j := by
  intro i j hi hj
  by_cases hij : i = j
  · subst hij
    intro z
    have z' : sp_w v (sp_rb v n k n f t 0).1 n i i < sp_w v (sp_rb v n k n f t 0).1 n i i - sp_dear v (sp_rb v n k n f t 0).1 i i n := z
    omega
  · have h0 : sp_w v f n i j = 0 := sp_s_zero fun c hc => by
      unfold sp_o
      rw [hf c hc, if_neg (fun z => sp_nI_ne j (by omega) z.symm)]
    obtain ⟨t2, h⟩ := mt_invs (v := v) (n := n) hk hi hj hij n f t 0 ht (Or.inl h0)
    exact mt_inv_end h
/-! the ring -/
theorem mt_f1_none {P : Nat → Bool} : ∀ {i : Nat}, sp_f1 P i = none → ∀ j, j < i → ¬ P j = true
  | 0, _, j, hj => by omega
  | i + 1, h, j, hj => by
    rw [sp_f1_succ] at h
    cases e : sp_f1 P i with
    | some b => rw [e] at h; cases h
    | none =>
      rw [e] at h
      by_cases q : j = i
      · subst q
        intro z
        have h2 : (if P j = true then some j else none) = none := h
        rw [if_pos z] at h2
        cases h2
      · exact mt_f1_none e j (by omega)
theorem mt_D0 {w : Nat → Nat → Nat} {k st : Nat} : ∀ m, sp_D w k st m st = 0
  | 0 => by show (if st = st then 0 else 6) = 0; rw [if_pos rfl]
  | m + 1 => by
    have h := mt_D0 (w := w) (k := k) (st := st) m
    show (if sp_D w k st m st = 6 ∧ (sp_at w k (sp_D w k st m) m st).isSome = true then m + 1 else sp_D w k st m st) = 0
    rw [h, if_neg (by omega)]
/-- the member at p, round -/
abbrev mt_c (w : Nat → Nat → Nat) (k st len p : Nat) : Nat := sp_cy w k st len (p % len)
section RING
variable {w : Nat → Nat → Nat} {k st len : Nat}
theorem mt_inj (hst : st < k) (hk : k ≤ 6) (h : sp_len w k st = some len) {p q : Nat} (hp : p < len) (hq : q < len) (e : sp_cy w k st len p = sp_cy w k st len q) : p = q := by
  have dd : ∀ p, p < len → sp_D w k st (k - 1) (sp_cy w k st len p) = if p = 0 then 0 else len - p := fun p hp => by
    by_cases z : p = 0
    · subst z
      rw [if_pos rfl]
      exact mt_D0 _
    · rw [if_neg z]
      exact (sp_cy_spec hst hk h p hp).2.1 (by omega)
  have h1 := dd p hp
  have h2 := dd q hq
  rw [e, h2] at h1
  split at h1 <;> split at h1 <;> omega
theorem mt_envy (hst : st < k) (hk : k ≤ 6) (h : sp_len w k st = some len) {p : Nat} (hp : p < len) : w (sp_cy w k st len p) (sp_cy w k st len p) < w (sp_cy w k st len p) (sp_cy w k st len ((p + 1) % len)) := by
  obtain ⟨b1, b2, -⟩ := sp_len_spec h
  obtain ⟨h1, h2, h3⟩ := sp_cy_spec hst hk h p hp
  by_cases q : p + 1 < len
  · obtain ⟨-, j2⟩ := sp_f1_lt (h3 q)
    simp only [Bool.and_eq_true, decide_eq_true_eq] at j2
    rw [Nat.mod_eq_of_lt q]
    exact j2.2
  · have e : p + 1 = len := by omega
    rw [e, Nat.mod_self]
    have e1 : sp_D w k st (k - 1) (sp_cy w k st len p) = 0 + 1 := by rw [h2 (by omega)]; omega
    have h9 := (sp_D_pre (show k - 1 ≤ 6 by omega) e1 (by omega)).2
    obtain ⟨b, hb⟩ := Option.isSome_iff_exists.mp h9
    obtain ⟨-, j2⟩ := sp_f1_lt hb
    simp only [Bool.and_eq_true, decide_eq_true_eq] at j2
    have e2 : (if b = st then 0 else 6) = 0 := j2.1
    have e3 : b = st := by
      by_cases z : b = st
      · exact z
      · rw [if_neg z] at e2; omega
    subst e3
    exact j2.2
theorem mt_lt (hst : st < k) (hk : k ≤ 6) (h : sp_len w k st = some len) {p : Nat} (hp : p < len) : sp_cy w k st len p < k := (sp_cy_spec hst hk h p hp).1
theorem mt_ro (hst : st < k) (hk : k ≤ 6) (h : sp_len w k st = some len) {p : Nat} (hp : p < len) : sp_ro w k st len (nI (sp_cy w k st len ((p + 1) % len))) = nI (sp_cy w k st len p) := by
  obtain ⟨b1, b2, -⟩ := sp_len_spec h
  have hm : (p + 1) % len < len := Nat.mod_lt _ (by omega)
  unfold sp_ro
  cases e : sp_f1 (fun q => decide (nI (sp_cy w k st len q) = nI (sp_cy w k st len ((p + 1) % len)))) len with
  | none => exact absurd (decide_eq_true rfl) (mt_f1_none e _ hm)
  | some q =>
    obtain ⟨hq, h2⟩ := sp_f1_lt e
    have h3 := of_decide_eq_true h2
    have l1 := mt_lt hst hk h hq
    have l2 := mt_lt hst hk h hm
    have h4 := mt_inj hst hk h hq hm ((nI_eq (by omega) (by omega)).mp h3)
    show nI (sp_cy w k st len ((q + len - 1) % len)) = _
    have h5 : (q + len - 1) % len = p := by
      rw [h4]
      by_cases z : p + 1 < len
      · rw [Nat.mod_eq_of_lt z, show p + 1 + len - 1 = p + len by omega, Nat.add_mod_right, Nat.mod_eq_of_lt hp]
      · have : p + 1 = len := by omega
        rw [this, Nat.mod_self, Nat.zero_add, Nat.mod_eq_of_lt (by omega)]
        omega
    rw [h5]
theorem mt_ro_no (o : Int32) (ho : ∀ p, p < len → ¬ o = nI (sp_cy w k st len ((p + 1) % len))) : sp_ro w k st len o = o := by
  unfold sp_ro
  cases e : sp_f1 (fun q => decide (nI (sp_cy w k st len q) = o)) len with
  | none => rfl
  | some q =>
    obtain ⟨hq, h2⟩ := sp_f1_lt e
    have h3 := of_decide_eq_true h2
    refine absurd ?_ (ho ((q + len - 1) % len) (Nat.mod_lt _ (by omega)))
    rw [← h3]
    have : ((q + len - 1) % len + 1) % len = q := by
      rw [Nat.mod_add_mod, show q + len - 1 + 1 = q + len by omega, Nat.add_mod_right, Nat.mod_eq_of_lt hq]
    rw [this]
/-- who gets what the next had -/
theorem mt_ro_iff (hst : st < k) (hk : k ≤ 6) (h : sp_len w k st = some len) {p : Nat} (hp : p < len) (o : Int32) : sp_ro w k st len o = nI (sp_cy w k st len p) ↔ o = nI (sp_cy w k st len ((p + 1) % len)) := by
  obtain ⟨b1, b2, -⟩ := sp_len_spec h
  refine ⟨fun e => ?_, fun e => by rw [e]; exact mt_ro hst hk h hp⟩
  by_cases q : ∀ p, p < len → ¬ o = nI (sp_cy w k st len ((p + 1) % len))
  · rw [mt_ro_no o q] at e
    refine absurd ?_ (q ((p + len - 1) % len) (Nat.mod_lt _ (by omega)))
    rw [e]
    have : ((p + len - 1) % len + 1) % len = p := by
      rw [Nat.mod_add_mod, show p + len - 1 + 1 = p + len by omega, Nat.add_mod_right, Nat.mod_eq_of_lt hp]
    rw [this]
  · have q2 : ∃ p, p < len ∧ o = nI (sp_cy w k st len ((p + 1) % len)) := Classical.byContradiction fun z => q fun p hp e => z ⟨p, hp, e⟩
    obtain ⟨p2, hp2, e2⟩ := q2
    rw [e2, mt_ro hst hk h hp2] at e
    have l1 := mt_lt hst hk h hp
    have l2 := mt_lt hst hk h hp2
    have := mt_inj hst hk h hp2 hp ((nI_eq (by omega) (by omega)).mp e)
    rw [e2, this]
end RING
/-- behind a rotation each member is better off -/
theorem mt_rise {v : Nat → Nat → Nat} {ow F : Nat → Int32} {n k st len : Nat} (hst : st < k) (hk : k ≤ 6) (h : sp_len (sp_w v ow n) k st = some len) (hF : ∀ c, c < n → F c = sp_ro (sp_w v ow n) k st len (ow c)) {p : Nat} (hp : p < len) : sp_w v ow n (sp_cy (sp_w v ow n) k st len p) (sp_cy (sp_w v ow n) k st len p) < sp_w v F n (sp_cy (sp_w v ow n) k st len p) (sp_cy (sp_w v ow n) k st len p) := by
  have h1 := mt_envy hst hk h hp
  have e : sp_w v F n (sp_cy (sp_w v ow n) k st len p) (sp_cy (sp_w v ow n) k st len p) = sp_w v ow n (sp_cy (sp_w v ow n) k st len p) (sp_cy (sp_w v ow n) k st len ((p + 1) % len)) := sp_s_congr fun c hc => by
    unfold sp_o
    rw [hF c hc]
    by_cases q : ow c = nI (sp_cy (sp_w v ow n) k st len ((p + 1) % len))
    · rw [if_pos q, if_pos ((mt_ro_iff hst hk h hp (ow c)).mpr q)]
    · rw [if_neg q, if_neg (fun z => q ((mt_ro_iff hst hk h hp (ow c)).mp z))]
  rw [e]
  exact h1
