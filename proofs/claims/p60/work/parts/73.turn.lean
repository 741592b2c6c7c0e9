/-! ## the law's loop: one turn -/
theorem pl_v.congr {n k : Nat} {v : Nat → Nat → Nat} {I J : cw_M} (h : pl_v n k v I) (e : ∀ o, 32 ≤ o → o < 40 → J o = I o) : pl_v n k v J := by
  obtain ⟨h1, h2, hn, hk, hd, hv⟩ := h
  refine ⟨by rw [e 32 (by omega) (by omega)]; exact h1, by rw [e 32 (by omega) (by omega)]; exact h2, hn, hk, hd, fun s c hs hc => ?_⟩
  rw [e (34 + s) (by omega) (by omega)]
  exact hv s c hs hc
theorem mt_fvc {g : Nat → Nat} {f h : Nat → Int32} : ∀ {m : Nat}, (∀ c, c < m → f c = h c) → sp_fv g f m = sp_fv g h m
  | 0, _ => rfl
  | m + 1, e => by
    show (if f m = -1 ∧ sp_bt g (sp_fv g f m) m = true then some m else sp_fv g f m) = (if h m = -1 ∧ sp_bt g (sp_fv g h m) m = true then some m else sp_fv g h m)
    rw [e m (by omega), mt_fvc (fun c hc => e c (by omega))]
theorem mt_rbc {v : Nat → Nat → Nat} {n k : Nat} : ∀ d (f g : Nat → Int32) (t m : Nat), (∀ c, c < n → f c = g c) → (sp_rb v n k d f t m).2 = (sp_rb v n k d g t m).2 ∧ ∀ c, c < n → (sp_rb v n k d f t m).1 c = (sp_rb v n k d g t m).1 c
  | 0, f, g, t, m, e => ⟨rfl, e⟩
  | d + 1, f, g, t, m, e => by
    have e0 := mt_fvc (g := v t) e
    have e1 : sp_rb v n k (d + 1) f t m = match sp_fv (v t) f n with | none => (f, m) | some c => sp_rb v n k d (upd f c (nI t)) (sp_nx k t) (m + 1) := rfl
    have e2 : sp_rb v n k (d + 1) g t m = match sp_fv (v t) g n with | none => (g, m) | some c => sp_rb v n k d (upd g c (nI t)) (sp_nx k t) (m + 1) := rfl
    rw [e1, e2, e0]
    cases sp_fv (v t) g n with
    | none => exact ⟨rfl, e⟩
    | some c => exact mt_rbc d _ _ _ _ (fun j hj => by
        by_cases q : j = c
        · subst q; rw [pk_us, pk_us]
        · rw [pk_un q, pk_un q]; exact e j hj)
theorem mt_knc {v : Nat → Nat → Nat} {n k : Nat} (hk : k ≤ 6) : ∀ w S a (f g : Nat → Int32), S < 64 → sp_wt k S = w → (w = 0 → n ≤ a) → (∀ c, c < a → c < n → f c = g c) → ∀ c, c < n → sp_kn v n k w S a f c = sp_kn v n k w S a g c
  | 0, S, a, f, g, hS, hw, h0, e => fun c hc => by
    have h1 := h0 rfl
    exact e c (by omega) hc
  | w + 1, S, a, f, g, hS, hw, h0, e => fun c hc => by
    by_cases q : n ≤ a
    · rw [sp_kn_end q, sp_kn_end q]
      exact e c (by omega) hc
    · obtain ⟨t, ht⟩ := sp_fc_some (S := S) (g := sp_g v n a (w + 1)) (i := k) (by omega)
      have htk := sp_fc_lt ht
      obtain ⟨t1, t2, t3, t4⟩ := pl_E_spec v t (show a < n by omega) (show 1 ≤ w + 1 by omega)
      have hset := sp_set6 S hS t (by omega)
      have hwt2 := sp_wt_set k (by omega) S hS t htk.1 htk.2
      have e1 : ∀ f, sp_kn v n k (w + 1) S a f = sp_kn v n k w (S ||| 2 ^ t) (sp_g v n a (w + 1) t + 1) (sp_put f (nI t) a (sp_g v n a (w + 1) t + 1)) := fun f => by
        show (if n ≤ a then f else match sp_fc S (sp_g v n a (w + 1)) k with | none => f | some t => _) = _
        rw [if_neg q, ht]
      rw [e1, e1]
      refine mt_knc hk w _ _ _ _ hset.2.1 (by omega) (fun z => ?_) (fun j hj hj2 => ?_) c hc
      · subst z
        have t3' : (if 0 + 1 = 1 then sp_g v n a (0 + 1) t + 1 = n else _) := t3
        rw [if_pos rfl] at t3'
        omega
      · unfold sp_put
        by_cases z : a ≤ j ∧ j < sp_g v n a (w + 1) t + 1
        · rw [if_pos z, if_pos z]
        · rw [if_neg z, if_neg z]
          exact e j (by omega) hj2
theorem mt_cnt_all {f : Nat → Int32} : ∀ {n : Nat}, sp_cnt f (-1) n = n → ∀ j, j < n → f j = -1
  | 0, _, j, hj => by omega
  | n + 1, h, j, hj => by
    have h' : sp_cnt f (-1) n + (if f n = -1 then 1 else 0) = n + 1 := h
    have b : sp_cnt f (-1) n ≤ n := sp_n_le
    by_cases q : f n = -1
    · rw [if_pos q] at h'
      by_cases z : j = n
      · subst z; exact q
      · exact mt_cnt_all (show sp_cnt f (-1) n = n by omega) j (by omega)
    · rw [if_neg q] at h'
      omega
/-- both cakes hold the same -/
def lt_S (n k : Nat) (v : Nat → Nat → Nat) (ow : Nat → Int32) (q u : Nat) (I : cw_M) : Prop := ps n k v ow q u I ∧ pl_v n k v I ∧ ∀ c, c < n → I 40 c = ow c
section LTS
variable {K : cw_K} {I J : cw_M} {n k q u : Nat} {v : Nat → Nat → Nat} {ow : Nat → Int32}
theorem lt_S.congr (h : lt_S n k v ow q u I) (e : ∀ o, o < 41 → J o = I o) : lt_S n k v ow q u J := ⟨h.1.congr (fun o ho => e o (by omega)), h.2.1.congr (fun o _ ho => e o (by omega)), fun c hc => by rw [e 40 (by omega)]; exact h.2.2 c hc⟩
theorem lt_S.cyI {f17 f18 f19 : Nat → Int32} (h : lt_S n k v ow q u I) : lt_S n k v ow q u (sp_cyI I f17 f18 f19) := ⟨ps_cyI h.1, h.2.1.congr (fun o ho _ => ps_cyI32 o ho), fun c hc => by rw [ps_cyI32 40 (by omega)]; exact h.2.2 c hc⟩
theorem lt_p40 (h : ps n k v ow q u I) {G : Nat → Int32} : ps n k v ow q u (cw_up I 40 G) := h.congr (fun o ho => by
  unfold cw_up
  rw [if_neg (show ¬ o = 40 by omega)])
/-- both changed -/
theorem lt_own (h : lt_S n k v ow q u I) {F G : Nat → Int32} (hF : ∀ c, c < n → sp_okw k (F c)) (hG : ∀ c, c < n → G c = F c) : lt_S n k v F (sp_nq q) (min (u + 1) 6) (cw_up (sp_mem (cw_up I 40 G) q u) 9 F) := by
  refine ⟨ps_own (lt_p40 h.1) hF, h.2.1.congr (fun o ho ho2 => ?_), fun c hc => ?_⟩
  · rw [ps_own32 o ho]
    unfold cw_up
    rw [if_neg (show ¬ o = 40 by omega)]
  · rw [ps_own32 40 (by omega), show (cw_up I 40 G) 40 = G from rfl]
    exact hG c hc
theorem lt_agrees (h : lt_S n k v ow q u I) : cw_C (cp_w K) mX11_agrees [.ref (cw_a (cp_w K) 32)] I (some (.int 1)) I := pl_agrees h.1 h.2.1 h.2.2
theorem lt_40 {G : Nat → Int32} : ∀ c, (cw_up I 40 G) 40 c = G c := fun _ => rfl
theorem lt_9 {G : Nat → Int32} : (cw_up I 40 G) 9 = I 9 := rfl
theorem lt_okw40 (h : lt_S n k v ow q u I) : ∀ c, c < n → sp_okw k (I 40 c) := fun c hc => by rw [h.2.2 c hc]; exact h.1.2.2.2.2.1 c hc
theorem lt_eq (h : lt_S n k v ow q u I) : ∀ c, c < n → I 40 c = I 9 c := fun c hc => by rw [h.2.2 c hc, h.1.2.2.2.1 c hc]
end LTS
section LTR
variable {K : cw_K} {sa uc vc : Nat} {Z : cw_Zt} {I : cw_M} {n k q u a len : Nat} {v : Nat → Nat → Nat} {ow : Nat → Int32} {x3 x5 : Int32}
/-- the members are better off -/
theorem lt_582 (hS : lt_S n k v (fun c => if c < n then sp_ro (sp_w v ow n) k a len (ow c) else ow c) q u I) (ha : a < k) (hk : k ≤ 6) (hn : n ≤ 24) (hl : sp_len (sp_w v ow n) k a = some len) (h41 : ∀ j, j < len → I 41 j = nI (sp_cy (sp_w v ow n) k a len j)) (h42 : ∀ j, j < len → I 42 j = nI (sp_w v ow n (sp_cy (sp_w v ow n) k a len j) (sp_cy (sp_w v ow n) k a len j))) (cont : bL_law_620 K sa Z uc vc (nI n) x3 x5 I) : ∀ d p, p + d = len → bL_law_582 K sa Z uc vc (nI n) x3 x5 (nI len) (nI p) I := by
  obtain ⟨b1, b2, -⟩ := sp_len_spec hl
  have hdig := hS.2.1.2.2.2.2.1
  intro d
  induction d with
  | zero =>
    intro p hp
    exact tbL_law_582 ⟨fun _ => cont, fun z => absurd (nI_le (by omega) (by omega)) z⟩
  | succ d ih =>
    intro p hp
    have hm := mt_lt ha hk hl (show p < len by omega)
    have b := sp_w_le (ow := fun c => if c < n then sp_ro (sp_w v ow n) k a len (ow c) else ow c) (o := sp_cy (sp_w v ow n) k a len p) hdig hn hm
    have r := mt_rise (v := v) (F := fun c => if c < n then sp_ro (sp_w v ow n) k a len (ow c) else ow c) ha hk hl (fun c hc => by show (if c < n then _ else _) = _; rw [if_pos hc]) (show p < len by omega)
    have hw := cw_lift (cp_le_cd K) rfl (pl_worth (K := K) hS.2.1 hS.2.2 hm (sp_cy (sp_w v ow n) k a len p)) (fun _ _ => rfl)
    refine tbL_law_582 ⟨fun z => absurd z (nI_ge (by omega) (by omega)), fun _ => ⟨vp_in_nI (by omega) (by omega), vp_in_nI (by omega) (by omega), ?_⟩⟩
    rw [nI_clamp (by omega), h41 p (by omega)]
    exact ⟨_, _, hw, vp_in_nI (by omega) (by omega), fun _ => by rw [nI_1]; exact ih (p + 1) (by omega), fun z => absurd (by rw [h42 p (by omega)]; exact nI_lt r (by omega)) z⟩
/-- one cell's new owner -/
theorem lt_508 {c : Nat} (hc : c < n) (hn : n ≤ 24) (ha : a < k) (hk : k ≤ 6) (hl : sp_len (sp_w v ow n) k a = some len) {I : cw_M} (h41 : ∀ j, j < len → I 41 j = nI (sp_cy (sp_w v ow n) k a len j)) (h43 : I 43 c = ow c) (cont : bL_law_499 K sa Z uc vc (nI n) x3 x5 (nI a) (nI len) (nI (c + 1)) (cw_st I 40 c (sp_ro (sp_w v ow n) k a len (ow c)))) : ∀ d p x, p + d = len → ((x = ow c ∧ ∀ j, j < p → ¬ ow c = nI (sp_cy (sp_w v ow n) k a len ((j + 1) % len))) ∨ x = sp_ro (sp_w v ow n) k a len (ow c)) → bL_law_508 K sa Z uc vc (nI n) x3 x5 (nI a) (nI len) (nI c) (nI p) (cw_st I 40 c x) := by
  obtain ⟨b1, b2, -⟩ := sp_len_spec hl
  intro d
  induction d with
  | zero =>
    intro p x hp hx
    refine tbL_law_508 ⟨fun _ => ?_, fun z => absurd (nI_le (by omega) (by omega)) z⟩
    have e : x = sp_ro (sp_w v ow n) k a len (ow c) := by
      rcases hx with ⟨rfl, h2⟩ | h
      · exact (mt_ro_no _ (fun j hj => h2 j (by omega))).symm
      · exact h
    rw [e, nI_1]
    exact cont
  | succ d ih =>
    intro p x hp hx
    have hm : (p + 1) % len < len := Nat.mod_lt _ (by omega)
    refine tbL_law_508 ⟨fun z => absurd z (nI_ge (by omega) (by omega)), fun _ => ⟨vp_in_nI (by omega) (by omega), nI_ne0 (by omega) (by omega), ?_⟩⟩
    rw [nI_1, pk_rem (by omega) (by omega) (by omega), nI_clamp (show (p + 1) % len < 2 ^ 31 by omega), nI_clamp (show c < 2 ^ 31 by omega), nI_clamp (show p < 2 ^ 31 by omega), show (cw_st I 40 c x) 43 c = ow c from h43, show (cw_st I 40 c x) 41 ((p + 1) % len) = _ from h41 _ hm, show (cw_st I 40 c x) 41 p = _ from h41 p (by omega)]
    refine ⟨vp_in_nI (by omega) (by omega), fun z => ih (p + 1) x (by omega) ?_, fun z => ⟨vp_in_nI (by omega) (by omega), vp_in_nI (by omega) (by omega), ?_⟩⟩
    · rcases hx with ⟨h1, h2⟩ | h
      · refine Or.inl ⟨h1, fun j hj => ?_⟩
        by_cases e : j = p
        · subst e; exact z
        · exact h2 j (by omega)
      · exact Or.inr h
    · have e9 : cw_st (cw_st I 40 c x) 40 c (nI (sp_cy (sp_w v ow n) k a len p)) = cw_st I 40 c (nI (sp_cy (sp_w v ow n) k a len p)) := by
        unfold cw_st
        rw [sp_upup]
        congr 1
        funext j
        by_cases e : j = c
        · subst e; rw [pk_us, pk_us]
        · rw [pk_un e, pk_un e]
          show upd (I 40) c x j = _
          rw [pk_un e]
      rw [e9]
      exact ih (p + 1) _ (by omega) (Or.inr (by rw [z]; exact (mt_ro ha hk hl (by omega)).symm))
/-- the owners of the first m cells are new -/
abbrev lt_ro (v : Nat → Nat → Nat) (ow : Nat → Int32) (n k a len m : Nat) : Nat → Int32 := fun c => if c < m then sp_ro (sp_w v ow n) k a len (ow c) else ow c
/-- the law's own rotation, then the class's -/
theorem lt_499 (ha : a < k) (hk : k ≤ 6) (hn : n ≤ 24) (hl : sp_len (sp_w v ow n) k a = some len) (cont : ∀ I' q' u', lt_S n k v (lt_ro v ow n k a len n) q' u' I' → bL_law_620 K sa Z uc vc (nI n) x3 x5 I') : ∀ d m (I : cw_M), m + d = n → ps n k v ow q u I → pl_v n k v I → (∀ c, c < n → I 40 c = lt_ro v ow n k a len m c) → (∀ c, c < n → I 43 c = ow c) → (∀ j, j < len → I 41 j = nI (sp_cy (sp_w v ow n) k a len j)) → (∀ j, j < len → I 42 j = nI (sp_w v ow n (sp_cy (sp_w v ow n) k a len j) (sp_cy (sp_w v ow n) k a len j))) → bL_law_499 K sa Z uc vc (nI n) x3 x5 (nI a) (nI len) (nI m) I := by
  obtain ⟨b1, b2, -⟩ := sp_len_spec hl
  intro d
  induction d with
  | zero =>
    intro m I hm hp hv h40 h43 h41 h42
    have em : m = n := by omega
    subst em
    refine tbL_law_499 ⟨fun _ => ?_, fun z => absurd (nI_le (by omega) (by omega)) z⟩
    obtain ⟨J, j1, j2, j3⟩ := ps_rotate (K := K) hp ha hl
    have hS : lt_S m k v (lt_ro v ow m k a len m) (sp_nq q) (min (u + 1) 6) J := by
      obtain ⟨g1, g2, g3, g4, g5, g6⟩ := j2
      have eF : ∀ c, c < m → ps_rot v ow m k a len (I 9) c = lt_ro v ow m k a len m c := fun c hc => by
        show (if c < m then sp_ro (sp_w v ow m) k a len (I 9 c) else I 9 c) = if c < m then _ else _
        rw [if_pos hc, if_pos hc, hp.2.2.2.1 c hc]
      refine ⟨⟨g1, g2, g3, fun c hc => (g4 c hc).trans (eF c hc), fun c hc => by rw [← eF c hc]; exact g5 c hc, g6⟩, hv.congr (fun o ho _ => j3 o ho), fun c hc => ?_⟩
      rw [j3 40 (by omega)]
      exact h40 c hc
    refine ⟨_, _, cw_lift (cc_le_cd K) rfl j1 (fun o ho => j3 o ho), fun z => absurd rfl z, fun _ => ⟨_, _, cw_lift (cp_le_cd K) rfl (lt_agrees hS) (fun _ _ => rfl), fun _ => ?_, fun z => absurd z (by decide)⟩⟩
    exact lt_582 hS ha hk hn hl (fun j hj => by rw [j3 41 (by omega)]; exact h41 j hj) (fun j hj => by rw [j3 42 (by omega)]; exact h42 j hj) (cont _ _ _ hS) len 0 (by omega)
  | succ d ih =>
    intro m I hm hp hv h40 h43 h41 h42
    refine tbL_law_499 ⟨fun z => absurd z (nI_ge (by omega) (by omega)), fun _ => ?_⟩
    have e0 : cw_st I 40 m (ow m) = I := by
      have e1 : upd (I 40) m (ow m) = I 40 := by
        funext j
        by_cases e : j = m
        · subst e
          rw [pk_us, h40 j (by omega)]
          show _ = if j < j then _ else _
          rw [if_neg (by omega)]
        · rw [pk_un e]
      show cw_up I 40 (upd (I 40) m (ow m)) = I
      rw [e1, sp_upself]
    have key := lt_508 (K := K) (sa := sa) (Z := Z) (uc := uc) (vc := vc) (x3 := x3) (x5 := x5) (c := m) (by omega) hn ha hk hl h41 (h43 m (by omega)) (ih (m + 1) (cw_st I 40 m (sp_ro (sp_w v ow n) k a len (ow m))) (by omega) (lt_p40 hp) (hv.congr (fun o ho ho2 => by
      unfold cw_st cw_up
      rw [if_neg (show ¬ o = 40 by omega)])) (fun c hc => by
      show upd (I 40) m (sp_ro (sp_w v ow n) k a len (ow m)) c = if c < m + 1 then sp_ro (sp_w v ow n) k a len (ow c) else ow c
      by_cases e : c = m
      · subst e
        rw [pk_us, if_pos (by omega)]
      · rw [pk_un e, h40 c hc]
        show (if c < m then _ else _) = _
        by_cases z : c < m
        · rw [if_pos z, if_pos (by omega)]
        · rw [if_neg z, if_neg (by omega)]) h43 h41 h42) len 0 (ow m) (by omega) (Or.inl ⟨rfl, fun j hj => by omega⟩)
    rw [e0] at key
    exact key
/-- the owners before, copied -/
theorem lt_471 (hn : n ≤ 24) (cont : ∀ J : cw_M, (∀ o, o < 43 → J o = I o) → (∀ c, c < n → J 43 c = ow c) → bL_law_499 K sa Z uc vc (nI n) x3 x5 (nI a) (nI len) 0 J) (h40 : ∀ c, c < n → I 40 c = ow c) : ∀ d m (J : cw_M), m + d = n → (∀ o, o < 43 → J o = I o) → (∀ c, c < m → J 43 c = ow c) → bL_law_471 K sa Z uc vc (nI n) x3 x5 (nI a) (nI len) (nI m) J := by
  intro d
  induction d with
  | zero =>
    intro m J hm e1 e2
    have em : m = n := by omega
    subst em
    exact tbL_law_471 ⟨fun _ => cont J e1 e2, fun z => absurd (nI_le (by omega) (by omega)) z⟩
  | succ d ih =>
    intro m J hm e1 e2
    refine tbL_law_471 ⟨fun z => absurd z (nI_ge (by omega) (by omega)), fun _ => ⟨vp_in_nI (by omega) (by omega), vp_in_nI (by omega) (by omega), ?_⟩⟩
    rw [nI_clamp (by omega), nI_1, e1 40 (by omega), h40 m (by omega)]
    refine ih (m + 1) _ (by omega) (fun o ho => ?_) (fun c hc => ?_)
    · unfold cw_st cw_up
      rw [if_neg (show ¬ o = 43 by omega)]
      exact e1 o ho
    · show upd (J 43) m (ow m) c = ow c
      by_cases e : c = m
      · subst e; rw [pk_us]
      · rw [pk_un e]; exact e2 c (by omega)
end LTR
section LTR2
variable {K : cw_K} {sa uc vc : Nat} {Z : cw_Zt} {n k q u a len : Nat} {v : Nat → Nat → Nat} {ow : Nat → Int32} {x3 x5 : Int32}
/-- the worths before -/
theorem lt_429 (ha : a < k) (hk : k ≤ 6) (hn : n ≤ 24) (hl : sp_len (sp_w v ow n) k a = some len) (g1 : uc + 1 ≤ 600086) (g2 : vc + 24 ≤ 7301442) (cont : ∀ q9 I' q' u', lt_S n k v (lt_ro v ow n k a len n) q' u' I' → bL_law_620 (kset K 43 q9) sa Z (uc + 1) (vc + 24) (nI n) x3 x5 I') : ∀ d p (I : cw_M), p + d = len → lt_S n k v ow q u I → (∀ j, j < len → I 41 j = nI (sp_cy (sp_w v ow n) k a len j)) → (∀ j, j < p → I 42 j = nI (sp_w v ow n (sp_cy (sp_w v ow n) k a len j) (sp_cy (sp_w v ow n) k a len j))) → bL_law_429 K sa Z uc vc (nI n) x3 x5 (nI a) (nI len) (nI p) I := by
  obtain ⟨b1, b2, -⟩ := sp_len_spec hl
  intro d
  induction d with
  | zero =>
    intro p I hp hS h41 h42
    have ep : p = len := by omega
    subst ep
    refine tbL_law_429 ⟨fun _ => ⟨⟨g1, g2⟩, fun q9 => ?_⟩, fun z => absurd (nI_le (by omega) (by omega)) z⟩
    have e0 : ∀ o, o < 43 → (cw_up I 43 (fun _ => 0)) o = I o := fun o ho => by
      unfold cw_up
      rw [if_neg (show ¬ o = 43 by omega)]
    refine lt_471 (I := I) hn (fun J e1 e2 => ?_) hS.2.2 n 0 (cw_up I 43 (fun _ => 0)) (by omega) e0 (fun c hc => by omega)
    have hJ : lt_S n k v ow q u J := hS.congr (fun o ho => e1 o (by omega))
    exact lt_499 (K := kset K 43 q9) ha hk hn hl (cont q9) n 0 J (by omega) hJ.1 hJ.2.1 (fun c hc => by
      show _ = if c < 0 then _ else _
      rw [if_neg (by omega)]
      exact hJ.2.2 c hc) e2 (fun j hj => by rw [e1 41 (by omega)]; exact h41 j hj) (fun j hj => by rw [e1 42 (by omega)]; exact h42 j hj)
  | succ d ih =>
    intro p I hp hS h41 h42
    have hm := mt_lt ha hk hl (show p < len by omega)
    have hw := cw_lift (cp_le_cb K) rfl (pl_worth (K := K) hS.2.1 hS.2.2 hm (sp_cy (sp_w v ow n) k a len p)) (fun _ _ => rfl)
    refine tbL_law_429 ⟨fun z => absurd z (nI_ge (by omega) (by omega)), fun _ => ⟨vp_in_nI (by omega) (by omega), vp_in_nI (by omega) (by omega), ?_⟩⟩
    rw [nI_clamp (by omega), h41 p (by omega), nI_1]
    refine ⟨_, _, hw, vp_in_nI (by omega) (by omega), ih (p + 1) _ (by omega) (hS.congr (fun o ho => ?_)) (fun j hj => h41 j hj) (fun j hj => ?_)⟩
    · unfold cw_st cw_up
      rw [if_neg (show ¬ o = 42 by omega)]
    · show upd (I 42) p _ j = _
      by_cases e : j = p
      · subst e; rw [pk_us]
      · rw [pk_un e]; exact h42 j (by omega)
/-- the ring -/
theorem lt_400 (ha : a < k) (hk : k ≤ 6) (hl : sp_len (sp_w v ow n) k a = some len) (cont : ∀ (I : cw_M), lt_S n k v ow q u I → (∀ j, j < len → I 41 j = nI (sp_cy (sp_w v ow n) k a len j)) → bL_law_429 K sa Z uc vc (nI n) x3 x5 (nI a) (nI len) 0 I) : ∀ d p (I : cw_M), p + d = len → lt_S n k v ow q u I → (∀ j, j < p → I 41 j = nI (sp_cy (sp_w v ow n) k a len j)) → bL_law_400 K sa Z uc vc (nI n) x3 x5 (nI a) (nI len) (nI p) I := by
  obtain ⟨b1, b2, -⟩ := sp_len_spec hl
  intro d
  induction d with
  | zero =>
    intro p I hp hS h41
    have ep : p = len := by omega
    subst ep
    exact tbL_law_400 ⟨fun _ => cont I hS h41, fun z => absurd (nI_le (by omega) (by omega)) z⟩
  | succ d ih =>
    intro p I hp hS h41
    obtain ⟨f17, f18, f19, hC⟩ := fc_envyCycleMember (K := K) hS.1.1 hS.1.2.2.2.1 ha hl (show p < len by omega)
    refine tbL_law_400 ⟨fun z => absurd z (nI_ge (by omega) (by omega)), fun _ => ⟨_, _, cw_lift (cc_le_cb K) rfl hC (fun o ho => ps_cyI32 o ho), vp_in_nI (by omega) (by omega), ?_⟩⟩
    rw [nI_clamp (by omega), nI_1]
    refine ih (p + 1) _ (by omega) ((hS.cyI (f17 := f17) (f18 := f18) (f19 := f19)).congr (fun o ho => ?_)) (fun j hj => ?_)
    · unfold cw_st
      show (if o = 41 then _ else _) = _
      rw [if_neg (show ¬ o = 41 by omega)]
    · show upd ((sp_cyI I f17 f18 f19) 41) p _ j = _
      by_cases e : j = p
      · subst e; rw [pk_us]
      · rw [pk_un e, ps_cyI32 41 (by omega)]; exact h41 j (by omega)
end LTR2
