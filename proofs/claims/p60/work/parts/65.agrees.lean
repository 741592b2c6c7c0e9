/-! ## both cakes: read, agrees -/
/-- the class holds n cells, k siblings, values v, owners ow; q the ring's place, u how many changes can be undone -/
def ps (n k : Nat) (v : Nat → Nat → Nat) (ow : Nat → Int32) (q u : Nat) (I : cw_M) : Prop := sp_cv n k v I ∧ 1 ≤ n ∧ 1 ≤ k ∧ (∀ c, c < n → I 9 c = ow c) ∧ (∀ c, c < n → sp_okw k (ow c)) ∧ I 28 2 = nI q ∧ q < 6 ∧ I 28 0 = nI u ∧ u ≤ 6
theorem ps.congr {n k q u : Nat} {v : Nat → Nat → Nat} {ow : Nat → Int32} {I J : cw_M} (h : ps n k v ow q u I) (e : ∀ o, o < 32 → J o = I o) : ps n k v ow q u J := by
  obtain ⟨⟨c1, c2, c3, c4, c5, c6⟩, h2, h3, h4, h5, h6, h7, h8, h9⟩ := h
  refine ⟨⟨by rw [e 5 (by decide)]; exact c1, by rw [e 5 (by decide)]; exact c2, c3, c4, c5, fun s c hs hc => by rw [e 8 (by decide)]; exact c6 s c hs hc⟩, h2, h3, fun c hc => by rw [e 9 (by decide)]; exact h4 c hc, h5, by rw [e 28 (by decide)]; exact h6, h7, by rw [e 28 (by decide)]; exact h8, h9⟩
/-- a contract of the class, with both cakes there -/
theorem cp_of {K : cw_K} {M : cw_Me} {as : List Value} {I J : cw_M} {r : Option Value} (h : cw_C (cc_w K) M as I r J) (e : ∀ o, 32 ≤ o → J o = I o) : cw_C (cp_w K) M as I r J := cw_lift (cc_le_cp K) rfl h e
theorem cp_same {K : cw_K} {M : cw_Me} {as : List Value} {I : cw_M} {r : Option Value} (h : cw_C (cc_w K) M as I r I) : cw_C (cp_w K) M as I r I := cp_of h (fun _ _ => rfl)
/-! every cell has one owner or none -/
theorem pl_s_add (f g : Nat → Nat) : ∀ n, sp_s (fun j => f j + g j) n = sp_s f n + sp_s g n
  | 0 => rfl
  | n + 1 => by
    have h := pl_s_add f g n
    show sp_s (fun j => f j + g j) n + (f n + g n) = (sp_s f n + f n) + (sp_s g n + g n)
    omega
theorem pl_one (x : Int32) : ∀ k, k < 2 ^ 20 → ((∀ s, s < k → ¬ x = nI s) → sp_s (fun i => if x = nI i then 1 else 0) k = 0) ∧ (∀ s, s < k → x = nI s → sp_s (fun i => if x = nI i then 1 else 0) k = 1)
  | 0, _ => ⟨fun _ => rfl, fun s hs => by omega⟩
  | k + 1, hk => by
    obtain ⟨h1, h2⟩ := pl_one x k (by omega)
    refine ⟨fun h => ?_, fun s hs e => ?_⟩
    · show sp_s (fun i => if x = nI i then 1 else 0) k + (if x = nI k then 1 else 0) = 0
      rw [h1 (fun s hs => h s (by omega)), if_neg (h k (by omega))]
    · show sp_s (fun i => if x = nI i then 1 else 0) k + (if x = nI k then 1 else 0) = 1
      by_cases q : s = k
      · subst q
        rw [h1 (fun j hj z => by
          have := (nI_eq (by omega) (by omega)).mp (e.symm.trans z)
          omega), if_pos e]
      · rw [h2 s (by omega) e, if_neg (fun z => by
          have := (nI_eq (by omega) (by omega)).mp (e.symm.trans z)
          omega)]
theorem pl_part {ow : Nat → Int32} {k : Nat} (hk : k ≤ 6) : ∀ m, (∀ c, c < m → sp_okw k (ow c)) → sp_cnt ow (-1) m + sp_s (fun i => sp_cnt ow (nI i) m) k = m
  | 0, _ => by
    have h : sp_s (fun i => sp_cnt ow (nI i) 0) k = 0 := sp_s_zero (fun _ _ => rfl)
    rw [h]
    rfl
  | m + 1, hg => by
    have h := pl_part hk m (fun c hc => hg c (by omega))
    have e : sp_s (fun i => sp_cnt ow (nI i) (m + 1)) k = sp_s (fun i => sp_cnt ow (nI i) m) k + sp_s (fun i => if ow m = nI i then 1 else 0) k := pl_s_add (fun i => sp_cnt ow (nI i) m) (fun i => if ow m = nI i then 1 else 0) k
    have e2 : sp_cnt ow (-1) (m + 1) = sp_cnt ow (-1) m + (if ow m = -1 then 1 else 0) := rfl
    rw [e, e2]
    obtain ⟨p1, p2⟩ := pl_one (ow m) k (by omega)
    rcases hg m (by omega) with z | ⟨s, hs, z⟩
    · rw [if_pos z, p1 (fun s hs q => sp_nI_ne s (by omega) (q.symm.trans z))]
      omega
    · rw [if_neg (fun q => sp_nI_ne s (by omega) (z.symm.trans q)), p2 s hs z]
      omega
theorem pl_inc {ow : Nat → Int32} {n k : Nat} (hn : n ≤ 24) (hk : k ≤ 6) (hg : ∀ c, c < n → sp_okw k (ow c)) : sp_inc ow n k = 0 := by
  have hp := pl_part hk n hg
  have key : ∀ i, i ≤ k → sp_inc ow n i = nI (n - sp_cnt ow (-1) n - sp_s (fun i => sp_cnt ow (nI i) n) i) := by
    intro i
    induction i with
    | zero =>
      intro _
      show nI n - nI (sp_cnt ow (-1) n) = nI (n - sp_cnt ow (-1) n - 0)
      rw [pk_sub (by omega), Nat.sub_zero]
    | succ i ih =>
      intro hi
      have hle : sp_s (fun i => sp_cnt ow (nI i) n) (i + 1) ≤ sp_s (fun i => sp_cnt ow (nI i) n) k := by
        have h9 := pl_cat (fun i => sp_cnt ow (nI i) n) (i + 1) (k - (i + 1))
        rw [show i + 1 + (k - (i + 1)) = k by omega] at h9
        omega
      have e : sp_s (fun i => sp_cnt ow (nI i) n) (i + 1) = sp_s (fun i => sp_cnt ow (nI i) n) i + sp_cnt ow (nI i) n := rfl
      show sp_inc ow n i - nI (sp_cnt ow (nI i) n) = _
      rw [ih (by omega), pk_sub (by omega), e]
      congr 1
      omega
  rw [key k (Nat.le_refl k), show n - sp_cnt ow (-1) n - sp_s (fun i => sp_cnt ow (nI i) n) k = 0 by omega]
  rfl
section PLA
variable {K : cw_K} {I : cw_M} {n k q u : Nat} {v : Nat → Nat → Nat} {ow : Nat → Int32}
/-! read -/
theorem pl_readL (hn : n ≤ 24) (hk : k ≤ 6) (h : ps n k v ow q u I) (h1 : I 32 1 = nI n) (h2 : I 32 2 = nI k) : ∀ d c, c + d = n → ∀ J : cw_M, (∀ o, o < 34 ∨ 41 ≤ o → J o = I o) → (∀ j, j < c → J 40 j = ow j) → (∀ s j, s < k → j < c → J (34 + s) j = nI (v s j)) → ∃ J2 : cw_M, (∀ o, o < 34 ∨ 41 ≤ o → J2 o = I o) ∧ (∀ j, j < n → J2 40 j = ow j) ∧ (∀ s j, s < k → j < n → J2 (34 + s) j = nI (v s j)) ∧ bX11_read_32_2 K none J2 (nI c) J := by
  have inner : ∀ c, c < n → ∀ d s, s + d = k → ∀ J : cw_M, (∀ o, o < 34 ∨ 41 ≤ o → J o = I o) → (∀ j, j < c + 1 → J 40 j = ow j) → (∀ t j, t < k → j < c → J (34 + t) j = nI (v t j)) → (∀ t, t < s → J (34 + t) c = nI (v t c)) → ∃ J1 : cw_M, (∀ o, o < 34 ∨ 41 ≤ o → J1 o = I o) ∧ (∀ j, j < c + 1 → J1 40 j = ow j) ∧ (∀ t j, t < k → j < c + 1 → J1 (34 + t) j = nI (v t j)) ∧ ∀ J2 : cw_M, bX11_read_32_2 K none J2 (nI (c + 1)) J1 → bX11_read_32_26 K none J2 (nI c) (nI s) J := by
    intro c hc d
    induction d with
    | zero =>
      intro s hs J hJ h40 h34 h34c
      refine ⟨J, hJ, h40, fun t j ht hj => ?_, fun J2 hb => tbX11_read_32_26 (br_t ?_ ?_)⟩
      · by_cases e : j = c
        · subst e
          exact h34c t (by omega)
        · exact h34 t j ht (by omega)
      · rw [hJ 32 (by omega), h2]
        exact nI_le (by omega) (by omega)
      · rw [nI_1]
        exact hb
    | succ d ih =>
      intro s hs J hJ h40 h34 h34c
      have hps : ps n k v ow q u J := h.congr (fun o ho => hJ o (by omega))
      obtain ⟨J1, a1, a2, a3, a4⟩ := ih (s + 1) (by omega) (cw_st J (34 + s) c (nI (v s c))) (fun o ho => by
          unfold cw_st cw_up
          rw [if_neg (by omega)]
          exact hJ o ho) (fun j hj => by
          show (if 40 = 34 + s then _ else J 40) j = _
          rw [if_neg (by omega)]
          exact h40 j hj) (fun t j ht hj => by
          show (if 34 + t = 34 + s then upd (J (34 + s)) c (nI (v s c)) else J (34 + t)) j = _
          by_cases e : t = s
          · subst e
            rw [if_pos rfl, pk_un (by omega)]
            exact h34 t j ht hj
          · rw [if_neg (by omega)]
            exact h34 t j ht hj) (fun t ht => by
          show (if 34 + t = 34 + s then upd (J (34 + s)) c (nI (v s c)) else J (34 + t)) c = _
          by_cases e : t = s
          · subst e
            rw [if_pos rfl, pk_us]
          · rw [if_neg (by omega)]
            exact h34c t (by omega))
      refine ⟨J1, a1, a2, a3, fun J2 hb => tbX11_read_32_26 (br_f ?_ ⟨vp_in_nI (by omega) (by omega), _, _, cp_same (fc_value hps.1 (show s < k by omega) hc), vp_in_nI (by omega) (by omega), ?_⟩)⟩
      · rw [hJ 32 (by omega), h2]
        exact nI_ge (by omega) (by omega)
      · rw [nI_1, nI_clamp (show s < 2 ^ 31 by omega), nI_clamp (show c < 2 ^ 31 by omega)]
        exact a4 J2 hb
  intro d
  induction d with
  | zero =>
    intro c hc J hJ h40 h34
    obtain rfl : c = n := by omega
    exact ⟨J, hJ, h40, h34, tbX11_read_32_2 (br_t (by rw [hJ 32 (by omega), h1]; exact nI_le (Nat.le_refl _) (by omega)) ⟨rfl, rfl⟩)⟩
  | succ d ih =>
    intro c hc J hJ h40 h34
    have hps : ps n k v ow q u J := h.congr (fun o ho => hJ o (by omega))
    obtain ⟨J1, a1, a2, a3, a4⟩ := inner c (by omega) k 0 (by omega) (cw_st J 40 c (ow c)) (fun o ho => by
        unfold cw_st cw_up
        rw [if_neg (by omega)]
        exact hJ o ho) (fun j hj => by
        show (if 40 = 40 then upd (J 40) c (ow c) else J 40) j = _
        rw [if_pos rfl]
        by_cases e : j = c
        · subst e
          rw [pk_us]
        · rw [pk_un e]
          exact h40 j (by omega)) (fun t j ht hj => by
        show (if 34 + t = 40 then _ else J (34 + t)) j = _
        rw [if_neg (by omega)]
        exact h34 t j ht hj) (fun t ht => by omega)
    obtain ⟨J2, b1, b2, b3, b4⟩ := ih (c + 1) (by omega) J1 a1 a2 a3
    refine ⟨J2, b1, b2, b3, tbX11_read_32_2 (br_f ?_ ⟨_, _, cp_same (fc_owner hps.1 hps.2.2.2.1 (show c < n by omega)), vp_in_nI (by omega) (by omega), ?_⟩)⟩
    · rw [hJ 32 (by omega), h1]
      exact nI_ge (by omega) (by omega)
    · rw [nI_clamp (show c < 2 ^ 31 by omega)]
      exact a4 J2 b4
theorem pl_read (h : ps n k v ow q u I) (h1 : I 32 1 = nI n) (h2 : I 32 2 = nI k) : ∃ J : cw_M, (∀ o, o < 34 ∨ 41 ≤ o → J o = I o) ∧ pl_v n k v J ∧ (∀ c, c < n → J 40 c = ow c) ∧ cw_C (cp_w K) mX11_read [.ref (cw_a (cp_w K) 32)] I none J := by
  have hn := h.1.2.2.1
  have hk := h.1.2.2.2.1
  obtain ⟨J, a1, a2, a3, a4⟩ := pl_readL (K := K) hn hk h h1 h2 n 0 (by omega) I (fun _ _ => rfl) (fun j hj => by omega) (fun s j _ hj => by omega)
  exact ⟨J, a1, ⟨by rw [a1 32 (by omega)]; exact h1, by rw [a1 32 (by omega)]; exact h2, hn, hk, h.1.2.2.2.2.1, a3⟩, a2, eX11_read_32 a4⟩
/-! agrees -/
theorem pl_min0 (g : Nat → Nat) (i : Nat) : (if g i < sp_min g (i - 1) then g i else sp_min g (i - 1)) = sp_min g i := by
  cases i with
  | zero =>
    show (if g 0 < g 0 then g 0 else g 0) = g 0
    rw [if_neg (Nat.lt_irrefl _)]
  | succ i =>
    show (if g (i + 1) < sp_min g i then g (i + 1) else sp_min g i) = min (sp_min g i) (g (i + 1))
    by_cases q : g (i + 1) < sp_min g i
    · rw [if_pos q, Nat.min_eq_right (by omega)]
    · rw [if_neg q, Nat.min_eq_left (by omega)]
theorem pl_agr3 (h : ps n k v ow q u I) (hv : pl_v n k v I) (h40 : ∀ c, c < n → I 40 c = ow c) {x1 x2 x3 : Int32} {s : Nat} (hs : s < k) (cont : bX11_agrees_32_66 K (some (.int 1)) I x1 (x2 + nI (sp_w v ow n s s)) (if nI (sp_w v ow n s s) < x3 then nI (sp_w v ow n s s) else x3) (nI (s + 1)) I) : ∀ d o, o + d = k → bX11_agrees_32_78 K (some (.int 1)) I x1 x2 x3 (nI s) (nI o) I := by
  obtain ⟨hc, hn1, hk1, ho, hg, -⟩ := h
  have hvv := hv
  obtain ⟨h1, h2, hn, hk, hd, hvv2⟩ := hv
  have bw : ∀ o, sp_w v ow n s o ≤ 216 := fun o => Nat.le_trans (sp_own_le hd hs (Nat.le_refl n)) (by omega)
  intro d
  induction d with
  | zero =>
    intro o hod
    obtain rfl : o = k := by omega
    have s1 := pl_sum (K := K) hvv hs (Nat.zero_le n) (Nat.le_refl n)
    rw [pl_run0] at s1
    have b2 := sp_pre_le hd hn hs (Nat.le_refl n)
    have b3 : sp_w v ow n s s * o ≤ 216 * 6 := Nat.mul_le_mul (bw s) hk
    refine tbX11_agrees_32_78 (br_t (by rw [h2]; exact nI_le (Nat.le_refl _) (by omega)) ⟨_, _, cp_same (fc_isSatisfied hc ho hs), _, _, pl_worth hvv h40 hs s, ?_⟩)
    rw [h1]
    refine ⟨_, _, s1, ?_⟩
    rw [h2, pk_mul, nI_1]
    refine ⟨fun z => ⟨fun _ => ⟨_, _, pl_worth hvv h40 hs s, _, _, pl_worth hvv h40 hs s, cont⟩, fun z2 => absurd ?_ z2⟩, fun z => ⟨fun _ => ⟨_, _, pl_worth hvv h40 hs s, _, _, pl_worth hvv h40 hs s, cont⟩, fun z2 => absurd ?_ z2⟩⟩
    · have := (nI_ltI (by omega) (by omega)).mp z
      rw [if_neg (Nat.not_le.mpr this)]
    · have : ¬ sp_w v ow n s s * o < sp_s (v s) n := fun z3 => z (nI_lt z3 (by omega))
      rw [if_pos (Nat.not_lt.mp this)]
  | succ d ih =>
    intro o hod
    have h9 := ih (o + 1) (by omega)
    refine tbX11_agrees_32_78 (br_f (by rw [h2]; exact nI_ge (by omega) (by omega)) ⟨_, _, cp_same (fc_worthOfShare hc ho hs (show o < k by omega)), _, _, pl_worth hvv h40 hs o, fun z => absurd rfl z, fun _ => ⟨_, _, cp_same (fc_envies hc ho hs (show o < k by omega)), _, _, pl_worth hvv h40 hs o, _, _, pl_worth hvv h40 hs s, fun z => ⟨fun _ => by rw [nI_1]; exact h9, fun z2 => absurd ?_ z2⟩, fun z => ⟨fun _ => by rw [nI_1]; exact h9, fun z2 => absurd ?_ z2⟩⟩⟩)
    · have z3 := (nI_leI (by have := bw o; omega) (by have := bw s; omega)).mp z
      rw [if_neg (Nat.not_lt.mpr z3)]
    · have z3 : ¬ sp_w v ow n s o ≤ sp_w v ow n s s := fun z4 => z (nI_le z4 (by have := bw s; omega))
      rw [if_pos (Nat.not_le.mp z3)]
theorem pl_agr2 (h : ps n k v ow q u I) (hv : pl_v n k v I) (h40 : ∀ c, c < n → I 40 c = ow c) {x1 : Int32} (hx : x1 = nI (sp_cnt ow (-1) n)) : ∀ d s, s + d = k → bX11_agrees_32_66 K (some (.int 1)) I x1 (nI (sp_tw v ow n s)) (nI (sp_min (fun s => sp_w v ow n s s) (s - 1))) (nI s) I := by
  have hh := h
  have hvv := hv
  obtain ⟨hc, hn1, hk1, ho, hg, -⟩ := h
  obtain ⟨h1, h2, hn, hk, hd, hvv2⟩ := hv
  intro d
  induction d with
  | zero =>
    intro s hs
    obtain rfl : s = k := by omega
    refine tbX11_agrees_32_66 (br_t (by rw [h2]; exact nI_le (Nat.le_refl _) (by omega)) ⟨_, _, cp_same (fc_freeCount hc hk1 ho), fun z => absurd hx.symm z, fun _ => ⟨_, _, cp_same (sc_totalWelfare hc ho), fun z => absurd rfl z, fun _ => ⟨_, _, cp_same (fc_leastWelfare hc hk1 ho), fun z => absurd rfl z, fun _ => ⟨_, _, cp_same (fc_inconsistencies hc ho), fun z => absurd (pl_inc hn hk hg) z, fun _ => ⟨rfl, rfl⟩⟩⟩⟩⟩)
  | succ d ih =>
    intro s hs
    refine tbX11_agrees_32_66 (br_f (by rw [h2]; exact nI_ge (by omega) (by omega)) ?_)
    refine pl_agr3 hh hvv h40 (show s < k by omega) ?_ k 0 (by omega)
    have h9 := ih (s + 1) (by omega)
    have bw : ∀ s, s < k → sp_w v ow n s s ≤ 216 := fun s hs => Nat.le_trans (sp_own_le hd hs (Nat.le_refl n)) (by omega)
    have bm : sp_min (fun s => sp_w v ow n s s) (s - 1) ≤ 216 := Nat.le_trans (sp_min_le (f := fun s => sp_w v ow n s s) (i := s - 1) (j := 0) (Nat.zero_le _)) (bw 0 (by omega))
    have e : (if nI (sp_w v ow n s s) < nI (sp_min (fun s => sp_w v ow n s s) (s - 1)) then nI (sp_w v ow n s s) else nI (sp_min (fun s => sp_w v ow n s s) (s - 1))) = nI (sp_min (fun s => sp_w v ow n s s) (s + 1 - 1)) := by
      have e2 := pl_min0 (fun s => sp_w v ow n s s) s
      rw [Nat.add_sub_cancel, ← e2]
      by_cases z : sp_w v ow n s s < sp_min (fun s => sp_w v ow n s s) (s - 1)
      · rw [if_pos z, if_pos (nI_lt z (by omega))]
      · rw [if_neg z, if_neg (fun z2 => z ((nI_ltI (by have := bw s (by omega); omega) (by omega)).mp z2))]
    rw [e, nI_add]
    exact h9
theorem pl_agr1 (h : ps n k v ow q u I) (hv : pl_v n k v I) (h40 : ∀ c, c < n → I 40 c = ow c) : ∀ d c, c + d = n → bX11_agrees_32_4 K (some (.int 1)) I (nI (sp_cnt ow (-1) c)) (nI c) I := by
  have hh := h
  have hvv := hv
  obtain ⟨hc, hn1, hk1, ho, hg, -⟩ := h
  obtain ⟨h1, h2, hn, hk, hd, hvv2⟩ := hv
  intro d
  induction d with
  | zero =>
    intro c hcd
    obtain rfl : c = n := by omega
    refine tbX11_agrees_32_4 (br_t (by rw [h1]; exact nI_le (Nat.le_refl _) (by omega)) ⟨_, _, pl_worth hvv h40 (s := 0) (by omega) 0, ?_⟩)
    exact pl_agr2 hh hvv h40 rfl k 0 (by omega)
  | succ d ih =>
    intro c hcd
    have h9 := ih (c + 1) (by omega)
    refine tbX11_agrees_32_4 (br_f (by rw [h1]; exact nI_ge (by omega) (by omega)) ⟨_, _, cp_same (fc_owner hc ho (show c < n by omega)), vp_in_nI (by omega) (by omega), ?_⟩)
    rw [nI_clamp (show c < 2 ^ 31 by omega), h40 c (by omega), nI_1, nI_1, pl_0]
    refine ⟨fun _ => ⟨vp_in_nI (by omega) (by omega), fun z => ?_, fun z => ?_⟩, fun z => absurd rfl z⟩
    · have e : sp_cnt ow (-1) (c + 1) = sp_cnt ow (-1) c := by
        show sp_cnt ow (-1) c + (if ow c = -1 then 1 else 0) = _
        rw [if_neg (fun z2 => pl_m1 (by rw [z2] at z; exact z)), Nat.add_zero]
      rw [e] at h9
      exact h9
    · have e : sp_cnt ow (-1) (c + 1) = sp_cnt ow (-1) c + 1 := by
        show sp_cnt ow (-1) c + (if ow c = -1 then 1 else 0) = _
        rw [if_pos]
        rcases hg c (by omega) with z2 | ⟨s, hs, z2⟩
        · exact z2
        · exact absurd (by rw [z2]; exact nI_pos' (by omega)) z
      rw [e] at h9
      exact h9
theorem pl_agrees (h : ps n k v ow q u I) (hv : pl_v n k v I) (h40 : ∀ c, c < n → I 40 c = ow c) : cw_C (cp_w K) mX11_agrees [.ref (cw_a (cp_w K) 32)] I (some (.int 1)) I := eX11_agrees_32 (pl_agr1 h hv h40 n 0 (by omega))
end PLA
