/-! ## the best least: the class -/
theorem sp_gr_gt {v : Nat → Nat → Nat} {n t : Nat} : ∀ (l : List Nat) (c : Nat), n < c → n < sp_gr v n t l c
  | [], _, h => h
  | a :: l, c, h => sp_gr_gt l _ (by unfold sp_E2; rw [if_pos h]; omega)
/-- whether each can have t -/
abbrev sp_can (v : Nat → Nat → Nat) (n k t : Nat) : Bool := decide (sp_L v n k t (2 ^ k - 1) ≤ n)
theorem sp_can_mono {v : Nat → Nat → Nat} {n k t t' : Nat} (hk : k < 7) (ht : 1 ≤ t) (htt : t ≤ t') (h : sp_can v n k t' = true) : sp_can v n k t = true := by
  obtain ⟨l, h1, h2⟩ := (sp_can_iff hk (show 1 ≤ t' by omega)).mp (of_decide_eq_true h)
  exact decide_eq_true ((sp_can_iff hk ht).mpr ⟨l, h1, Nat.le_trans (sp_gr_mono ht htt l 0 0 (Nat.le_refl 0)) h2⟩)
theorem sp_en_mem {k : Nat} (hk : k < 7) {l : List Nat} (h : l ∈ sp_en k 720 (List.range k)) : l.length = k ∧ ∀ s ∈ l, s < k := by
  have h1 := List.all_eq_true.mp (sp_en_ok k hk) l h
  rw [Bool.and_eq_true] at h1
  exact ⟨by simpa using h1.1, fun s hs => of_decide_eq_true (List.all_eq_true.mp h1.2 s hs)⟩
theorem sp_gr_big {v : Nat → Nat → Nat} {n k t : Nat} (hv : sp_dig v n k) (hn : n ≤ 24) (hk1 : 1 ≤ k) (hk : k < 7) (ht : 217 ≤ t) {l : List Nat} (h : l ∈ sp_en k 720 (List.range k)) : n < sp_gr v n t l 0 := by
  obtain ⟨h1, h2⟩ := sp_en_mem hk h
  cases l with
  | nil => simp at h1; omega
  | cons s l =>
    refine sp_gr_gt l _ ?_
    apply Nat.lt_of_not_le
    intro z
    have h3 := ((sp_E2_iff (v := v) (s := s) (c := 0) (show 1 ≤ t by omega) z).mp (Nat.le_refl _)).2
    have hs := h2 s List.mem_cons_self
    have h4 : sp_W (v s) 0 (sp_E2 v n t s 0) ≤ 9 * (sp_E2 v n t s 0 - 0) := sp_s_le (m := 9) fun j hj => hv s (0 + j) hs (by omega)
    omega
theorem sp_can_big {v : Nat → Nat → Nat} {n k t : Nat} (hv : sp_dig v n k) (hn : n ≤ 24) (hk1 : 1 ≤ k) (hk : k < 7) (ht : 217 ≤ t) : sp_can v n k t = false := by
  refine decide_eq_false fun z => ?_
  obtain ⟨l, h1, h2⟩ := (sp_can_iff hk (show 1 ≤ t by omega)).mp z
  have := sp_gr_big hv hn hk1 hk ht h1
  omega
/-- the sum of the powers of two that can be had -/
def sp_bl (P : Nat → Bool) : Nat → Nat → Nat
  | 0, w => w
  | i + 1, w => sp_bl P i (if P (w + 2 ^ i) = true then w + 2 ^ i else w)
theorem sp_bl_spec {P : Nat → Bool} : ∀ i w, (w = 0 ∨ P w = true) → P (w + 2 ^ i) = false → (sp_bl P i w = 0 ∨ P (sp_bl P i w) = true) ∧ P (sp_bl P i w + 1) = false
  | 0, w, h1, h2 => ⟨h1, h2⟩
  | i + 1, w, h1, h2 => by
    show (sp_bl P i (if P (w + 2 ^ i) = true then w + 2 ^ i else w) = 0 ∨ _) ∧ _
    by_cases z : P (w + 2 ^ i) = true
    · have e : sp_bl P (i + 1) w = sp_bl P i (w + 2 ^ i) := by
        show sp_bl P i (if P (w + 2 ^ i) = true then w + 2 ^ i else w) = _
        rw [if_pos z]
      rw [if_pos z, e]
      refine sp_bl_spec i _ (Or.inr z) ?_
      rw [Nat.add_assoc, ← Nat.two_mul, Nat.mul_comm, ← Nat.pow_succ]
      exact h2
    · have e : sp_bl P (i + 1) w = sp_bl P i w := by
        show sp_bl P i (if P (w + 2 ^ i) = true then w + 2 ^ i else w) = _
        rw [if_neg z]
      rw [if_neg z, e]
      exact sp_bl_spec i _ h1 (by simpa using z)
theorem sp_bl_le {P : Nat → Bool} : ∀ i w, sp_bl P i w < w + 2 ^ i
  | 0, w => by show w < w + 1; omega
  | i + 1, w => by
    have h := sp_bl_le (P := P) i (if P (w + 2 ^ i) = true then w + 2 ^ i else w)
    have hp := Nat.two_pow_pos i
    show sp_bl P i (if P (w + 2 ^ i) = true then w + 2 ^ i else w) < _
    have e : 2 ^ (i + 1) = 2 ^ i + 2 ^ i := by rw [Nat.pow_succ]; omega
    rw [e]
    split at h
    · rename_i z; rw [if_pos z]; omega
    · rename_i z; rw [if_neg z]; omega
/-- the greatest worth that each can have -/
abbrev sp_best (v : Nat → Nat → Nat) (n k : Nat) : Nat := sp_bl (sp_can v n k) 8 0
theorem sp_best_spec {v : Nat → Nat → Nat} {n k : Nat} (hv : sp_dig v n k) (hn : n ≤ 24) (hk1 : 1 ≤ k) (hk : k < 7) : (sp_best v n k = 0 ∨ sp_can v n k (sp_best v n k) = true) ∧ sp_can v n k (sp_best v n k + 1) = false := sp_bl_spec 8 0 (Or.inl rfl) (sp_can_big hv hn hk1 hk (by decide))
theorem sp_best_eq {v : Nat → Nat → Nat} {n k w : Nat} (hv : sp_dig v n k) (hn : n ≤ 24) (hk1 : 1 ≤ k) (hk : k < 7) (h1 : w = 0 ∨ sp_can v n k w = true) (h2 : sp_can v n k (w + 1) = false) : w = sp_best v n k := by
  obtain ⟨h3, h4⟩ := sp_best_spec hv hn hk1 hk
  rcases Nat.lt_trichotomy w (sp_best v n k) with z | z | z
  · rcases h3 with h3 | h3
    · omega
    · rw [sp_can_mono hk (by omega) (show w + 1 ≤ sp_best v n k by omega) h3] at h2
      cases h2
  · exact z
  · rcases h1 with h1 | h1
    · omega
    · rw [sp_can_mono hk (by omega) (show sp_best v n k + 1 ≤ w by omega) h1] at h4
      cases h4
section LEAC
variable {K : cw_K} {I : cw_M} {n k : Nat} {v : Nat → Nat → Nat}
theorem sl_endOfPiece (h : sp_cv n k v I) {s t : Nat} (hs : s < k) (ht : t < 2 ^ 31) : ∀ d c a : Nat, c + d = n → a ≤ 9 * c → bX2_endOfPiece_22_6 K (some (.int (nI (sp_ep (v s) t d c a)))) I (nI s) (nI t) (nI a) (nI c) I := by
  have hn := h.2.2.1
  intro d
  induction d with
  | zero =>
    intro c a hc ha
    have e0 : c = n := by omega
    subst e0
    refine tbX2_endOfPiece_22_6 (br_t (by rw [h.1]; exact nI_le (Nat.le_refl _) (by omega)) ?_)
    rw [h.1, nI_1]
    exact ⟨rfl, rfl⟩
  | succ d ih =>
    intro c a hc ha
    have b1 := h.2.2.2.2.1 s c hs (by omega)
    have h1 := ih (c + 1) (a + v s c) (by omega) (by omega)
    have e : sp_ep (v s) t (d + 1) c a = if t ≤ a + v s c then c + 1 else sp_ep (v s) t d (c + 1) (a + v s c) := rfl
    refine tbX2_endOfPiece_22_6 (br_f (by rw [h.1]; exact nI_ge (by omega) (by omega)) ⟨_, _, sc_valueOf h hs (show c < n by omega), ?_⟩)
    rw [nI_add, nI_1, e]
    refine ⟨fun q => ?_, fun q => ?_⟩
    · have q2 := (nI_ltI (by omega) (by omega)).mp q
      rw [if_neg (by omega)]
      exact h1
    · have q2 : ¬ a + v s c < t := fun z => q (nI_lt z (by omega))
      rw [if_pos (by omega)]
      exact ⟨rfl, rfl⟩
theorem sc_endOfPiece (h : sp_cv n k v I) {s t c : Nat} (hs : s < k) (ht : t < 2 ^ 31) (hc : c ≤ n + 1) : cw_C (cc_w K) mX2_endOfPiece [.ref (cw_a (cc_w K) 22), .int (nI s), .int (nI c), .int (nI t)] I (some (.int (nI (sp_E2 v n t s c)))) I := by
  have hn := h.2.2.1
  refine eX2_endOfPiece_22 ?_
  unfold sp_E2
  by_cases z : n < c
  · rw [if_pos z]
    refine tbX2_endOfPiece_22_6 (br_t (by rw [h.1]; exact nI_le (by omega) (by omega)) ?_)
    rw [h.1, nI_1]
    exact ⟨rfl, rfl⟩
  · rw [if_neg z]
    exact sl_endOfPiece h hs ht (n - c) c 0 (by omega) (Nat.zero_le _)
theorem sl_can37 (h : sp_cv n k v I) {G t all : Nat} (hG : G < 64) (hG1 : 1 ≤ G) (ht : t < 2 ^ 31) {r : Option Value} (hout : ∀ f : Nat → Int32, (∀ H, H < G + 1 → f H = nI (sp_L v n k t H)) → ∃ f2, bX2_canGiveEach_22_14 K r (cw_up I 24 f2) (nI t) (nI all) (nI (G + 1)) (cw_up I 24 f)) : ∀ (d s : Nat) (f : Nat → Int32), s + d = k → (∀ H, H < G → f H = nI (sp_L v n k t H)) → f G = nI (sp_lm v n t (sp_L v n k t) G s) → ∃ f2, bX2_canGiveEach_22_37 K r (cw_up I 24 f2) (nI t) (nI all) (nI G) (nI s) (cw_up I 24 f) := by
  have hn := h.2.2.1
  have hk := h.2.2.2.1
  intro d
  induction d with
  | zero =>
    intro s f hs h1 h2
    have e0 : s = k := by omega
    rw [e0] at h2 ⊢
    have hI : sp_cv n k v (cw_up I 24 f) := h.up (by decide) (by decide)
    obtain ⟨f2, h3⟩ := hout f (fun H hH => by
      by_cases z : H = G
      · rw [z, h2, sp_L_eq hG1]
      · exact h1 H (by omega))
    refine ⟨f2, tbX2_canGiveEach_22_37 (br_t (by rw [hI.2.1]; exact nI_le (Nat.le_refl _) (by omega)) ?_)⟩
    rw [nI_1]
    exact h3
  | succ d ih =>
    intro s f hs h1 h2
    have hI : sp_cv n k v (cw_up I 24 f) := h.up (by decide) (by decide)
    have hf : (cw_up I 24 f) 24 = f := by simp [cw_up]
    have elm : sp_lm v n t (sp_L v n k t) G (s + 1) = if G.testBit s = true then min (sp_lm v n t (sp_L v n k t) G s) (sp_E2 v n t s (sp_L v n k t (G - 2 ^ s))) else sp_lm v n t (sp_L v n k t) G s := rfl
    by_cases hb : G.testBit s = true
    · obtain ⟨-, hbits⟩ := sp_bits G hG s (by omega)
      obtain ⟨g0, -, g1, g2⟩ := hbits hb
      have b1 := sp_L_le (v := v) (n := n) (k := k) (t := t) (G := G - 2 ^ s)
      have b2 := sp_E2_le (v := v) (n := n) (t := t) (s := s) (c := sp_L v n k t (G - 2 ^ s))
      have b3 := sp_lm_max (v := v) (n := n) (t := t) (T := sp_L v n k t) (G := G) (s := s)
      obtain ⟨f2, h3⟩ := ih (s + 1) (upd f G (nI (min (sp_lm v n t (sp_L v n k t) G s) (sp_E2 v n t s (sp_L v n k t (G - 2 ^ s)))))) (by omega) (fun H hH => by
        unfold upd
        rw [if_neg (by omega)]
        exact h1 H hH) (by
        unfold upd
        rw [if_pos rfl, elm, if_pos hb])
      refine ⟨f2, tbX2_canGiveEach_22_37 (br_f (by rw [hI.2.1]; exact nI_ge (by omega) (by omega)) ⟨_, _, sc_contains hG (show s < 6 by omega), fun q => absurd hb (sp_bit0 q), fun _ => ?_⟩)⟩
      rw [g0, nI_clamp (by omega), nI_clamp (by omega), hf, h1 (G - 2 ^ s) (by omega), nI_1]
      refine ⟨vp_in_nI (by omega) (by omega), vp_in_nI (by omega) (by omega), _, _, sc_endOfPiece hI (show s < k by omega) ht b1, vp_in_nI (by omega) (by omega), ?_⟩
      rw [h2]
      have e3 : (if nI (sp_E2 v n t s (sp_L v n k t (G - 2 ^ s))) < nI (sp_lm v n t (sp_L v n k t) G s) then nI (sp_E2 v n t s (sp_L v n k t (G - 2 ^ s))) else nI (sp_lm v n t (sp_L v n k t) G s)) = nI (min (sp_lm v n t (sp_L v n k t) G s) (sp_E2 v n t s (sp_L v n k t (G - 2 ^ s)))) := by
        by_cases z : sp_E2 v n t s (sp_L v n k t (G - 2 ^ s)) < sp_lm v n t (sp_L v n k t) G s
        · rw [if_pos (nI_lt z (by omega)), Nat.min_eq_right (by omega)]
        · rw [if_neg (fun y => z ((nI_ltI (by omega) (by omega)).mp y)), Nat.min_eq_left (by omega)]
      have e9 : ∀ y, cw_st (cw_up I 24 f) 24 G y = cw_up I 24 (upd f G y) := fun y => by
        show cw_up (cw_up I 24 f) 24 (upd ((cw_up I 24 f) 24) G y) = _
        rw [sp_upup, hf]
      rw [e3, e9]
      exact h3
    · obtain ⟨f2, h3⟩ := ih (s + 1) f (by omega) h1 (by rw [elm, if_neg hb]; exact h2)
      refine ⟨f2, tbX2_canGiveEach_22_37 (br_f (by rw [hI.2.1]; exact nI_ge (by omega) (by omega)) ⟨_, _, sc_contains hG (show s < 6 by omega), fun _ => ?_, fun q => absurd (sp_bit1 q) hb⟩)⟩
      rw [nI_1]
      exact h3
theorem sl_can14 (h : sp_cv n k v I) {t : Nat} (ht : t < 2 ^ 31) : ∀ (d G : Nat) (f : Nat → Int32), G + d = 2 ^ k → 1 ≤ G → (∀ H, H < G → f H = nI (sp_L v n k t H)) → ∃ f2, bX2_canGiveEach_22_14 K (some (.int (if sp_can v n k t = true then 1 else 0))) (cw_up I 24 f2) (nI t) (nI (2 ^ k - 1)) (nI G) (cw_up I 24 f) := by
  have hn := h.2.2.1
  have hk := h.2.2.2.1
  obtain ⟨-, a1, a2⟩ := sp_all k (by omega)
  intro d
  induction d with
  | zero =>
    intro G f hG hG1 h1
    have e0 : G = 2 ^ k := by omega
    rw [e0] at h1 ⊢
    have hI : sp_cv n k v (cw_up I 24 f) := h.up (by decide) (by decide)
    have b1 := sp_L_le (v := v) (n := n) (k := k) (t := t) (G := 2 ^ k - 1)
    refine ⟨f, tbX2_canGiveEach_22_14 (br_t (nI_lt (by omega) (by omega)) ⟨vp_in_nI (by omega) (by omega), ?_⟩)⟩
    rw [nI_clamp (by omega), hI.1, show (cw_up I 24 f) 24 (2 ^ k - 1) = nI (sp_L v n k t (2 ^ k - 1)) from h1 _ (by omega)]
    refine ⟨fun q => ?_, fun q => ?_⟩
    · have q2 := (nI_ltI (by omega) (by omega)).mp q
      rw [if_neg (fun z => absurd (of_decide_eq_true z) (by omega))]
      exact ⟨rfl, rfl⟩
    · have q2 : ¬ n < sp_L v n k t (2 ^ k - 1) := fun z => q (nI_lt z (by omega))
      rw [if_pos (decide_eq_true (Nat.not_lt.mp q2))]
      exact ⟨rfl, rfl⟩
  | succ d ih =>
    intro G f hG hG1 h1
    have hI : sp_cv n k v (cw_up I 24 f) := h.up (by decide) (by decide)
    have hf : (cw_up I 24 f) 24 = f := by simp [cw_up]
    obtain ⟨f2, h3⟩ := sl_can37 (K := K) h (show G < 64 by omega) hG1 ht (fun f h => ih (G + 1) f (by omega) (by omega) h) k 0 (upd f G (nI (n + 1))) (by omega) (fun H hH => by
      unfold upd
      rw [if_neg (by omega)]
      exact h1 H hH) (by
      unfold upd
      rw [if_pos rfl]
      rfl)
    refine ⟨f2, tbX2_canGiveEach_22_14 (br_f (fun z => absurd ((nI_ltI (by omega) (by omega)).mp z) (by omega)) ⟨vp_in_nI (by omega) (by omega), ?_⟩)⟩
    have e9 : ∀ y, cw_st (cw_up I 24 f) 24 G y = cw_up I 24 (upd f G y) := fun y => by
      show cw_up (cw_up I 24 f) 24 (upd ((cw_up I 24 f) 24) G y) = _
      rw [sp_upup, hf]
    rw [nI_clamp (by omega), hI.1, nI_1, e9]
    exact h3
theorem sc_canGiveEach (h : sp_cv n k v I) {t : Nat} (ht : t < 2 ^ 31) : ∃ f2, cw_C (cc_w K) mX2_canGiveEach [.ref (cw_a (cc_w K) 22), .int (nI t)] I (some (.int (if sp_can v n k t = true then 1 else 0))) (cw_up I 24 f2) := by
  have hk := h.2.2.2.1
  obtain ⟨-, a1, a2⟩ := sp_all k (by omega)
  obtain ⟨f2, h1⟩ := sl_can14 (K := K) h ht (2 ^ k - 1) 1 (upd (I 24) 0 0) (by omega) (Nat.le_refl 1) (fun H hH => by
    have : H = 0 := by omega
    subst this
    unfold upd
    rw [if_pos rfl]
    rfl)
  exact ⟨f2, eX2_canGiveEach_22 ⟨_, _, sc_groupOfAll h, h1⟩⟩
/-- the step, with i steps to go -/
def sp_stp (i : Nat) : Nat := if i = 0 then 0 else 2 ^ (i - 1)
theorem sp_stp_half : ∀ i, i < 8 → nI (sp_stp (i + 1)) / 2 = nI (sp_stp i) ∧ sp_stp (i + 1) = 2 ^ i ∧ ¬ nI (sp_stp (i + 1)) ≤ 0 ∧ 2 ^ i ≤ 128 := by decide +kernel
theorem sl_greatestLeast (h : sp_cv n k v I) : ∀ (i w : Nat) (f : Nat → Int32), i ≤ 8 → w + 2 ^ i ≤ 256 → ∃ f2, bX2_findGreatestLeast_22_6 K (some (.int (nI (sp_bl (sp_can v n k) i w)))) (cw_up I 24 f2) (nI w) (nI (sp_stp i)) (cw_up I 24 f) := by
  intro i
  induction i with
  | zero =>
    intro w f hi hw
    exact ⟨f, tbX2_findGreatestLeast_22_6 (br_t (by decide) ⟨rfl, rfl⟩)⟩
  | succ i ih =>
    intro w f hi hw
    obtain ⟨s1, s2, s3, s4⟩ := sp_stp_half i (by omega)
    have hI : sp_cv n k v (cw_up I 24 f) := h.up (by decide) (by decide)
    obtain ⟨f1, hc⟩ := sc_canGiveEach (K := K) hI (t := w + 2 ^ i) (by omega)
    rw [sp_upup] at hc
    have e : sp_bl (sp_can v n k) (i + 1) w = sp_bl (sp_can v n k) i (if sp_can v n k (w + 2 ^ i) = true then w + 2 ^ i else w) := rfl
    by_cases z : sp_can v n k (w + 2 ^ i) = true
    · have hwb : w + 2 ^ i + 2 ^ i ≤ 256 := by
        rw [Nat.pow_succ] at hw; omega
      obtain ⟨f2, h1⟩ := ih (w + 2 ^ i) f1 (by omega) hwb
      refine ⟨f2, tbX2_findGreatestLeast_22_6 (br_f s3 ?_)⟩
      rw [s1, s2, nI_add, e, if_pos z]
      rw [if_pos z] at hc
      exact ⟨_, _, hc, fun y => absurd y (by decide), fun _ => ⟨by decide, h1⟩⟩
    · obtain ⟨f2, h1⟩ := ih w f1 (by omega) (by rw [Nat.pow_succ] at hw; omega)
      refine ⟨f2, tbX2_findGreatestLeast_22_6 (br_f s3 ?_)⟩
      rw [s1, s2, nI_add, e, if_neg z]
      rw [if_neg z] at hc
      exact ⟨_, _, hc, fun _ => ⟨by decide, h1⟩, fun y => absurd rfl y⟩
end LEAC
section LEAD
variable {K : cw_K} {I : cw_M} {n k : Nat} {v : Nat → Nat → Nat}
theorem sc_findGreatestLeast (h : sp_cv n k v I) : ∃ f2, cw_C (cc_w K) mX2_findGreatestLeast [.ref (cw_a (cc_w K) 22)] I (some (.int (nI (sp_best v n k)))) (cw_up I 24 f2) := by
  obtain ⟨f2, h1⟩ := sl_greatestLeast (K := K) h 8 0 (I 24) (Nat.le_refl 8) (by decide)
  rw [sp_upself] at h1
  exact ⟨f2, eX2_findGreatestLeast_22 h1⟩
end LEAD
