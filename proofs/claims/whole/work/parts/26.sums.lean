/-! ## the greatest sum of one piece each: the class -/
/-- the greatest, the last piece ending here, beginning anywhere; p: what the others have to the left -/
def sp_ex (x p : Nat → Nat) : Nat → Nat
  | 0 => p 0
  | e + 1 => max (sp_ex x p e + x e) (p (e + 1))
/-- the group G, its siblings below s taken into account; T: the groups before -/
def sp_ac (v : Nat → Nat → Nat) (T : Nat → Nat → Nat) (G : Nat) : Nat → Nat → Nat
  | 0 => fun _ => 0
  | s + 1 => fun e => if G.testBit s = true then max (sp_ac v T G s e) (sp_ex (v s) (T (G - 2 ^ s)) e) else sp_ac v T G s e
/-- the groups below G -/
def sp_tb (v : Nat → Nat → Nat) (k : Nat) : Nat → Nat → Nat → Nat
  | 0 => fun _ _ => 0
  | G + 1 => fun H e => if H = G then sp_ac v (sp_tb v k G) G k e else sp_tb v k G H e
theorem sp_tb_hi {v : Nat → Nat → Nat} {k : Nat} : ∀ {G H e : Nat}, G ≤ H → sp_tb v k G H e = 0
  | 0, _, _, _ => rfl
  | G + 1, H, e, h => by
    show (if H = G then _ else sp_tb v k G H e) = 0
    rw [if_neg (by omega)]
    exact sp_tb_hi (by omega)
theorem sp_ex_le {x p : Nat → Nat} {B n : Nat} (hx : ∀ c, c < n → x c ≤ 9) (hp : ∀ e, e ≤ n → p e ≤ B) : ∀ e, e ≤ n → sp_ex x p e ≤ B + 9 * e
  | 0, h => by have := hp 0 h; show p 0 ≤ _; omega
  | e + 1, h => by
    have h1 := sp_ex_le hx hp e (by omega)
    have h2 := hx e (by omega)
    have h3 := hp (e + 1) h
    show max (sp_ex x p e + x e) (p (e + 1)) ≤ _
    omega
theorem sp_ac_le {v : Nat → Nat → Nat} {T : Nat → Nat → Nat} {G n k B : Nat} (hv : sp_dig v n k) (hn : n ≤ 24) (hT : ∀ H e, H < G → e ≤ n → T H e + 216 ≤ B) : ∀ {s e : Nat}, s ≤ k → e ≤ n → sp_ac v T G s e ≤ B
  | 0, e, _, _ => Nat.zero_le _
  | s + 1, e, hs, he => by
    have h1 := sp_ac_le hv hn hT (s := s) (e := e) (by omega) he
    show (if G.testBit s = true then max (sp_ac v T G s e) (sp_ex (v s) (T (G - 2 ^ s)) e) else sp_ac v T G s e) ≤ B
    by_cases z : G.testBit s = true
    · rw [if_pos z]
      have h2 : 2 ^ s ≤ G := Nat.ge_two_pow_of_testBit z
      have h3 := Nat.two_pow_pos s
      have h4 := sp_ex_le (x := v s) (p := T (G - 2 ^ s)) (B := B - 216) (n := n) (fun c hc => hv s c (by omega) hc) (fun e he => by have := hT (G - 2 ^ s) e (by omega) he; omega) e he
      have h5 := hT (G - 2 ^ s) e (by omega) he
      omega
    · rw [if_neg z]
      exact h1
theorem sp_tb_le {v : Nat → Nat → Nat} {n k : Nat} (hv : sp_dig v n k) (hn : n ≤ 24) : ∀ {G H e : Nat}, e ≤ n → sp_tb v k G H e ≤ 216 * G
  | 0, _, _, _ => Nat.zero_le _
  | G + 1, H, e, he => by
    show (if H = G then sp_ac v (sp_tb v k G) G k e else sp_tb v k G H e) ≤ _
    by_cases z : H = G
    · rw [if_pos z]
      exact sp_ac_le hv hn (fun H e _ he => by have := sp_tb_le hv hn (G := G) (H := H) he; omega) (Nat.le_refl k) he
    · rw [if_neg z]
      have := sp_tb_le hv hn (G := G) (H := H) he
      omega
/-- a row of 25 places to a group: the groups below G, and of G the first m -/
def sp_g2 (A : Nat → Nat → Nat) (n G m : Nat) (f : Nat → Int32) : Nat → Int32 := fun j => if j % 25 ≤ n ∧ (j / 25 < G ∨ (j / 25 = G ∧ j % 25 < m)) then nI (A (j / 25) (j % 25)) else f j
theorem sp_g2_0 (A : Nat → Nat → Nat) (n : Nat) (f : Nat → Int32) : sp_g2 A n 0 0 f = f := by
  funext j
  unfold sp_g2
  rw [if_neg (by omega)]
theorem sp_g2_row (A : Nat → Nat → Nat) (n G : Nat) (f : Nat → Int32) : sp_g2 A n G (n + 1) f = sp_g2 A n (G + 1) 0 f := by
  funext j
  unfold sp_g2
  by_cases h : j % 25 ≤ n ∧ (j / 25 < G ∨ (j / 25 = G ∧ j % 25 < n + 1))
  · rw [if_pos h, if_pos (by omega)]
  · rw [if_neg h, if_neg (by omega)]
theorem sp_g2_add (A : Nat → Nat → Nat) {n G m : Nat} (hn : n ≤ 24) (hm : m ≤ n) (f : Nat → Int32) : upd (sp_g2 A n G m f) (G * 25 + m) (nI (A G m)) = sp_g2 A n G (m + 1) f := by
  funext j
  unfold upd sp_g2
  by_cases hj : j = G * 25 + m
  · have h1 : j / 25 = G := by omega
    have h2 : j % 25 = m := by omega
    rw [if_pos hj, h1, h2, if_pos (by omega)]
  · rw [if_neg hj]
    by_cases h : j % 25 ≤ n ∧ (j / 25 < G ∨ (j / 25 = G ∧ j % 25 < m))
    · rw [if_pos h, if_pos (by omega)]
    · rw [if_neg h, if_neg (by omega)]
theorem sp_g2_set (A B : Nat → Nat → Nat) {n G e : Nat} (hn : n ≤ 24) (he : e ≤ n) (f : Nat → Int32) (h : ∀ H d, H ≤ G → d ≤ n → ¬ (H = G ∧ d = e) → A H d = B H d) : upd (sp_g2 A n G (n + 1) f) (G * 25 + e) (nI (B G e)) = sp_g2 B n G (n + 1) f := by
  funext j
  unfold upd sp_g2
  by_cases hj : j = G * 25 + e
  · have h1 : j / 25 = G := by omega
    have h2 : j % 25 = e := by omega
    rw [if_pos hj, h1, h2, if_pos (by omega)]
  · rw [if_neg hj]
    by_cases h2 : j % 25 ≤ n ∧ (j / 25 < G ∨ (j / 25 = G ∧ j % 25 < n + 1))
    · rw [if_pos h2, if_pos h2, h _ _ (by omega) h2.1 (by omega)]
    · rw [if_neg h2, if_neg h2]
theorem sp_g2_congr (A B : Nat → Nat → Nat) {n G m : Nat} (f : Nat → Int32) (h : ∀ H d, H ≤ G → d ≤ n → A H d = B H d) : sp_g2 A n G m f = sp_g2 B n G m f := by
  funext j
  unfold sp_g2
  by_cases h2 : j % 25 ≤ n ∧ (j / 25 < G ∨ (j / 25 = G ∧ j % 25 < m))
  · rw [if_pos h2, if_pos h2, h _ _ (by omega) h2.1]
  · rw [if_neg h2, if_neg h2]
theorem sp_g2_at (A : Nat → Nat → Nat) {n G m H e : Nat} (hn : n ≤ 24) (he : e ≤ n) (h : H < G ∨ (H = G ∧ e < m)) (f : Nat → Int32) : sp_g2 A n G m f (H * 25 + e) = nI (A H e) := by
  have h1 : (H * 25 + e) / 25 = H := by omega
  have h2 : (H * 25 + e) % 25 = e := by omega
  unfold sp_g2
  rw [h1, h2, if_pos (by omega)]
/-- the groups below G, and G with the siblings below s -/
abbrev sp_As (v : Nat → Nat → Nat) (k G s : Nat) : Nat → Nat → Nat := fun H e => if H = G then sp_ac v (sp_tb v k G) G s e else sp_tb v k G H e
/-- the same, and with s for the ends below e -/
abbrev sp_Ae (v : Nat → Nat → Nat) (k G s e : Nat) : Nat → Nat → Nat := fun H d => if H = G then (if d < e then sp_ac v (sp_tb v k G) G (s + 1) d else sp_ac v (sp_tb v k G) G s d) else sp_tb v k G H d
theorem sp_bits : ∀ G, G < 64 → ∀ s, s < 6 → ((nI G >>> (nI s &&& 31)) &&& 1 = if G.testBit s then 1 else 0) ∧ (G.testBit s = true → nI G - (1 <<< (nI s &&& 31)) = nI (G - 2 ^ s) ∧ nI G &&& ((1 <<< (nI s &&& 31)) ^^^ (-1)) = nI (G - 2 ^ s) ∧ 2 ^ s ≤ G ∧ 1 ≤ 2 ^ s) := by decide +kernel
theorem sp_all : ∀ k, k < 7 → (1 : Int32) <<< (nI k &&& 31) = nI (2 ^ k) ∧ 1 ≤ 2 ^ k ∧ 2 ^ k ≤ 64 := by decide +kernel
section SUMC
variable {K : cw_K} {I : cw_M} {n k : Nat} {v : Nat → Nat → Nat}
theorem sc_contains {G s : Nat} (hG : G < 64) (hs : s < 6) : cw_C (cc_w K) mX2_contains [.ref (cw_a (cc_w K) 22), .int (nI G), .int (nI s)] I (some (.int (if G.testBit s = true then 1 else 0))) I := by
  have h := (sp_bits G hG s hs).1
  refine eX2_contains_22 ?_
  rw [h]
  by_cases z : G.testBit s = true
  · rw [if_pos z]
    exact ⟨fun y => absurd rfl y, fun _ => ⟨rfl, rfl⟩⟩
  · rw [if_neg z]
    exact ⟨fun _ => ⟨rfl, rfl⟩, fun y => absurd y (by decide)⟩
theorem sc_groupOfAll (h : sp_cv n k v I) : cw_C (cc_w K) mX2_groupOfAll [.ref (cw_a (cc_w K) 22)] I (some (.int (nI (2 ^ k - 1)))) I := by
  have hk := h.2.2.2.1
  refine eX2_groupOfAll_22 ?_
  rw [h.2.1, (sp_all k (by omega)).1, show nI (2 ^ k) - 1 = nI (2 ^ k - 1) from sp_sub (b := 1) (sp_all k (by omega)).2.1]
  exact ⟨rfl, rfl⟩
theorem sl_raiseSums (h : sp_cv n k v I) {G s : Nat} (hG : G < 64) (hs : s < k) (hb : G.testBit s = true) (f : Nat → Int32) : ∀ d e : Nat, e + d = n + 1 → bX2_raiseSums_22_21 K none (cw_up I 23 (sp_g2 (sp_As v k G (s + 1)) n G (n + 1) f)) (nI s) (nI (G * 25)) (nI ((G - 2 ^ s) * 25)) (if e = 0 then 0 else nI (sp_ex (v s) (sp_tb v k G (G - 2 ^ s)) (e - 1))) (nI e) (cw_up I 23 (sp_g2 (sp_Ae v k G s e) n G (n + 1) f)) := by
  have hn := h.2.2.1
  have hk := h.2.2.2.1
  have hv := h.2.2.2.2.1
  obtain ⟨-, hbits⟩ := sp_bits G hG s (by omega)
  obtain ⟨-, -, g1, g2⟩ := hbits hb
  have hTb : ∀ {H e}, e ≤ n → sp_tb v k G H e ≤ 13824 := fun {H e} he => by
    have := sp_tb_le hv hn (G := G) (H := H) he
    omega
  have hXb : ∀ e, e ≤ n → sp_ex (v s) (sp_tb v k G (G - 2 ^ s)) e ≤ 13824 + 9 * e := sp_ex_le (fun c hc => hv s c hs hc) (fun e he => hTb he)
  have hAb : ∀ e, e ≤ n → sp_ac v (sp_tb v k G) G s e ≤ 14040 := fun e he => sp_ac_le hv hn (fun H e _ he => by have := hTb (H := H) he; omega) (by omega) he
  intro d
  induction d with
  | zero =>
    intro e he
    have e0 : e = n + 1 := by omega
    rw [e0]
    have hI : sp_cv n k v (cw_up I 23 (sp_g2 (sp_Ae v k G s (n + 1)) n G (n + 1) f)) := h.up (by decide) (by decide)
    refine tbX2_raiseSums_22_21 (br_t (by rw [hI.1]; exact nI_lt (by omega) (by omega)) ⟨rfl, ?_⟩)
    rw [sp_g2_congr (sp_As v k G (s + 1)) (sp_Ae v k G s (n + 1)) f (fun H d _ hd => by
      show (if H = G then _ else _) = (if H = G then (if d < n + 1 then _ else _) else _)
      rw [if_pos (show d < n + 1 by omega)])]
  | succ d ih =>
    intro e he
    have h1 := ih (e + 1) (by omega)
    have hI : sp_cv n k v (cw_up I 23 (sp_g2 (sp_Ae v k G s e) n G (n + 1) f)) := h.up (by decide) (by decide)
    have r1 : (cw_up I 23 (sp_g2 (sp_Ae v k G s e) n G (n + 1) f)) 23 ((G - 2 ^ s) * 25 + e) = nI (sp_tb v k G (G - 2 ^ s) e) := by
      show sp_g2 (sp_Ae v k G s e) n G (n + 1) f ((G - 2 ^ s) * 25 + e) = _
      rw [sp_g2_at _ hn (by omega) (Or.inl (by omega))]
      show nI (if G - 2 ^ s = G then _ else sp_tb v k G (G - 2 ^ s) e) = _
      rw [if_neg (by omega)]
    have r2 : (cw_up I 23 (sp_g2 (sp_Ae v k G s e) n G (n + 1) f)) 23 (G * 25 + e) = nI (sp_ac v (sp_tb v k G) G s e) := by
      show sp_g2 (sp_Ae v k G s e) n G (n + 1) f (G * 25 + e) = _
      rw [sp_g2_at _ hn (by omega) (Or.inr ⟨rfl, by omega⟩)]
      show nI (if G = G then (if e < e then _ else sp_ac v (sp_tb v k G) G s e) else _) = _
      rw [if_pos rfl, if_neg (by omega)]
    have w1 : ∀ y : Int32, y = nI (sp_ac v (sp_tb v k G) G (s + 1) e) → cw_st (cw_up I 23 (sp_g2 (sp_Ae v k G s e) n G (n + 1) f)) 23 (G * 25 + e) y = cw_up I 23 (sp_g2 (sp_Ae v k G s (e + 1)) n G (n + 1) f) := by
      intro y hy
      show cw_up (cw_up I 23 _) 23 (upd ((cw_up I 23 (sp_g2 (sp_Ae v k G s e) n G (n + 1) f)) 23) (G * 25 + e) y) = _
      have e3 : y = nI (sp_Ae v k G s (e + 1) G e) := by
        rw [hy]
        show _ = nI (if G = G then (if e < e + 1 then _ else _) else _)
        rw [if_pos rfl, if_pos (by omega)]
      rw [sp_upup, show (cw_up I 23 (sp_g2 (sp_Ae v k G s e) n G (n + 1) f)) 23 = sp_g2 (sp_Ae v k G s e) n G (n + 1) f by simp [cw_up], e3, sp_g2_set _ (sp_Ae v k G s (e + 1)) hn (by omega) f (fun H d _ hd hne => by
        show (if H = G then (if d < e then _ else _) else _) = (if H = G then (if d < e + 1 then _ else _) else _)
        by_cases z : H = G
        · rw [if_pos z, if_pos z]
          by_cases y : d < e
          · rw [if_pos y, if_pos (show d < e + 1 by omega)]
          · rw [if_neg y, if_neg (show ¬ d < e + 1 by omega)]
        · rw [if_neg z, if_neg z])]
    have eac : sp_ac v (sp_tb v k G) G (s + 1) e = max (sp_ac v (sp_tb v k G) G s e) (sp_ex (v s) (sp_tb v k G (G - 2 ^ s)) e) := by
      show (if G.testBit s = true then _ else _) = _
      rw [if_pos hb]
    have b1 := hXb e (by omega)
    have b2 := hAb e (by omega)
    have b3 := hTb (H := G - 2 ^ s) (e := e) (by omega)
    have hmx : ∀ a b : Nat, a < 2 ^ 31 → b < 2 ^ 31 → (if nI a < nI b then nI b else nI a) = nI (max a b) := fun a b ha hb => by
      by_cases z : a < b
      · rw [if_pos (nI_lt z hb), Nat.max_eq_right (by omega)]
      · rw [if_neg (fun y => z ((nI_ltI ha hb).mp y)), Nat.max_eq_left (by omega)]
    rw [if_neg (by omega), Nat.add_sub_cancel] at h1
    refine tbX2_raiseSums_22_21 (br_f (by rw [hI.1]; exact fun z => absurd ((nI_ltI (by omega) (by omega)).mp z) (by omega)) ⟨fun q => ?_, fun q => ?_⟩)
    · have e0 : e = 0 := Nat.le_zero.mp ((nI_leI (b := 0) (by omega) (by omega)).mp q)
      subst e0
      rw [if_pos rfl, nI_add, nI_add, nI_clamp (by omega), nI_clamp (by omega), r1, r2]
      have e4 : (if (0 : Int32) < nI (sp_tb v k G (G - 2 ^ s) 0) then nI (sp_tb v k G (G - 2 ^ s) 0) else 0) = nI (sp_ex (v s) (sp_tb v k G (G - 2 ^ s)) 0) := by
        have := hmx 0 (sp_tb v k G (G - 2 ^ s) 0) (by omega) (by omega)
        rw [Nat.max_eq_right (Nat.zero_le _)] at this
        exact this
      rw [e4, hmx _ _ (by omega) (by omega), nI_1]
      refine ⟨vp_in_nI (by omega) (by omega), vp_in_nI (by omega) (by omega), vp_in_nI (by omega) (by omega), ?_⟩
      rw [w1 _ (by rw [eac])]
      exact h1
    · have e0 : e ≠ 0 := fun z => q (by rw [z]; decide)
      obtain ⟨c, hc⟩ : ∃ c, e = c + 1 := ⟨e - 1, by omega⟩
      subst hc
      rw [if_neg e0, Nat.add_sub_cancel, show nI (c + 1) - 1 = nI c from nI_pred c]
      refine ⟨_, _, sc_valueOf hI hs (show c < n by omega), ?_⟩
      have b4 := hXb c (by omega)
      have b5 := hv s c hs (by omega)
      rw [nI_add, nI_add, nI_add, nI_clamp (by omega), nI_clamp (by omega), r1, r2]
      have e4 : (if nI (sp_ex (v s) (sp_tb v k G (G - 2 ^ s)) c + v s c) < nI (sp_tb v k G (G - 2 ^ s) (c + 1)) then nI (sp_tb v k G (G - 2 ^ s) (c + 1)) else nI (sp_ex (v s) (sp_tb v k G (G - 2 ^ s)) c + v s c)) = nI (sp_ex (v s) (sp_tb v k G (G - 2 ^ s)) (c + 1)) := hmx _ _ (by omega) (by omega)
      rw [e4, hmx _ _ (by omega) (by omega), nI_1]
      refine ⟨vp_in_nI (by omega) (by omega), vp_in_nI (by omega) (by omega), vp_in_nI (by omega) (by omega), ?_⟩
      rw [w1 _ (by rw [eac])]
      exact h1
theorem sc_raiseSums (h : sp_cv n k v I) {G s : Nat} (hG : G < 64) (hs : s < k) (hb : G.testBit s = true) (f : Nat → Int32) : cw_C (cc_w K) mX2_raiseSums [.ref (cw_a (cc_w K) 22), .int (nI G), .int (nI s)] (cw_up I 23 (sp_g2 (sp_As v k G s) n G (n + 1) f)) none (cw_up I 23 (sp_g2 (sp_As v k G (s + 1)) n G (n + 1) f)) := by
  have hk := h.2.2.2.1
  refine eX2_raiseSums_22 ?_
  rw [((sp_bits G hG s (by omega)).2 hb).1, show nI G * 25 = nI (G * 25) from sp_mul G 25, show nI (G - 2 ^ s) * 25 = nI ((G - 2 ^ s) * 25) from sp_mul (G - 2 ^ s) 25]
  have h1 := sl_raiseSums (K := K) h hG hs hb f (n + 1) 0 (by omega)
  rw [if_pos rfl, sp_g2_congr (sp_Ae v k G s 0) (sp_As v k G s) f (fun H d _ _ => by
    show (if H = G then (if d < 0 then _ else _) else _) = (if H = G then _ else _)
    rw [if_neg (show ¬ d < 0 by omega)])] at h1
  exact h1
theorem sl_sums45 (h : sp_cv n k v I) {G all : Nat} (hG : G < 64) (f : Nat → Int32) {r : Option Value} {J9 : cw_M} (hout : bX2_findGreatestSum_22_7 K r J9 (nI all) (nI (G + 1)) (cw_up I 23 (sp_g2 (sp_tb v k (G + 1)) n (G + 1) 0 f))) : ∀ d s : Nat, s + d = k → bX2_findGreatestSum_22_45 K r J9 (nI all) (nI G) (nI s) (cw_up I 23 (sp_g2 (sp_As v k G s) n G (n + 1) f)) := by
  have hk := h.2.2.2.1
  intro d
  induction d with
  | zero =>
    intro s hs
    have e0 : s = k := by omega
    rw [e0]
    have hI : sp_cv n k v (cw_up I 23 (sp_g2 (sp_As v k G k) n G (n + 1) f)) := h.up (by decide) (by decide)
    refine tbX2_findGreatestSum_22_45 (br_t (by rw [hI.2.1]; exact nI_le (Nat.le_refl _) (by omega)) ?_)
    rw [nI_1, sp_g2_row]
    exact hout
  | succ d ih =>
    intro s hs
    have h1 := ih (s + 1) (by omega)
    have hI : sp_cv n k v (cw_up I 23 (sp_g2 (sp_As v k G s) n G (n + 1) f)) := h.up (by decide) (by decide)
    refine tbX2_findGreatestSum_22_45 (br_f (by rw [hI.2.1]; exact nI_ge (by omega) (by omega)) ⟨_, _, sc_contains hG (show s < 6 by omega), fun q => ?_, fun q => ?_⟩)
    · have hb := sp_bit0 q
      rw [nI_1]
      rw [sp_g2_congr (sp_As v k G (s + 1)) (sp_As v k G s) f (fun H d _ _ => by
        show (if H = G then (if G.testBit s = true then _ else _) else _) = (if H = G then _ else _)
        rw [if_neg hb])] at h1
      exact h1
    · have hb := sp_bit1 q
      rw [nI_1]
      exact ⟨_, sc_raiseSums h hG (show s < k by omega) hb f, h1⟩
theorem sl_sums14 (h : sp_cv n k v I) {G all : Nat} (hG : G < 64) (f : Nat → Int32) {r : Option Value} {J9 : cw_M} (hout : bX2_findGreatestSum_22_45 K r J9 (nI all) (nI G) 0 (cw_up I 23 (sp_g2 (sp_tb v k G) n G (n + 1) f))) : ∀ d e : Nat, e + d = n + 1 → bX2_findGreatestSum_22_14 K r J9 (nI all) (nI G) (nI e) (cw_up I 23 (sp_g2 (sp_tb v k G) n G e f)) := by
  have hn := h.2.2.1
  intro d
  induction d with
  | zero =>
    intro e he
    have e0 : e = n + 1 := by omega
    rw [e0]
    have hI : sp_cv n k v (cw_up I 23 (sp_g2 (sp_tb v k G) n G (n + 1) f)) := h.up (by decide) (by decide)
    exact tbX2_findGreatestSum_22_14 (br_t (by rw [hI.1]; exact nI_lt (by omega) (by omega)) hout)
  | succ d ih =>
    intro e he
    have h1 := ih (e + 1) (by omega)
    have hI : sp_cv n k v (cw_up I 23 (sp_g2 (sp_tb v k G) n G e f)) := h.up (by decide) (by decide)
    refine tbX2_findGreatestSum_22_14 (br_f (by rw [hI.1]; exact fun z => absurd ((nI_ltI (by omega) (by omega)).mp z) (by omega)) ?_)
    rw [show nI G * 25 + nI e = nI (G * 25 + e) from sp_ix 25 G e, nI_clamp (by omega), nI_1]
    refine ⟨vp_in_nI (by omega) (by omega), ?_⟩
    have e9 : cw_st (cw_up I 23 (sp_g2 (sp_tb v k G) n G e f)) 23 (G * 25 + e) 0 = cw_up I 23 (sp_g2 (sp_tb v k G) n G (e + 1) f) := by
      show cw_up (cw_up I 23 _) 23 (upd ((cw_up I 23 (sp_g2 (sp_tb v k G) n G e f)) 23) (G * 25 + e) 0) = _
      have := sp_g2_add (sp_tb v k G) (G := G) hn (show e ≤ n by omega) f
      rw [sp_tb_hi (Nat.le_refl G)] at this
      rw [sp_upup, show (cw_up I 23 (sp_g2 (sp_tb v k G) n G e f)) 23 = sp_g2 (sp_tb v k G) n G e f by simp [cw_up], show (0 : Int32) = nI 0 from rfl, this]
    rw [e9]
    exact h1
theorem sl_sums7 (h : sp_cv n k v I) (f : Nat → Int32) : ∀ d G : Nat, G + d = 2 ^ k → bX2_findGreatestSum_22_7 K (some (.int (nI (sp_tb v k (2 ^ k) (2 ^ k - 1) n)))) (cw_up I 23 (sp_g2 (sp_tb v k (2 ^ k)) n (2 ^ k) 0 f)) (nI (2 ^ k - 1)) (nI G) (cw_up I 23 (sp_g2 (sp_tb v k G) n G 0 f)) := by
  have hn := h.2.2.1
  have hk := h.2.2.2.1
  obtain ⟨-, a1, a2⟩ := sp_all k (by omega)
  intro d
  induction d with
  | zero =>
    intro G hG
    have e0 : G = 2 ^ k := by omega
    rw [e0]
    have hI : sp_cv n k v (cw_up I 23 (sp_g2 (sp_tb v k (2 ^ k)) n (2 ^ k) 0 f)) := h.up (by decide) (by decide)
    refine tbX2_findGreatestSum_22_7 (br_t (nI_lt (by omega) (by omega)) ?_)
    rw [hI.1, show nI (2 ^ k - 1) * 25 + nI n = nI ((2 ^ k - 1) * 25 + n) from sp_ix 25 _ n, nI_clamp (by omega)]
    refine ⟨vp_in_nI (by omega) (by omega), ?_, rfl⟩
    rw [show (cw_up I 23 (sp_g2 (sp_tb v k (2 ^ k)) n (2 ^ k) 0 f)) 23 ((2 ^ k - 1) * 25 + n) = nI (sp_tb v k (2 ^ k) (2 ^ k - 1) n) from sp_g2_at _ hn (Nat.le_refl n) (Or.inl (by omega)) f]
  | succ d ih =>
    intro G hG
    have h1 := ih (G + 1) (by omega)
    refine tbX2_findGreatestSum_22_7 (br_f (fun z => absurd ((nI_ltI (by omega) (by omega)).mp z) (by omega)) ?_)
    refine sl_sums14 h (show G < 64 by omega) f ?_ (n + 1) 0 (by omega)
    have h2 := sl_sums45 (K := K) h (show G < 64 by omega) f h1 k 0 (by omega)
    rw [sp_g2_congr (sp_As v k G 0) (sp_tb v k G) f (fun H d _ _ => by
      show (if H = G then 0 else _) = _
      by_cases z : H = G
      · rw [if_pos z, z, sp_tb_hi (Nat.le_refl G)]
      · rw [if_neg z])] at h2
    exact h2
theorem sc_findGreatestSum (h : sp_cv n k v I) : ∃ f : Nat → Int32, cw_C (cc_w K) mX2_findGreatestSum [.ref (cw_a (cc_w K) 22)] I (some (.int (nI (sp_tb v k (2 ^ k) (2 ^ k - 1) n)))) (cw_up I 23 f) := by
  have h1 := sl_sums7 (K := K) h (I 23) (2 ^ k) 0 (by omega)
  rw [sp_g2_0, sp_upself] at h1
  exact ⟨_, eX2_findGreatestSum_22 ⟨_, _, sc_groupOfAll h, h1⟩⟩
end SUMC
