/-! ## the greatest sum of one piece each: the reference -/
/-- the worth of a run of x, from b up to d -/
abbrev sp_W (x : Nat → Nat) (b d : Nat) : Nat := sp_s (fun j => x (b + j)) (d - b)
theorem sp_W_succ (x : Nat → Nat) {b d : Nat} (h : b ≤ d) : sp_W x b (d + 1) = sp_W x b d + x d := by
  show sp_s _ (d + 1 - b) = _
  rw [show d + 1 - b = (d - b) + 1 by omega]
  show sp_s (fun j => x (b + j)) (d - b) + x (b + (d - b)) = _
  rw [show b + (d - b) = d by omega]
/-- the last pieces that begin below b; z: the others are nobody, so that the piece begins at 0 -/
def sp_es (z : Bool) (x p : Nat → Nat) : Nat → Nat → Nat
  | 0 => fun _ => 0
  | b + 1 => fun d => if z = true ∧ 1 ≤ b then sp_es z x p b d else if b ≤ d then max (sp_es z x p b d) (p b + sp_W x b d) else sp_es z x p b d
theorem sp_es_step {z : Bool} {x p : Nat → Nat} {b d : Nat} (h : ¬ (z = true ∧ 1 ≤ b)) : sp_es z x p (b + 1) d = if b ≤ d then max (sp_es z x p b d) (p b + sp_W x b d) else sp_es z x p b d := by
  show (if z = true ∧ 1 ≤ b then _ else _) = _
  rw [if_neg h]
theorem sp_es_skip {z : Bool} {x p : Nat → Nat} {b d : Nat} (h : z = true ∧ 1 ≤ b) : sp_es z x p (b + 1) d = sp_es z x p b d := by
  show (if z = true ∧ 1 ≤ b then _ else _) = _
  rw [if_pos h]
theorem sp_es_add {x p : Nat → Nat} {d : Nat} : ∀ b, b ≤ d → sp_es false x p (b + 1) (d + 1) = sp_es false x p (b + 1) d + x d
  | 0, _ => by
    rw [sp_es_step (by decide), sp_es_step (by decide), if_pos (Nat.zero_le _), if_pos (Nat.zero_le _), sp_W_succ x (Nat.zero_le d)]
    show max 0 _ = max 0 _ + x d
    omega
  | b + 1, h => by
    have h1 := sp_es_add (x := x) (p := p) (d := d) b (by omega)
    rw [sp_es_step (b := b + 1) (fun z => by cases z.1), sp_es_step (b := b + 1) (fun z => by cases z.1), if_pos (by omega), if_pos h, h1, sp_W_succ x h]
    omega
theorem sp_es_ex {x p : Nat → Nat} : ∀ d, sp_es false x p (d + 1) d = sp_ex x p d
  | 0 => by
    rw [sp_es_step (by decide), if_pos (Nat.le_refl 0)]
    show max 0 (p 0 + sp_s _ (0 - 0)) = p 0
    show max 0 (p 0 + 0) = p 0
    omega
  | d + 1 => by
    have h1 := sp_es_ex (x := x) (p := p) d
    have h2 := sp_es_add (x := x) (p := p) (d := d) d (Nat.le_refl d)
    rw [sp_es_step (fun z => by cases z.1), if_pos (Nat.le_refl _), h2, h1]
    show max _ (p (d + 1) + sp_s _ (d + 1 - (d + 1))) = max _ _
    rw [Nat.sub_self]
    rfl
theorem sp_es_hi {x p : Nat → Nat} {d : Nat} : ∀ m, sp_es false x p (d + 1 + m) d = sp_es false x p (d + 1) d
  | 0 => rfl
  | m + 1 => by
    rw [← sp_es_hi m]
    show sp_es false x p (d + 1 + m + 1) d = _
    rw [sp_es_step (fun z => by cases z.1), if_neg (by omega)]
theorem sp_ex_0 (x : Nat → Nat) : ∀ d, sp_ex x (fun _ => 0) d = sp_s x d
  | 0 => rfl
  | d + 1 => by
    show max (sp_ex x (fun _ => 0) d + x d) 0 = sp_s x d + x d
    rw [sp_ex_0 x d]
    omega
theorem sp_es_1 {x p : Nat → Nat} {d : Nat} : ∀ m, sp_es true x p (m + 1) d = p 0 + sp_s x d
  | 0 => by
    rw [sp_es_step (fun z => by omega), if_pos (Nat.zero_le d)]
    show max 0 (p 0 + sp_s (fun j => x (0 + j)) (d - 0)) = _
    rw [sp_s_congr (f := fun j => x (0 + j)) (g := x) (fun j _ => by show x (0 + j) = x j; rw [Nat.zero_add]), Nat.sub_zero]
    omega
  | m + 1 => by
    rw [sp_es_skip ⟨rfl, by omega⟩]
    exact sp_es_1 m
/-- both build the same -/
theorem sp_es_end {z : Bool} {x p : Nat → Nat} {n d : Nat} (hd : d ≤ n) (hz : z = true → ∀ e, p e = 0) : sp_es z x p (n + 1) d = sp_ex x p d := by
  cases z with
  | false =>
    rw [show n + 1 = d + 1 + (n - d) by omega, sp_es_hi, sp_es_ex]
  | true =>
    have e : p = fun _ => 0 := funext (hz rfl)
    rw [sp_es_1, e, sp_ex_0]
    exact Nat.zero_add _
theorem sp_es_le {z : Bool} {x p : Nat → Nat} {B n : Nat} (hx : ∀ c, c < n → x c ≤ 9) (hp : ∀ e, e ≤ n → p e ≤ B) (hn : n ≤ 24) : ∀ b d, b ≤ n + 1 → d ≤ n → sp_es z x p b d ≤ B + 216
  | 0, _, _, _ => Nat.zero_le _
  | b + 1, d, hb, hd => by
    have h1 := sp_es_le (z := z) hx hp hn b d (by omega) hd
    by_cases y : z = true ∧ 1 ≤ b
    · rw [sp_es_skip y]; exact h1
    · rw [sp_es_step y]
      by_cases w : b ≤ d
      · rw [if_pos w]
        have h2 := hp b (by omega)
        have h3 : sp_W x b d ≤ 9 * (d - b) := sp_s_le (m := 9) fun j hj => hx (b + j) (by omega)
        omega
      · rw [if_neg w]; exact h1
/-- nobody gets nothing: the empty group's row has a place for no end but 0 -/
abbrev sp_N (A : Nat → Nat → Nat) : Nat → Nat → Nat := fun H d => if H = 0 ∧ 1 ≤ d then 4294967295 else A H d
/-- within 'extend': begins below b are done, and of b the ends below e -/
abbrev sp_Ax (v : Nat → Nat → Nat) (k G s b e : Nat) : Nat → Nat → Nat := fun H d => if H = G then max (sp_ac v (sp_tb v k G) G s d) (if b ≤ d ∧ d < e then max (sp_es (decide (G - 2 ^ s = 0)) (v s) (sp_tb v k G (G - 2 ^ s)) b d) (sp_tb v k G (G - 2 ^ s) b + sp_W (v s) b d) else sp_es (decide (G - 2 ^ s = 0)) (v s) (sp_tb v k G (G - 2 ^ s)) b d) else sp_tb v k G H d
theorem sp_ac_0 {v : Nat → Nat → Nat} {T : Nat → Nat → Nat} {e : Nat} : ∀ s, sp_ac v T 0 s e = 0
  | 0 => rfl
  | s + 1 => by
    show (if Nat.testBit 0 s = true then _ else sp_ac v T 0 s e) = 0
    rw [Nat.zero_testBit, if_neg (by decide)]
    exact sp_ac_0 s
theorem sp_tb_0 {v : Nat → Nat → Nat} {k : Nat} : ∀ {G e : Nat}, sp_tb v k G 0 e = 0
  | 0, _ => rfl
  | G + 1, e => by
    show (if 0 = G then sp_ac v (sp_tb v k G) G k e else sp_tb v k G 0 e) = 0
    by_cases z : 0 = G
    · rw [if_pos z, ← z]
      exact sp_ac_0 k
    · rw [if_neg z]
      exact sp_tb_0
section SUMR
variable {K : cw_K} {J : cw_M} {n k : Nat} {v : Nat → Nat → Nat}
theorem sl_ext44 (h : sp_rv n k v J) {G s b : Nat} (hG : G < 64) (hs : s < k) (hb : G.testBit s = true) (hbn : b ≤ n) (hz : ¬ (decide (G - 2 ^ s = 0) = true ∧ 1 ≤ b)) (f : Nat → Int32) {r : Option Value} {J9 : cw_M} (hout : bX11_extend_0_3 K r J9 (nI G) (nI (G - 2 ^ s)) (nI s) (nI (b + 1)) (cw_up J 8 (sp_g2 (sp_N (sp_Ax v k G s (b + 1) 0)) n G (n + 1) f))) : ∀ d e : Nat, e + d = n + 1 → b ≤ e → bX11_extend_0_44 K r J9 (nI G) (nI (G - 2 ^ s)) (nI s) (nI b) (nI (sp_tb v k G (G - 2 ^ s) b)) (nI (sp_s (fun j => v s (b + j)) (e - 1 - b))) (nI e) (cw_up J 8 (sp_g2 (sp_N (sp_Ax v k G s b e)) n G (n + 1) f)) := by
  have hn := h.2.2.1
  have hk := h.2.2.2.1
  have hv := h.2.2.2.2.1
  obtain ⟨-, hbits⟩ := sp_bits G hG s (by omega)
  obtain ⟨-, -, g1, g2⟩ := hbits hb
  have hTb : ∀ {H e}, e ≤ n → sp_tb v k G H e ≤ 13824 := fun {H e} he => by
    have := sp_tb_le hv hn (G := G) (H := H) he
    omega
  have hAb : ∀ e, e ≤ n → sp_ac v (sp_tb v k G) G s e ≤ 14040 := fun e he => sp_ac_le hv hn (fun H e _ he => by have := hTb (H := H) he; omega) (by omega) he
  have hEb : ∀ e, e ≤ n → sp_es (decide (G - 2 ^ s = 0)) (v s) (sp_tb v k G (G - 2 ^ s)) b e ≤ 13824 + 216 := fun e he => sp_es_le (fun c hc => hv s c hs hc) (fun e he => hTb he) hn b e (by omega) he
  have hWb : ∀ e, e ≤ n → sp_W (v s) b e ≤ 216 := fun e he => by
    have h3 : sp_W (v s) b e ≤ 9 * (e - b) := sp_s_le (m := 9) fun j hj => hv s (b + j) hs (by omega)
    omega
  intro d
  induction d with
  | zero =>
    intro e he hbe
    have e0 : e = n + 1 := by omega
    rw [e0]
    have hJ : sp_rv n k v (cw_up J 8 (sp_g2 (sp_N (sp_Ax v k G s b (n + 1))) n G (n + 1) f)) := h.up (by decide)
    refine tbX11_extend_0_44 (br_t (by rw [hJ.1]; exact nI_lt (by omega) (by omega)) ?_)
    rw [nI_1, sp_g2_congr (sp_N (sp_Ax v k G s b (n + 1))) (sp_N (sp_Ax v k G s (b + 1) 0)) f (fun H d _ hd => by
      show (if H = 0 ∧ 1 ≤ d then 4294967295 else if H = G then _ else _) = (if H = 0 ∧ 1 ≤ d then 4294967295 else if H = G then _ else _)
      by_cases z : H = G
      · rw [if_pos z, if_pos z, sp_es_step hz, if_neg (show ¬ (b + 1 ≤ d ∧ d < 0) by omega)]
        by_cases y : b ≤ d
        · rw [if_pos y, if_pos (show b ≤ d ∧ d < n + 1 by omega)]
        · rw [if_neg y, if_neg (show ¬ (b ≤ d ∧ d < n + 1) by omega)]
      · rw [if_neg z, if_neg z])]
    exact hout
  | succ d ih =>
    intro e he hbe
    have h1 := ih (e + 1) (by omega) (by omega)
    have hJ : sp_rv n k v (cw_up J 8 (sp_g2 (sp_N (sp_Ax v k G s b e)) n G (n + 1) f)) := h.up (by decide)
    have hG0 : ∀ y, ¬ (G = 0 ∧ 1 ≤ y) := fun y => by omega
    have r2 : (cw_up J 8 (sp_g2 (sp_N (sp_Ax v k G s b e)) n G (n + 1) f)) 8 (G * 25 + e) = nI (max (sp_ac v (sp_tb v k G) G s e) (sp_es (decide (G - 2 ^ s = 0)) (v s) (sp_tb v k G (G - 2 ^ s)) b e)) := by
      show sp_g2 (sp_N (sp_Ax v k G s b e)) n G (n + 1) f (G * 25 + e) = _
      rw [sp_g2_at _ hn (by omega) (Or.inr ⟨rfl, by omega⟩)]
      show nI (if G = 0 ∧ 1 ≤ e then _ else if G = G then _ else _) = _
      rw [if_neg (hG0 e), if_pos rfl, if_neg (by omega)]
    have nv : sp_N (sp_Ax v k G s b (e + 1)) G e = max (sp_ac v (sp_tb v k G) G s e) (max (sp_es (decide (G - 2 ^ s = 0)) (v s) (sp_tb v k G (G - 2 ^ s)) b e) (sp_tb v k G (G - 2 ^ s) b + sp_W (v s) b e)) := by
      show (if G = 0 ∧ 1 ≤ e then _ else if G = G then _ else _) = _
      rw [if_neg (hG0 e), if_pos rfl, if_pos (by omega)]
    have w1 : ∀ y : Int32, y = nI (sp_N (sp_Ax v k G s b (e + 1)) G e) → cw_st (cw_up J 8 (sp_g2 (sp_N (sp_Ax v k G s b e)) n G (n + 1) f)) 8 (G * 25 + e) y = cw_up J 8 (sp_g2 (sp_N (sp_Ax v k G s b (e + 1))) n G (n + 1) f) := by
      intro y hy
      show cw_up (cw_up J 8 _) 8 (upd ((cw_up J 8 (sp_g2 (sp_N (sp_Ax v k G s b e)) n G (n + 1) f)) 8) (G * 25 + e) y) = _
      rw [sp_upup, show (cw_up J 8 (sp_g2 (sp_N (sp_Ax v k G s b e)) n G (n + 1) f)) 8 = sp_g2 (sp_N (sp_Ax v k G s b e)) n G (n + 1) f by simp [cw_up], hy, sp_g2_set _ (sp_N (sp_Ax v k G s b (e + 1))) hn (by omega) f (fun H d _ hd hne => by
        show (if H = 0 ∧ 1 ≤ d then 4294967295 else if H = G then _ else _) = (if H = 0 ∧ 1 ≤ d then 4294967295 else if H = G then _ else _)
        by_cases z : H = G
        · rw [if_pos z, if_pos z]
          by_cases y : b ≤ d ∧ d < e
          · rw [if_pos y, if_pos (show b ≤ d ∧ d < e + 1 by omega)]
          · rw [if_neg y, if_neg (show ¬ (b ≤ d ∧ d < e + 1) by omega)]
        · rw [if_neg z, if_neg z])]
    have w2 : ∀ i, (cw_up J 8 (sp_g2 (sp_N (sp_Ax v k G s b e)) n G (n + 1) f)) 8 i = (cw_up J 8 (sp_g2 (sp_N (sp_Ax v k G s b e)) n G (n + 1) f)) 8 i := fun _ => rfl
    have b1 := hTb (H := G - 2 ^ s) (e := b) hbn
    have b2 := hAb e (by omega)
    have b3 := hEb e (by omega)
    have b4 := hWb e (by omega)
    have fin : ∀ y : Nat, y = sp_tb v k G (G - 2 ^ s) b + sp_W (v s) b e → (nI y ≤ nI (max (sp_ac v (sp_tb v k G) G s e) (sp_es (decide (G - 2 ^ s = 0)) (v s) (sp_tb v k G (G - 2 ^ s)) b e)) → cw_up J 8 (sp_g2 (sp_N (sp_Ax v k G s b e)) n G (n + 1) f) = cw_up J 8 (sp_g2 (sp_N (sp_Ax v k G s b (e + 1))) n G (n + 1) f)) ∧ (¬ nI y ≤ nI (max (sp_ac v (sp_tb v k G) G s e) (sp_es (decide (G - 2 ^ s = 0)) (v s) (sp_tb v k G (G - 2 ^ s)) b e)) → cw_st (cw_up J 8 (sp_g2 (sp_N (sp_Ax v k G s b e)) n G (n + 1) f)) 8 (G * 25 + e) (nI y) = cw_up J 8 (sp_g2 (sp_N (sp_Ax v k G s b (e + 1))) n G (n + 1) f)) := by
      intro y hy
      refine ⟨fun q => ?_, fun q => w1 _ ?_⟩
      · have q2 := (nI_leI (by omega) (by omega)).mp q
        rw [← w1 ((cw_up J 8 (sp_g2 (sp_N (sp_Ax v k G s b e)) n G (n + 1) f)) 8 (G * 25 + e)) (by rw [r2, nv]; congr 1; omega)]
        show _ = cw_up (cw_up J 8 _) 8 (upd ((cw_up J 8 (sp_g2 (sp_N (sp_Ax v k G s b e)) n G (n + 1) f)) 8) (G * 25 + e) _)
        rw [sp_upd_self, sp_upself]
      · have q2 : ¬ _ := fun z => q (nI_le z (by omega))
        rw [nv]
        congr 1
        omega
    rw [show e + 1 - 1 - b = e - b by omega] at h1
    refine tbX11_extend_0_44 (br_f (by rw [hJ.1]; exact fun z => absurd ((nI_ltI (by omega) (by omega)).mp z) (by omega)) ⟨fun q => ?_, fun q => ?_⟩)
    · have e0 : e = b := by
        have := (nI_leI (by omega) (by omega)).mp q
        omega
      subst e0
      have e5 : sp_s (fun j => v s (e + j)) (e - e) = 0 := by rw [Nat.sub_self]; rfl
      rw [e5] at h1
      rw [show nI G * 25 + nI e = nI (G * 25 + e) from sp_ix 25 G e, nI_clamp (by omega), nI_1, show e - 1 - e = 0 by omega, show sp_s (fun j => v s (e + j)) 0 = 0 from rfl, nI_add, r2]
      have ff := fin (sp_tb v k G (G - 2 ^ s) e + 0) (by rw [show sp_W (v s) e e = 0 from e5])
      refine ⟨vp_in_nI (by omega) (by omega), fun q2 => ?_, fun q2 => ⟨vp_in_nI (by omega) (by omega), ?_⟩⟩
      · rw [ff.1 q2]; exact h1
      · rw [ff.2 q2]; exact h1
    · have q2 : b < e := by
        apply Nat.lt_of_not_le
        intro z
        exact q (nI_le z (by omega))
      obtain ⟨c, hc⟩ : ∃ c, e = c + 1 := ⟨e - 1, by omega⟩
      subst hc
      have e5 : sp_s (fun j => v s (b + j)) (c + 1 - b) = sp_s (fun j => v s (b + j)) (c + 1 - 1 - b) + v s c := by
        have := sp_W_succ (v s) (b := b) (d := c) (by omega)
        rw [Nat.add_sub_cancel]
        exact this
      refine ⟨_, _, sr_valueOf hJ hs (show c < n by omega) |> fun t => by rw [show nI (c + 1) - 1 = nI c from nI_pred c]; exact t, ?_⟩
      rw [show nI G * 25 + nI (c + 1) = nI (G * 25 + (c + 1)) from sp_ix 25 G (c + 1), nI_clamp (by omega), show nI (c + 1) + 1 = nI (c + 1 + 1) from nI_1 (c + 1), nI_add, ← e5, nI_add, r2]
      have ff := fin (sp_tb v k G (G - 2 ^ s) b + sp_s (fun j => v s (b + j)) (c + 1 - b)) rfl
      refine ⟨vp_in_nI (by omega) (by omega), fun q3 => ?_, fun q3 => ⟨vp_in_nI (by omega) (by omega), ?_⟩⟩
      · rw [ff.1 q3]; exact h1
      · rw [ff.2 q3]; exact h1
theorem sl_ext3 (h : sp_rv n k v J) {G s : Nat} (hG : G < 64) (hs : s < k) (hb : G.testBit s = true) (f : Nat → Int32) : ∀ d b : Nat, b + d = n + 1 → bX11_extend_0_3 K none (cw_up J 8 (sp_g2 (sp_N (sp_As v k G (s + 1))) n G (n + 1) f)) (nI G) (nI (G - 2 ^ s)) (nI s) (nI b) (cw_up J 8 (sp_g2 (sp_N (sp_Ax v k G s b 0)) n G (n + 1) f)) := by
  have hn := h.2.2.1
  have hk := h.2.2.2.1
  have hv := h.2.2.2.2.1
  obtain ⟨-, hbits⟩ := sp_bits G hG s (by omega)
  obtain ⟨-, -, g1, g2⟩ := hbits hb
  have hTb : ∀ {H e}, e ≤ n → sp_tb v k G H e ≤ 13824 := fun {H e} he => by
    have := sp_tb_le hv hn (G := G) (H := H) he
    omega
  intro d
  induction d with
  | zero =>
    intro b hbn
    have e0 : b = n + 1 := by omega
    rw [e0]
    have hJ : sp_rv n k v (cw_up J 8 (sp_g2 (sp_N (sp_Ax v k G s (n + 1) 0)) n G (n + 1) f)) := h.up (by decide)
    refine tbX11_extend_0_3 (br_t (by rw [hJ.1]; exact nI_lt (by omega) (by omega)) ⟨rfl, ?_⟩)
    rw [sp_g2_congr (sp_N (sp_As v k G (s + 1))) (sp_N (sp_Ax v k G s (n + 1) 0)) f (fun H d _ hd => by
      show (if H = 0 ∧ 1 ≤ d then 4294967295 else if H = G then (if G.testBit s = true then _ else _) else _) = (if H = 0 ∧ 1 ≤ d then 4294967295 else if H = G then _ else _)
      rw [if_pos hb, if_neg (show ¬ (n + 1 ≤ d ∧ d < 0) by omega), sp_es_end hd (fun z e => by
        have z2 : G - 2 ^ s = 0 := of_decide_eq_true z
        rw [z2]
        exact sp_tb_0)])]
  | succ d ih =>
    intro b hbn
    have h1 := ih (b + 1) (by omega)
    have hJ : sp_rv n k v (cw_up J 8 (sp_g2 (sp_N (sp_Ax v k G s b 0)) n G (n + 1) f)) := h.up (by decide)
    have r1 : (cw_up J 8 (sp_g2 (sp_N (sp_Ax v k G s b 0)) n G (n + 1) f)) 8 ((G - 2 ^ s) * 25 + b) = nI (if G - 2 ^ s = 0 ∧ 1 ≤ b then 4294967295 else sp_tb v k G (G - 2 ^ s) b) := by
      show sp_g2 (sp_N (sp_Ax v k G s b 0)) n G (n + 1) f ((G - 2 ^ s) * 25 + b) = _
      rw [sp_g2_at _ hn (by omega) (Or.inl (by omega))]
      show nI (if G - 2 ^ s = 0 ∧ 1 ≤ b then _ else if G - 2 ^ s = G then _ else _) = _
      rw [if_neg (show ¬ G - 2 ^ s = G by omega)]
    refine tbX11_extend_0_3 (br_f (by rw [hJ.1]; exact fun z => absurd ((nI_ltI (by omega) (by omega)).mp z) (by omega)) ?_)
    rw [show nI (G - 2 ^ s) * 25 + nI b = nI ((G - 2 ^ s) * 25 + b) from sp_ix 25 _ b, nI_clamp (by omega), r1, nI_1]
    refine ⟨vp_in_nI (by omega) (by omega), ?_⟩
    have b1 := hTb (H := G - 2 ^ s) (e := b) (by omega)
    by_cases z : G - 2 ^ s = 0 ∧ 1 ≤ b
    · rw [if_pos z]
      refine ⟨fun q => absurd (show nI 4294967295 = -1 by decide) q, fun _ => ?_⟩
      rw [sp_g2_congr (sp_N (sp_Ax v k G s (b + 1) 0)) (sp_N (sp_Ax v k G s b 0)) f (fun H d _ hd => by
        show (if H = 0 ∧ 1 ≤ d then 4294967295 else if H = G then _ else _) = (if H = 0 ∧ 1 ≤ d then 4294967295 else if H = G then _ else _)
        rw [if_neg (show ¬ (b + 1 ≤ d ∧ d < 0) by omega), if_neg (show ¬ (b ≤ d ∧ d < 0) by omega), sp_es_skip ⟨decide_eq_true z.1, z.2⟩])] at h1
      exact h1
    · rw [if_neg z]
      refine ⟨fun _ => ?_, fun q => absurd q (sp_nI_ne _ (by omega))⟩
      have h2 := sl_ext44 (K := K) h hG hs hb (show b ≤ n by omega) (fun y => z ⟨of_decide_eq_true y.1, y.2⟩) f h1 (n + 1 - b) b (by omega) (Nat.le_refl b)
      rw [show b - 1 - b = 0 by omega, show sp_s (fun j => v s (b + j)) 0 = 0 from rfl, sp_g2_congr (sp_N (sp_Ax v k G s b b)) (sp_N (sp_Ax v k G s b 0)) f (fun H d _ hd => by
        show (if H = 0 ∧ 1 ≤ d then 4294967295 else if H = G then _ else _) = (if H = 0 ∧ 1 ≤ d then 4294967295 else if H = G then _ else _)
        rw [if_neg (show ¬ (b ≤ d ∧ d < b) by omega), if_neg (show ¬ (b ≤ d ∧ d < 0) by omega)])] at h2
      exact h2
theorem sr_extend (h : sp_rv n k v J) {G s : Nat} (hG : G < 64) (hs : s < k) (hb : G.testBit s = true) (f : Nat → Int32) : cw_C (cr_w K) mX11_extend [.ref (cw_a (cr_w K) 0), .int (nI G), .int (nI (G - 2 ^ s)), .int (nI s)] (cw_up J 8 (sp_g2 (sp_N (sp_As v k G s)) n G (n + 1) f)) none (cw_up J 8 (sp_g2 (sp_N (sp_As v k G (s + 1))) n G (n + 1) f)) := by
  have h1 := sl_ext3 (K := K) h hG hs hb f (n + 1) 0 (by omega)
  rw [sp_g2_congr (sp_N (sp_Ax v k G s 0 0)) (sp_N (sp_As v k G s)) f (fun H d _ hd => by
    show (if H = 0 ∧ 1 ≤ d then 4294967295 else if H = G then _ else _) = (if H = 0 ∧ 1 ≤ d then 4294967295 else if H = G then _ else _)
    rw [if_neg (show ¬ (0 ≤ d ∧ d < 0) by omega), show sp_es (decide (G - 2 ^ s = 0)) (v s) (sp_tb v k G (G - 2 ^ s)) 0 d = 0 from rfl, Nat.max_eq_left (Nat.zero_le _)])] at h1
  exact eX11_extend_0 h1
theorem sl_rsums60 (h : sp_rv n k v J) {G all : Nat} (hG : G < 64) (f : Nat → Int32) {r : Option Value} {J9 : cw_M} (hout : bX11_contiguousWelfare_0_11 K r J9 (nI all) (nI (G + 1)) (cw_up J 8 (sp_g2 (sp_N (sp_tb v k (G + 1))) n (G + 1) 0 f))) : ∀ d s : Nat, s + d = k → bX11_contiguousWelfare_0_60 K r J9 (nI all) (nI G) (nI s) (cw_up J 8 (sp_g2 (sp_N (sp_As v k G s)) n G (n + 1) f)) := by
  have hk := h.2.2.2.1
  intro d
  induction d with
  | zero =>
    intro s hs
    have e0 : s = k := by omega
    rw [e0]
    have hJ : sp_rv n k v (cw_up J 8 (sp_g2 (sp_N (sp_As v k G k)) n G (n + 1) f)) := h.up (by decide)
    refine tbX11_contiguousWelfare_0_60 (br_t (by rw [hJ.2.1]; exact nI_le (Nat.le_refl _) (by omega)) ?_)
    rw [nI_1, sp_g2_row]
    exact hout
  | succ d ih =>
    intro s hs
    have h1 := ih (s + 1) (by omega)
    have hJ : sp_rv n k v (cw_up J 8 (sp_g2 (sp_N (sp_As v k G s)) n G (n + 1) f)) := h.up (by decide)
    obtain ⟨hbit, hbits⟩ := sp_bits G hG s (by omega)
    refine tbX11_contiguousWelfare_0_60 (br_f (by rw [hJ.2.1]; exact nI_ge (by omega) (by omega)) ?_)
    rw [hbit, nI_1]
    refine ⟨fun q => ?_, fun q => ?_⟩
    · have hb : ¬ G.testBit s = true := fun z => q (by rw [if_pos z])
      rw [sp_g2_congr (sp_N (sp_As v k G (s + 1))) (sp_N (sp_As v k G s)) f (fun H d _ _ => by
        show (if H = 0 ∧ 1 ≤ d then 4294967295 else if H = G then (if G.testBit s = true then _ else _) else _) = (if H = 0 ∧ 1 ≤ d then 4294967295 else if H = G then _ else _)
        rw [if_neg hb])] at h1
      exact h1
    · have hb : G.testBit s = true := by
        apply Decidable.byContradiction
        intro z
        rw [if_neg z] at q
        exact absurd q (by decide)
      rw [(hbits hb).2.1]
      exact ⟨_, sr_extend h hG (show s < k by omega) hb f, h1⟩
theorem sl_rsums18 (h : sp_rv n k v J) {G all : Nat} (hG : G < 64) (f : Nat → Int32) {r : Option Value} {J9 : cw_M} (hout : bX11_contiguousWelfare_0_60 K r J9 (nI all) (nI G) 0 (cw_up J 8 (sp_g2 (sp_N (sp_tb v k G)) n G (n + 1) f))) : ∀ d e : Nat, e + d = n + 1 → bX11_contiguousWelfare_0_18 K r J9 (nI all) (nI G) (nI e) (cw_up J 8 (sp_g2 (sp_N (sp_tb v k G)) n G e f)) := by
  have hn := h.2.2.1
  intro d
  induction d with
  | zero =>
    intro e he
    have e0 : e = n + 1 := by omega
    rw [e0]
    have hJ : sp_rv n k v (cw_up J 8 (sp_g2 (sp_N (sp_tb v k G)) n G (n + 1) f)) := h.up (by decide)
    exact tbX11_contiguousWelfare_0_18 (br_t (by rw [hJ.1]; exact nI_lt (by omega) (by omega)) hout)
  | succ d ih =>
    intro e he
    have h1 := ih (e + 1) (by omega)
    have hJ : sp_rv n k v (cw_up J 8 (sp_g2 (sp_N (sp_tb v k G)) n G e f)) := h.up (by decide)
    have w : ∀ y : Int32, y = nI (sp_N (sp_tb v k G) G e) → cw_st (cw_up J 8 (sp_g2 (sp_N (sp_tb v k G)) n G e f)) 8 (G * 25 + e) y = cw_up J 8 (sp_g2 (sp_N (sp_tb v k G)) n G (e + 1) f) := by
      intro y hy
      show cw_up (cw_up J 8 _) 8 (upd ((cw_up J 8 (sp_g2 (sp_N (sp_tb v k G)) n G e f)) 8) (G * 25 + e) y) = _
      have := sp_g2_add (sp_N (sp_tb v k G)) (G := G) hn (show e ≤ n by omega) f
      rw [sp_upup, show (cw_up J 8 (sp_g2 (sp_N (sp_tb v k G)) n G e f)) 8 = sp_g2 (sp_N (sp_tb v k G)) n G e f by simp [cw_up], hy, this]
    have hin : vp_in (nI (G * 25 + e)) 1600 := vp_in_nI (by omega) (by omega)
    refine tbX11_contiguousWelfare_0_18 (br_f (by rw [hJ.1]; exact fun z => absurd ((nI_ltI (by omega) (by omega)).mp z) (by omega)) ?_)
    rw [show nI G * 25 + nI e = nI (G * 25 + e) from sp_ix 25 G e, nI_clamp (by omega), nI_1]
    refine ⟨fun q => ⟨hin, ?_⟩, fun q => ⟨fun q2 => ⟨hin, ?_⟩, fun q2 => ⟨hin, ?_⟩⟩⟩
    · have g0 : ¬ G = 0 := fun z => q (by rw [z]; rfl)
      rw [w 0 (by
        show 0 = nI (if G = 0 ∧ 1 ≤ e then _ else sp_tb v k G G e)
        rw [if_neg (fun z => g0 z.1), sp_tb_hi (Nat.le_refl G)]
        rfl)]
      exact h1
    · have e0 : e = 0 := Nat.le_zero.mp ((nI_leI (b := 0) (by omega) (by omega)).mp q2)
      rw [w 0 (by
        show 0 = nI (if G = 0 ∧ 1 ≤ e then _ else sp_tb v k G G e)
        rw [if_neg (by omega), sp_tb_hi (Nat.le_refl G)]
        rfl)]
      exact h1
    · have g0 : G = 0 := (nI_eq (b := 0) (by omega) (by omega)).mp q
      have e0 : 1 ≤ e := by
        apply Nat.lt_of_not_le
        intro z
        have : e = 0 := Nat.le_zero.mp z
        exact q2 (by rw [this]; decide)
      rw [w (-1) (by
        show -1 = nI (if G = 0 ∧ 1 ≤ e then 4294967295 else _)
        rw [if_pos ⟨g0, e0⟩]
        decide)]
      exact h1
theorem sl_rsums11 (h : sp_rv n k v J) (hk1 : 1 ≤ k) (f : Nat → Int32) : ∀ d G : Nat, G + d = 2 ^ k → bX11_contiguousWelfare_0_11 K (some (.int (nI (sp_tb v k (2 ^ k) (2 ^ k - 1) n)))) (cw_up J 8 (sp_g2 (sp_N (sp_tb v k (2 ^ k))) n (2 ^ k) 0 f)) (nI (2 ^ k)) (nI G) (cw_up J 8 (sp_g2 (sp_N (sp_tb v k G)) n G 0 f)) := by
  have hn := h.2.2.1
  have hk := h.2.2.2.1
  obtain ⟨-, a1, a2⟩ := sp_all k (by omega)
  have a3 : 2 ≤ 2 ^ k := by
    obtain ⟨m, hm⟩ : ∃ m, k = m + 1 := ⟨k - 1, by omega⟩
    rw [hm, Nat.pow_succ]
    have := Nat.two_pow_pos m
    omega
  intro d
  induction d with
  | zero =>
    intro G hG
    have e0 : G = 2 ^ k := by omega
    rw [e0]
    have hJ : sp_rv n k v (cw_up J 8 (sp_g2 (sp_N (sp_tb v k (2 ^ k))) n (2 ^ k) 0 f)) := h.up (by decide)
    refine tbX11_contiguousWelfare_0_11 (br_t (nI_le (Nat.le_refl _) (by omega)) ?_)
    rw [hJ.1, show nI (2 ^ k) - 1 = nI (2 ^ k - 1) from sp_sub (b := 1) a1, show nI (2 ^ k - 1) * 25 + nI n = nI ((2 ^ k - 1) * 25 + n) from sp_ix 25 _ n, nI_clamp (by omega)]
    refine ⟨vp_in_nI (by omega) (by omega), ?_, rfl⟩
    rw [show (cw_up J 8 (sp_g2 (sp_N (sp_tb v k (2 ^ k))) n (2 ^ k) 0 f)) 8 ((2 ^ k - 1) * 25 + n) = nI (sp_N (sp_tb v k (2 ^ k)) (2 ^ k - 1) n) from sp_g2_at _ hn (Nat.le_refl n) (Or.inl (by omega)) f]
    show _ = some (Value.int (nI (if 2 ^ k - 1 = 0 ∧ 1 ≤ n then _ else _)))
    rw [if_neg (by omega)]
  | succ d ih =>
    intro G hG
    have h1 := ih (G + 1) (by omega)
    refine tbX11_contiguousWelfare_0_11 (br_f (nI_ge (by omega) (by omega)) ?_)
    refine sl_rsums18 h (show G < 64 by omega) f ?_ (n + 1) 0 (by omega)
    have h2 := sl_rsums60 (K := K) h (show G < 64 by omega) f h1 k 0 (by omega)
    rw [sp_g2_congr (sp_N (sp_As v k G 0)) (sp_N (sp_tb v k G)) f (fun H d _ _ => by
      show (if H = 0 ∧ 1 ≤ d then 4294967295 else if H = G then 0 else _) = (if H = 0 ∧ 1 ≤ d then 4294967295 else sp_tb v k G H d)
      by_cases z : H = G
      · rw [if_pos z, z, sp_tb_hi (Nat.le_refl G)]
      · rw [if_neg z])] at h2
    exact h2
theorem sr_contiguousWelfare (h : sp_rv n k v J) (hk1 : 1 ≤ k) : ∃ f : Nat → Int32, cw_C (cr_w K) mX11_contiguousWelfare [.ref (cw_a (cr_w K) 0)] J (some (.int (nI (sp_tb v k (2 ^ k) (2 ^ k - 1) n)))) (cw_up J 8 f) := by
  have hk := h.2.2.2.1
  have h1 := sl_rsums11 (K := K) h hk1 (J 8) (2 ^ k) 0 (by omega)
  rw [sp_g2_0, sp_upself, ← (sp_all k (by omega)).1] at h1
  exact ⟨sp_g2 (sp_N (sp_tb v k (2 ^ k))) n (2 ^ k) 0 (J 8), eX11_contiguousWelfare_0 (by rw [h.2.1]; exact h1)⟩
end SUMR
