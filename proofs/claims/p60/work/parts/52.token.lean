/-! ## tokens: the class's advance against the reference's token -/
abbrev tp_wd (b : Int32) : Prop := 97 ≤ b ∧ b ≤ 122
abbrev tp_dg (b : Int32) : Prop := 48 ≤ b ∧ b ≤ 57
def tp_kd (b : Int32) : Int32 := if tp_wd b then 1 else if tp_dg b then 2 else if b = 32 ∨ b = 10 then 4 else if b = 59 then 3 else 5
theorem tp_kd1 {b : Int32} (h : tp_wd b) : tp_kd b = 1 := if_pos h
theorem tp_kd2 {b : Int32} (h1 : ¬ tp_wd b) (h2 : tp_dg b) : tp_kd b = 2 := by rw [tp_kd, if_neg h1, if_pos h2]
theorem tp_kd4 {b : Int32} (h1 : ¬ tp_wd b) (h2 : ¬ tp_dg b) (h3 : b = 32 ∨ b = 10) : tp_kd b = 4 := by rw [tp_kd, if_neg h1, if_neg h2, if_pos h3]
theorem tp_kd3 {b : Int32} (h1 : ¬ tp_wd b) (h2 : ¬ tp_dg b) (h3 : ¬ (b = 32 ∨ b = 10)) (h4 : b = 59) : tp_kd b = 3 := by rw [tp_kd, if_neg h1, if_neg h2, if_neg h3, if_pos h4]
theorem tp_kd5 {b : Int32} (h1 : ¬ tp_wd b) (h2 : ¬ tp_dg b) (h3 : ¬ (b = 32 ∨ b = 10)) (h4 : ¬ b = 59) : tp_kd b = 5 := by rw [tp_kd, if_neg h1, if_neg h2, if_neg h3, if_neg h4]
theorem tp_dg_wd {b : Int32} (h : tp_dg b) : ¬ tp_wd b := fun w => absurd (Int32.le_trans w.1 h.2) (by decide)
section TOK
variable {K : cw_K} {I J : cw_M} {L : Nat}
theorem sk_sep {b : Int32} (h1 : ¬ tp_wd b) (h2 : ¬ tp_dg b) : (b = 32 → (some (Value.int (tp_kd b)) = some (.int 4) ∧ I = I)) ∧ (¬ b = 32 → ((¬ b = 10 → ((¬ b = 59 → (some (Value.int (tp_kd b)) = some (.int 5) ∧ I = I)) ∧ (b = 59 → (some (Value.int (tp_kd b)) = some (.int 3) ∧ I = I)))) ∧ (b = 10 → (some (Value.int (tp_kd b)) = some (.int 4) ∧ I = I)))) :=
  ⟨fun s => ⟨by rw [tp_kd4 h1 h2 (Or.inl s)], rfl⟩, fun s => ⟨fun t => ⟨fun w => ⟨by rw [tp_kd5 h1 h2 (fun y => y.elim s t) w], rfl⟩, fun w => ⟨by rw [tp_kd3 h1 h2 (fun y => y.elim s t) w], rfl⟩⟩, fun t => ⟨by rw [tp_kd4 h1 h2 (Or.inr t)], rfl⟩⟩⟩
theorem sk_kindOf (b : Int32) : cw_C (cc_w K) mX5_kindOf [.int b] I (some (.int (tp_kd b))) I := by
  refine eX5_kindOf ⟨fun a => ?_, fun a => ⟨fun e => ?_, fun e => ?_⟩⟩
  · have h1 : ¬ tp_wd b := fun w => absurd w.1 (Int32.not_le.mpr a)
    exact ⟨fun c => sk_sep h1 (fun w => absurd w.1 (Int32.not_le.mpr c)), fun c => ⟨fun d => sk_sep h1 (fun w => absurd w.2 (Int32.not_le.mpr d)), fun d => ⟨by rw [tp_kd2 h1 ⟨Int32.not_lt.mp c, Int32.not_lt.mp d⟩], rfl⟩⟩⟩
  · have h1 : ¬ tp_wd b := fun w => absurd w.2 (Int32.not_le.mpr e)
    exact ⟨fun c => sk_sep h1 (fun w => absurd w.1 (Int32.not_le.mpr c)), fun c => ⟨fun d => sk_sep h1 (fun w => absurd w.2 (Int32.not_le.mpr d)), fun d => ⟨by rw [tp_kd2 h1 ⟨Int32.not_lt.mp c, Int32.not_lt.mp d⟩], rfl⟩⟩⟩
  · exact ⟨by rw [tp_kd1 ⟨Int32.not_lt.mp a, Int32.not_lt.mp e⟩], rfl⟩
theorem sk_isSmall (b : Int32) : rw_C K mY11_isSmall [.int b] J (some (.int (if tp_wd b then 1 else 0))) J :=
  eY11_isSmall ⟨fun a => ⟨by rw [if_neg (fun w : tp_wd b => absurd w.1 (Int32.not_le.mpr a))], rfl⟩, fun a => ⟨fun e => ⟨by rw [if_neg (fun w : tp_wd b => absurd w.2 (Int32.not_le.mpr e))], rfl⟩, fun e => ⟨by rw [if_pos (show tp_wd b from ⟨Int32.not_lt.mp a, Int32.not_lt.mp e⟩)], rfl⟩⟩⟩
theorem sk_isDigit (b : Int32) : rw_C K mY11_isDigit [.int b] J (some (.int (if tp_dg b then 1 else 0))) J :=
  eY11_isDigit ⟨fun a => ⟨by rw [if_neg (fun w : tp_dg b => absurd w.1 (Int32.not_le.mpr a))], rfl⟩, fun a => ⟨fun e => ⟨by rw [if_neg (fun w : tp_dg b => absurd w.2 (Int32.not_le.mpr e))], rfl⟩, fun e => ⟨by rw [if_pos (show tp_dg b from ⟨Int32.not_lt.mp a, Int32.not_lt.mp e⟩)], rfl⟩⟩⟩
/-- the class's parser: kind, start, end -/
def tp_f (f : Nat → Int32) (kd a e : Int32) : Nat → Int32 := fun p => if p = 2 then kd else if p = 3 then a else if p = 4 then e else f p
/-- the reference's: ahead, type, from, value -/
def tp_g (g : Nat → Int32) (ah ty fr va : Int32) : Nat → Int32 := fun p => if p = 15 then ah else if p = 16 then ty else if p = 17 then fr else if p = 18 then va else g p
abbrev tp_KI (I : cw_M) (kd a e : Int32) : cw_M := cw_up I 15 (tp_f (I 15) kd a e)
abbrev tp_KJ (J : cw_M) (ah ty fr va : Int32) : cw_M := cw_up J 0 (tp_g (J 0) ah ty fr va)
theorem tp_upst (I : cw_M) (o p : Nat) (f : Nat → Int32) (x : Int32) : cw_st (cw_up I o f) o p x = cw_up I o (upd f p x) := by
  show cw_up (cw_up I o f) o (upd ((cw_up I o f) o) p x) = _
  rw [sp_upup, show (cw_up I o f) o = f by simp [cw_up]]
theorem tp_f2 (f : Nat → Int32) (kd a e x : Int32) : upd (tp_f f kd a e) 2 x = tp_f f x a e := by
  funext p
  simp only [upd, tp_f]
  by_cases h : p = 2
  · rw [if_pos h, if_pos h]
  · rw [if_neg h, if_neg h, if_neg h]
theorem tp_f3 (f : Nat → Int32) (kd a e x : Int32) : upd (tp_f f kd a e) 3 x = tp_f f kd x e := by
  funext p
  simp only [upd, tp_f]
  by_cases h : p = 3
  · subst h; rfl
  · rw [if_neg h, if_neg h, if_neg h]
theorem tp_f4 (f : Nat → Int32) (kd a e x : Int32) : upd (tp_f f kd a e) 4 x = tp_f f kd a x := by
  funext p
  simp only [upd, tp_f]
  by_cases h : p = 4
  · subst h; rfl
  · rw [if_neg h, if_neg h, if_neg h]
theorem tp_K2 (kd a e x : Int32) : cw_st (tp_KI I kd a e) 15 2 x = tp_KI I x a e := by rw [tp_upst, tp_f2]
theorem tp_K3 (kd a e x : Int32) : cw_st (tp_KI I kd a e) 15 3 x = tp_KI I kd x e := by rw [tp_upst, tp_f3]
theorem tp_K4 (kd a e x : Int32) : cw_st (tp_KI I kd a e) 15 4 x = tp_KI I kd a x := by rw [tp_upst, tp_f4]
theorem tp_g15 (f : Nat → Int32) (ah ty fr va x : Int32) : upd (tp_g f ah ty fr va) 15 x = tp_g f x ty fr va := by
  funext p
  simp only [upd, tp_g]
  by_cases h : p = 15
  · subst h; rfl
  · rw [if_neg h, if_neg h, if_neg h]
theorem tp_g16 (f : Nat → Int32) (ah ty fr va x : Int32) : upd (tp_g f ah ty fr va) 16 x = tp_g f ah x fr va := by
  funext p
  simp only [upd, tp_g]
  by_cases h : p = 16
  · subst h; rfl
  · rw [if_neg h, if_neg h, if_neg h]
theorem tp_g17 (f : Nat → Int32) (ah ty fr va x : Int32) : upd (tp_g f ah ty fr va) 17 x = tp_g f ah ty x va := by
  funext p
  simp only [upd, tp_g]
  by_cases h : p = 17
  · subst h; rfl
  · rw [if_neg h, if_neg h, if_neg h]
theorem tp_g18 (f : Nat → Int32) (ah ty fr va x : Int32) : upd (tp_g f ah ty fr va) 18 x = tp_g f ah ty fr x := by
  funext p
  simp only [upd, tp_g]
  by_cases h : p = 18
  · subst h; rfl
  · rw [if_neg h, if_neg h, if_neg h]
theorem tp_J15 (ah ty fr va x : Int32) : cw_st (tp_KJ J ah ty fr va) 0 15 x = tp_KJ J x ty fr va := by rw [tp_upst, tp_g15]
theorem tp_J16 (ah ty fr va x : Int32) : cw_st (tp_KJ J ah ty fr va) 0 16 x = tp_KJ J ah x fr va := by rw [tp_upst, tp_g16]
theorem tp_J17 (ah ty fr va x : Int32) : cw_st (tp_KJ J ah ty fr va) 0 17 x = tp_KJ J ah ty x va := by rw [tp_upst, tp_g17]
theorem tp_J18 (ah ty fr va x : Int32) : cw_st (tp_KJ J ah ty fr va) 0 18 x = tp_KJ J ah ty fr x := by rw [tp_upst, tp_g18]
theorem tp_J15a (ah ty fr va : Int32) : (tp_KJ J ah ty fr va) 0 15 = ah := rfl
theorem tp_J17a (ah ty fr va : Int32) : (tp_KJ J ah ty fr va) 0 17 = fr := rfl
theorem tp_J18a (ah ty fr va : Int32) : (tp_KJ J ah ty fr va) 0 18 = va := rfl
theorem tp_J4a (ah ty fr va : Int32) : (tp_KJ J ah ty fr va) 0 4 = J 0 4 := rfl
theorem tp_J3a (ah ty fr va : Int32) : (tp_KJ J ah ty fr va) 3 = J 3 := rfl
theorem tp_K2a (kd a e : Int32) : (tp_KI I kd a e) 15 2 = kd := rfl
theorem tp_K3a (kd a e : Int32) : (tp_KI I kd a e) 15 3 = a := rfl
theorem tp_K4a (kd a e : Int32) : (tp_KI I kd a e) 15 4 = e := rfl
theorem tp_K1a (kd a e : Int32) : (tp_KI I kd a e) 1 1 = I 1 1 := rfl
theorem tp_Kta (kd a e : Int32) : (tp_KI I kd a e) 2 = I 2 := rfl
/-- what the digits say -/
def tp_nv (t : Nat → Int32) (a : Nat) : Nat → Int32
  | 0 => 0
  | c + 1 => 10 * tp_nv t a c + t (a + c) - 48
theorem tp_dg_num {b : Int32} (h : tp_dg b) : ∃ d, d ≤ 9 ∧ b = nI (48 + d) := by
  obtain ⟨d, hd, e⟩ := sp_inC (x := b) (m := 57) (by omega) ⟨Int32.le_trans (by decide) h.1, h.2⟩
  have h1 := h.1
  rw [e] at h1
  have h2 := (nI_leI (a := 48) (by omega) (by omega)).mp h1
  exact ⟨d - 48, by omega, by rw [e, show 48 + (d - 48) = d by omega]⟩
theorem tp_nv_num {t : Nat → Int32} {a : Nat} : ∀ {c : Nat}, c ≤ 2 → (∀ i, i < c → tp_dg (t (a + i))) → ∃ d, d < 10 ^ c ∧ tp_nv t a c = nI d
  | 0, _, _ => ⟨0, by decide, rfl⟩
  | c + 1, hc, h => by
    obtain ⟨d, hd, e⟩ := tp_nv_num (t := t) (a := a) (c := c) (by omega) (fun i hi => h i (by omega))
    obtain ⟨x, hx, ex⟩ := tp_dg_num (h c (by omega))
    refine ⟨10 * d + x, by rw [Nat.pow_succ]; omega, ?_⟩
    show 10 * tp_nv t a c + t (a + c) - 48 = _
    rw [e, ex, show (10 : Int32) * nI d = nI (10 * d) from sp_mul 10 d, nI_add, show nI (10 * d + (48 + x)) - 48 = nI (10 * d + (48 + x) - 48) from sp_sub (b := 48) (by omega)]
    congr 1
    omega
/-- a word goes on -/
theorem tk_word (hT : sp_TL L I J) {a : Nat} (ty va : Int32) : ∀ d j : Nat, j + d = L → a < j → ∃ e, j ≤ e ∧ e ≤ L ∧ bX5_advance_15_151 K none (tp_KI I (if e ≤ a + 8 then 1 else 5) (nI a) (nI e)) (nI (a + 8)) (tp_KI I 1 (nI a) (nI j)) ∧ bY11_token_0_92 K none (tp_KJ J (nI e) (if e ≤ a + 8 then 1 else 4) (nI a) va) (tp_KJ J (nI j) ty (nI a) va) := by
  obtain ⟨hL, t2, t3, t4⟩ := hT
  have fin : ∀ j, a < j → j ≤ L → ((((tp_KI I 1 (nI a) (nI j)) 15 4) ≤ nI (a + 8) → ((none : Option Value) = none ∧ (tp_KI I (if j ≤ a + 8 then 1 else 5) (nI a) (nI j)) = cw_st (tp_KI I 1 (nI a) (nI j)) 15 2 ((tp_KI I 1 (nI a) (nI j)) 15 2))) ∧ (¬ ((tp_KI I 1 (nI a) (nI j)) 15 4) ≤ nI (a + 8) → ((none : Option Value) = none ∧ (tp_KI I (if j ≤ a + 8 then 1 else 5) (nI a) (nI j)) = cw_st (tp_KI I 1 (nI a) (nI j)) 15 2 5))) := fun j hj hj2 => by
    rw [tp_K2, tp_K2, tp_K4a, tp_K2a]
    refine ⟨fun z => ⟨rfl, ?_⟩, fun z => ⟨rfl, ?_⟩⟩
    · rw [if_pos ((nI_leI (by omega) (by omega)).mp z)]
    · rw [if_neg (fun y => z (nI_le y (by omega)))]
  have finr : ∀ j, a < j → j ≤ L → (((((tp_KJ J (nI j) ty (nI a) va) 0 15) - ((tp_KJ J (nI j) ty (nI a) va) 0 17)) ≤ 8 → ((none : Option Value) = none ∧ (tp_KJ J (nI j) (if j ≤ a + 8 then 1 else 4) (nI a) va) = cw_st (tp_KJ J (nI j) ty (nI a) va) 0 16 1)) ∧ (¬ (((tp_KJ J (nI j) ty (nI a) va) 0 15) - ((tp_KJ J (nI j) ty (nI a) va) 0 17)) ≤ 8 → ((none : Option Value) = none ∧ (tp_KJ J (nI j) (if j ≤ a + 8 then 1 else 4) (nI a) va) = cw_st (tp_KJ J (nI j) ty (nI a) va) 0 16 4))) := fun j hj hj2 => by
    rw [tp_J16, tp_J16, tp_J15a, tp_J17a, sp_sub (show a ≤ j by omega)]
    refine ⟨fun z => ⟨rfl, ?_⟩, fun z => ⟨rfl, ?_⟩⟩
    · have z2 := (nI_leI (b := 8) (by omega) (by omega)).mp z
      rw [if_pos (by omega)]
    · rw [if_neg (fun y => z (nI_le (b := 8) (by omega) (by omega)))]
  intro d
  induction d with
  | zero =>
    intro j hj ha
    have e0 : j = L := by omega
    refine ⟨j, Nat.le_refl _, by omega, tbX5_advance_15_151 (br_t ?_ (fin j ha (by omega))), tbY11_token_0_92 (br_t ?_ (finr j ha (by omega)))⟩
    · rw [tp_K1a, tp_K4a, t2, e0]; exact Int32.le_refl _
    · rw [tp_J4a, tp_J15a, t3, e0]; exact Int32.le_refl _
  | succ d ih =>
    intro j hj ha
    have z1 : ¬ (tp_KI I 1 (nI a) (nI j)) 1 1 ≤ (tp_KI I 1 (nI a) (nI j)) 15 4 := by rw [tp_K1a, tp_K4a, t2]; exact fun z => absurd ((nI_leI (by omega) (by omega)).mp z) (by omega)
    have z2 : ¬ (tp_KJ J (nI j) ty (nI a) va) 0 4 ≤ (tp_KJ J (nI j) ty (nI a) va) 0 15 := by rw [tp_J4a, tp_J15a, t3]; exact fun z => absurd ((nI_leI (by omega) (by omega)).mp z) (by omega)
    have i1 : vp_in (nI j) 600 := vp_in_nI (by omega) (by omega)
    have eb : I 2 (nI j).toNatClampNeg = J 3 (nI j).toNatClampNeg := by rw [nI_clamp (by omega)]; exact t4 j (by omega)
    by_cases y : tp_wd (J 3 (nI j).toNatClampNeg)
    · obtain ⟨e, e1, e2, a1, b1⟩ := ih (j + 1) (by omega) (by omega)
      refine ⟨e, by omega, e2, tbX5_advance_15_151 (br_f z1 ⟨i1, _, _, sk_kindOf _, fun q => absurd ?_ q, fun _ => ?_⟩), tbY11_token_0_92 (br_f z2 ⟨i1, _, _, sk_isSmall _, fun q => absurd y (sp_bit0 q), fun _ => ?_⟩)⟩
      · rw [tp_K4a, tp_K2a, tp_Kta, eb]; exact tp_kd1 y
      · rw [tp_K4a, nI_1, tp_K4]; exact a1
      · rw [tp_J15a, nI_1, tp_J15]; exact b1
    · refine ⟨j, Nat.le_refl _, by omega, tbX5_advance_15_151 (br_f z1 ⟨i1, _, _, sk_kindOf _, fun _ => fin j ha (by omega), fun q => absurd ?_ y⟩), tbY11_token_0_92 (br_f z2 ⟨i1, _, _, sk_isSmall _, fun _ => finr j ha (by omega), fun q => absurd (sp_bit1 q) y⟩)⟩
      rw [tp_K4a, tp_K2a, tp_Kta, eb] at q
      have y2 : ¬ tp_kd (J 3 (nI j).toNatClampNeg) = 1 := by
        rw [tp_kd, if_neg y]
        split
        · decide
        · split
          · decide
          · split <;> decide
      exact absurd q y2
/-- a number goes on -/
theorem tk_num (hT : sp_TL L I J) {a : Nat} (ty : Int32) : ∀ d j : Nat, j + d = L → a < j → (∀ i, i < j - a → tp_dg (J 3 (a + i))) → ∃ e, j ≤ e ∧ e ≤ L ∧ (∀ i, i < e - a → tp_dg (J 3 (a + i))) ∧ bX5_advance_15_151 K none (tp_KI I (if e ≤ a + 2 then 2 else 5) (nI a) (nI e)) (nI (a + 2)) (tp_KI I 2 (nI a) (nI j)) ∧ bY11_token_0_175 K none (tp_KJ J (nI e) (if e ≤ a + 2 then 2 else 4) (nI a) (tp_nv (J 3) a (min (e - a) 2))) (tp_KJ J (nI j) ty (nI a) (tp_nv (J 3) a (min (j - a) 2))) := by
  obtain ⟨hL, t2, t3, t4⟩ := hT
  have fin : ∀ j, a < j → j ≤ L → ((((tp_KI I 2 (nI a) (nI j)) 15 4) ≤ nI (a + 2) → ((none : Option Value) = none ∧ (tp_KI I (if j ≤ a + 2 then 2 else 5) (nI a) (nI j)) = cw_st (tp_KI I 2 (nI a) (nI j)) 15 2 ((tp_KI I 2 (nI a) (nI j)) 15 2))) ∧ (¬ ((tp_KI I 2 (nI a) (nI j)) 15 4) ≤ nI (a + 2) → ((none : Option Value) = none ∧ (tp_KI I (if j ≤ a + 2 then 2 else 5) (nI a) (nI j)) = cw_st (tp_KI I 2 (nI a) (nI j)) 15 2 5))) := fun j hj hj2 => by
    rw [tp_K2, tp_K2, tp_K4a, tp_K2a]
    refine ⟨fun z => ⟨rfl, ?_⟩, fun z => ⟨rfl, ?_⟩⟩
    · rw [if_pos ((nI_leI (by omega) (by omega)).mp z)]
    · rw [if_neg (fun y => z (nI_le y (by omega)))]
  have finr : ∀ j va, a < j → j ≤ L → (((((tp_KJ J (nI j) ty (nI a) va) 0 15) - ((tp_KJ J (nI j) ty (nI a) va) 0 17)) ≤ 2 → ((none : Option Value) = none ∧ (tp_KJ J (nI j) (if j ≤ a + 2 then 2 else 4) (nI a) va) = cw_st (tp_KJ J (nI j) ty (nI a) va) 0 16 2)) ∧ (¬ (((tp_KJ J (nI j) ty (nI a) va) 0 15) - ((tp_KJ J (nI j) ty (nI a) va) 0 17)) ≤ 2 → ((none : Option Value) = none ∧ (tp_KJ J (nI j) (if j ≤ a + 2 then 2 else 4) (nI a) va) = cw_st (tp_KJ J (nI j) ty (nI a) va) 0 16 4))) := fun j va hj hj2 => by
    rw [tp_J16, tp_J16, tp_J15a, tp_J17a, sp_sub (show a ≤ j by omega)]
    refine ⟨fun z => ⟨rfl, ?_⟩, fun z => ⟨rfl, ?_⟩⟩
    · have z2 := (nI_leI (b := 2) (by omega) (by omega)).mp z
      rw [if_pos (by omega)]
    · rw [if_neg (fun y => z (nI_le (b := 2) (by omega) (by omega)))]
  intro d
  induction d with
  | zero =>
    intro j hj ha hd
    have e0 : j = L := by omega
    refine ⟨j, Nat.le_refl _, by omega, hd, tbX5_advance_15_151 (br_t ?_ (fin j ha (by omega))), tbY11_token_0_175 (br_t ?_ (finr j _ ha (by omega)))⟩
    · rw [tp_K1a, tp_K4a, t2, e0]; exact Int32.le_refl _
    · rw [tp_J4a, tp_J15a, t3, e0]; exact Int32.le_refl _
  | succ d ih =>
    intro j hj ha hd
    have z1 : ¬ (tp_KI I 2 (nI a) (nI j)) 1 1 ≤ (tp_KI I 2 (nI a) (nI j)) 15 4 := by rw [tp_K1a, tp_K4a, t2]; exact fun z => absurd ((nI_leI (by omega) (by omega)).mp z) (by omega)
    have z2 : ∀ va, ¬ (tp_KJ J (nI j) ty (nI a) va) 0 4 ≤ (tp_KJ J (nI j) ty (nI a) va) 0 15 := fun va => by rw [tp_J4a, tp_J15a, t3]; exact fun z => absurd ((nI_leI (by omega) (by omega)).mp z) (by omega)
    have i1 : vp_in (nI j) 600 := vp_in_nI (by omega) (by omega)
    have ej : (nI j).toNatClampNeg = j := nI_clamp (by omega)
    have eb : I 2 (nI j).toNatClampNeg = J 3 (nI j).toNatClampNeg := by rw [ej]; exact t4 j (by omega)
    by_cases y : tp_dg (J 3 (nI j).toNatClampNeg)
    · have hd2 : ∀ i, i < j + 1 - a → tp_dg (J 3 (a + i)) := fun i hi => by
        by_cases w : i < j - a
        · exact hd i w
        · rw [show a + i = j by omega]; rw [ej] at y; exact y
      obtain ⟨e, e1, e2, e3, a1, b1⟩ := ih (j + 1) (by omega) (by omega) hd2
      refine ⟨e, by omega, e2, e3, tbX5_advance_15_151 (br_f z1 ⟨i1, _, _, sk_kindOf _, fun q => absurd ?_ q, fun _ => ?_⟩), tbY11_token_0_175 (br_f (z2 _) ⟨i1, _, _, sk_isDigit _, fun q => absurd y (sp_bit0 q), fun _ => ⟨fun q => ?_, fun q => ⟨i1, ?_⟩⟩⟩)⟩
      · rw [tp_K4a, tp_K2a, tp_Kta, eb]; exact tp_kd2 (tp_dg_wd y) y
      · rw [tp_K4a, nI_1, tp_K4]; exact a1
      · rw [tp_J15a, tp_J17a, sp_sub (show a ≤ j by omega)] at q
        have q2 := (nI_leI (a := 2) (by omega) (by omega)).mp q
        rw [tp_J15a, nI_1, tp_J15]
        rw [show min (j + 1 - a) 2 = min (j - a) 2 by omega] at b1
        exact b1
      · rw [tp_J15a, tp_J17a, sp_sub (show a ≤ j by omega)] at q
        have q2 : ¬ 2 ≤ j - a := fun w => q (nI_le (a := 2) w (by omega))
        rw [tp_J18, tp_J15a, tp_J15a, tp_J18a, tp_J3a, nI_1, tp_J15, ej]
        have e5 : tp_nv (J 3) a (min (j + 1 - a) 2) = tp_nv (J 3) a (min (j - a) 2) * 10 + J 3 j - 48 := by
          rw [show min (j + 1 - a) 2 = (j - a) + 1 by omega, show min (j - a) 2 = j - a by omega]
          show 10 * tp_nv (J 3) a (j - a) + J 3 (a + (j - a)) - 48 = _
          rw [Int32.mul_comm, show a + (j - a) = j by omega]
        rw [e5] at b1
        exact b1
    · refine ⟨j, Nat.le_refl _, by omega, hd, tbX5_advance_15_151 (br_f z1 ⟨i1, _, _, sk_kindOf _, fun _ => fin j ha (by omega), fun q => absurd ?_ y⟩), tbY11_token_0_175 (br_f (z2 _) ⟨i1, _, _, sk_isDigit _, fun _ => finr j _ ha (by omega), fun q => absurd (sp_bit1 q) y⟩)⟩
      rw [tp_K4a, tp_K2a, tp_Kta, eb] at q
      have y2 : ¬ tp_kd (J 3 (nI j).toNatClampNeg) = 2 := by
        rw [tp_kd, if_neg y]
        split
        · decide
        · split
          · decide
          · split <;> decide
      exact absurd q y2
/-- the facts of a token: kd its kind in the class's numbers, from a to e, va its value -/
def tp_tf (t : Nat → Int32) (L kd a e : Nat) (va : Int32) : Prop := a ≤ e ∧ e ≤ L ∧ ((kd = 0 ∧ e = a) ∨ (kd = 1 ∧ a < e ∧ e ≤ a + 8) ∨ (kd = 2 ∧ a < e ∧ e ≤ a + 2 ∧ va = tp_nv t a (e - a) ∧ ∃ d, d ≤ 99 ∧ va = nI d) ∨ kd = 3 ∨ kd = 5)
/-- the kind in the reference's numbers -/
def tp_ty (kd : Nat) : Int32 := if kd = 5 then 4 else nI kd
/-- the reference's token behind the spaces -/
def tp_tail (K : cw_K) (r : Option Value) (J0 I : cw_M) : Prop := ((¬ ((cw_st I 0 17 (I 0 15)) 0 15) = ((cw_st I 0 17 (I 0 15)) 0 4) → (vp_in ((cw_st I 0 17 (I 0 15)) 0 15) 600 ∧ (∃ (v_86 : Int32) (J_86 : cw_M), rw_C K mY11_isSmall [.int ((cw_st I 0 17 (I 0 15)) 3 ((cw_st I 0 17 (I 0 15)) 0 15).toNatClampNeg)] (cw_st I 0 17 (I 0 15)) (some (.int v_86)) J_86 ∧ ((v_86 = 0 → (vp_in (J_86 0 15) 600 ∧ (∃ (v_164 : Int32) (J_164 : cw_M), rw_C K mY11_isDigit [.int (J_86 3 (J_86 0 15).toNatClampNeg)] J_86 (some (.int v_164)) J_164 ∧ ((v_164 = 0 → (vp_in (J_164 0 15) 600 ∧ ((¬ (J_164 3 (J_164 0 15).toNatClampNeg) = 59 → (r = none ∧ J0 = cw_st (cw_st J_164 0 16 4) 0 15 (((cw_st J_164 0 16 4) 0 15) + 1))) ∧ ((J_164 3 (J_164 0 15).toNatClampNeg) = 59 → (r = none ∧ J0 = cw_st (cw_st J_164 0 16 3) 0 15 (((cw_st J_164 0 16 3) 0 15) + 1)))))) ∧ (¬ v_164 = 0 → bY11_token_0_175 K r J0 (cw_st J_164 0 18 0)))))) ∧ (¬ v_86 = 0 → bY11_token_0_92 K r J0 J_86))))) ∧ (((cw_st I 0 17 (I 0 15)) 0 15) = ((cw_st I 0 17 (I 0 15)) 0 4) → (r = none ∧ J0 = cw_st (cw_st I 0 17 (I 0 15)) 0 16 0)))
/-- behind the spaces, at a -/
theorem tk_here (hT : sp_TL L I J) {a : Nat} (ha : a ≤ L) (hs : a < L → ¬ (J 3 a = 32 ∨ J 3 a = 10)) (k0 e0 t0 f0 v0 : Int32) : ∃ kd e va, tp_tf (J 3) L kd a e va ∧ bX5_advance_15_91 K none (tp_KI I (nI kd) (nI a) (nI e)) (tp_KI I (if a < L then tp_kd (J 3 a) else 0) (nI a) e0) ∧ tp_tail K none (tp_KJ J (nI e) (tp_ty kd) (nI a) va) (tp_KJ J (nI a) t0 f0 v0) := by
  have hL := hT.1
  have t2 := hT.2.1
  have t3 := hT.2.2.1
  have hin : a < L → vp_in (nI a) 600 := fun _ => vp_in_nI (by omega) (by omega)
  have ea : (nI a).toNatClampNeg = a := nI_clamp (by omega)
  unfold tp_tail
  rw [tp_J15a, tp_J17, tp_J15a, tp_J4a, tp_J3a, t3, ea]
  by_cases z : a < L
  · rw [if_pos z]
    have zne : ¬ nI a = nI L := fun q => absurd ((nI_eq (by omega) (by omega)).mp q) (by omega)
    have hs2 := hs z
    by_cases y1 : tp_wd (J 3 a)
    · obtain ⟨e, e1, e2, a1, b1⟩ := tk_word (K := K) hT (a := a) t0 v0 (L - (a + 1)) (a + 1) (by omega) (by omega)
      have hr : bY11_token_0_92 K none (tp_KJ J (nI e) (if e ≤ a + 8 then 1 else 4) (nI a) v0) (tp_KJ J (nI a) t0 (nI a) v0) := by
        refine tbY11_token_0_92 (br_f ?_ ⟨hin z, _, _, sk_isSmall _, fun q => absurd ?_ (sp_bit0 q), fun _ => ?_⟩)
        · rw [tp_J4a, tp_J15a, t3]; exact fun q => absurd ((nI_leI (by omega) (by omega)).mp q) (by omega)
        · rw [tp_J3a, tp_J15a, ea]; exact y1
        · rw [tp_J15a, nI_1, tp_J15]; exact b1
      refine ⟨if e ≤ a + 8 then 1 else 5, e, v0, ⟨by omega, e2, ?_⟩, ?_, ⟨fun _ => ⟨hin z, _, _, sk_isSmall _, fun q => absurd y1 (sp_bit0 q), fun _ => ?_⟩, fun q => absurd q zne⟩⟩
      · by_cases w : e ≤ a + 8
        · rw [if_pos w]; exact Or.inr (Or.inl ⟨rfl, by omega, w⟩)
        · rw [if_neg w]; exact Or.inr (Or.inr (Or.inr (Or.inr rfl)))
      · rw [tp_kd1 y1]
        refine tbX5_advance_15_91 ⟨fun _ => ?_, fun q => absurd q (by rw [tp_K2a]; decide)⟩
        rw [tp_K3a, nI_1, tp_K4]
        refine tbX5_advance_15_115 ⟨fun _ => ⟨fun q => absurd rfl q, fun _ => ?_⟩, fun q => absurd rfl q⟩
        rw [tp_K3a, show nI a + 8 = nI (a + 8) from nI_add a 8]
        by_cases w : e ≤ a + 8
        · rw [if_pos w] at a1 ⊢; exact a1
        · rw [if_neg w] at a1 ⊢; exact a1
      · by_cases w : e ≤ a + 8
        · rw [if_pos w] at hr ⊢; exact hr
        · rw [if_neg w] at hr ⊢; exact hr
    · by_cases y2 : tp_dg (J 3 a)
      · obtain ⟨e, e1, e2, e3, a1, b1⟩ := tk_num (K := K) hT (a := a) t0 (L - (a + 1)) (a + 1) (by omega) (by omega) (fun i hi => by rw [show a + i = a by omega]; exact y2)
        have hr : bY11_token_0_175 K none (tp_KJ J (nI e) (if e ≤ a + 2 then 2 else 4) (nI a) (tp_nv (J 3) a (min (e - a) 2))) (tp_KJ J (nI a) t0 (nI a) 0) := by
          refine tbY11_token_0_175 (br_f ?_ ⟨hin z, _, _, sk_isDigit _, fun q => absurd ?_ (sp_bit0 q), fun _ => ⟨fun q => ?_, fun _ => ⟨hin z, ?_⟩⟩⟩)
          · rw [tp_J4a, tp_J15a, t3]; exact fun q => absurd ((nI_leI (by omega) (by omega)).mp q) (by omega)
          · rw [tp_J3a, tp_J15a, ea]; exact y2
          · rw [tp_J15a, tp_J17a, sp_sub (Nat.le_refl a)] at q
            exact absurd ((nI_leI (a := 2) (by omega) (by omega)).mp q) (by omega)
          · rw [tp_J18, tp_J15a, tp_J15a, tp_J18a, tp_J3a, nI_1, tp_J15, ea]
            have e5 : tp_nv (J 3) a (min (a + 1 - a) 2) = 0 * 10 + J 3 a - 48 := by
              rw [show min (a + 1 - a) 2 = 0 + 1 by omega]
              show 10 * (0 : Int32) + J 3 (a + 0) - 48 = _
              rw [Int32.mul_comm]
              rfl
            rw [e5] at b1
            exact b1
        refine ⟨if e ≤ a + 2 then 2 else 5, e, tp_nv (J 3) a (min (e - a) 2), ⟨by omega, e2, ?_⟩, ?_, ⟨fun _ => ⟨hin z, _, _, sk_isSmall _, fun _ => ⟨hin z, _, _, sk_isDigit _, fun q => absurd ?_ (sp_bit0 q), fun _ => ?_⟩, fun q => absurd (sp_bit1 q) y1⟩, fun q => absurd q zne⟩⟩
        · by_cases w : e ≤ a + 2
          · rw [if_pos w]
            refine Or.inr (Or.inr (Or.inl ⟨rfl, by omega, w, by rw [show min (e - a) 2 = e - a by omega], ?_⟩))
            obtain ⟨d, hd, ed⟩ := tp_nv_num (t := J 3) (a := a) (c := min (e - a) 2) (by omega) (fun i hi => e3 i (by omega))
            have h10 : 10 ^ (min (e - a) 2) ≤ 10 ^ 2 := Nat.pow_le_pow_right (by omega) (by omega)
            exact ⟨d, by omega, ed⟩
          · rw [if_neg w]; exact Or.inr (Or.inr (Or.inr (Or.inr rfl)))
        · rw [tp_kd2 y1 y2]
          refine tbX5_advance_15_91 ⟨fun _ => ?_, fun q => absurd q (by rw [tp_K2a]; decide)⟩
          rw [tp_K3a, nI_1, tp_K4]
          refine tbX5_advance_15_115 ⟨fun q => absurd q (by rw [tp_K2a]; decide), fun _ => ⟨fun q => absurd rfl q, fun _ => ⟨fun _ => ?_, fun q => absurd q (by rw [tp_K2a]; decide)⟩⟩⟩
          rw [tp_K3a, show nI a + 2 = nI (a + 2) from nI_add a 2]
          by_cases w : e ≤ a + 2
          · rw [if_pos w] at a1 ⊢; exact a1
          · rw [if_neg w] at a1 ⊢; exact a1
        · rw [tp_J3a, tp_J15a, ea]; exact y2
        · rw [tp_J18]
          by_cases w : e ≤ a + 2
          · rw [if_pos w] at hr ⊢; exact hr
          · rw [if_neg w] at hr ⊢; exact hr
      · have cls : ∀ kd : Nat, (kd = 3 ∨ kd = 5) → tp_kd (J 3 a) = nI kd → bX5_advance_15_91 K none (tp_KI I (nI kd) (nI a) (nI (a + 1))) (tp_KI I (tp_kd (J 3 a)) (nI a) e0) := fun kd hk he => by
          rw [he]
          have n0 : ¬ nI kd = 0 := by rcases hk with rfl | rfl <;> decide
          have n1 : ¬ nI kd = 1 := by rcases hk with rfl | rfl <;> decide
          have n2 : ¬ nI kd = 2 := by rcases hk with rfl | rfl <;> decide
          refine tbX5_advance_15_91 ⟨fun _ => ?_, fun q => absurd q n0⟩
          rw [tp_K3a, nI_1, tp_K4]
          exact tbX5_advance_15_115 ⟨fun q => absurd q n1, fun _ => ⟨fun _ => ⟨rfl, rfl⟩, fun q => absurd q n2⟩⟩
        by_cases y3 : J 3 a = 59
        · refine ⟨3, a + 1, v0, ⟨by omega, by omega, Or.inr (Or.inr (Or.inr (Or.inl rfl)))⟩, cls 3 (Or.inl rfl) (tp_kd3 y1 y2 hs2 y3), ⟨fun _ => ⟨hin z, _, _, sk_isSmall _, fun _ => ⟨hin z, _, _, sk_isDigit _, fun _ => ⟨hin z, fun q => absurd ?_ q, fun _ => ⟨rfl, ?_⟩⟩, fun q => absurd (sp_bit1 q) ?_⟩, fun q => absurd (sp_bit1 q) y1⟩, fun q => absurd q zne⟩⟩
          · rw [tp_J3a, tp_J15a, ea]; exact y3
          · rw [tp_J16, tp_J15a, nI_1, tp_J15]; rfl
          · rw [tp_J3a, tp_J15a, ea]; exact y2
        · refine ⟨5, a + 1, v0, ⟨by omega, by omega, Or.inr (Or.inr (Or.inr (Or.inr rfl)))⟩, cls 5 (Or.inr rfl) (tp_kd5 y1 y2 hs2 y3), ⟨fun _ => ⟨hin z, _, _, sk_isSmall _, fun _ => ⟨hin z, _, _, sk_isDigit _, fun _ => ⟨hin z, fun _ => ⟨rfl, ?_⟩, fun q => absurd ?_ y3⟩, fun q => absurd (sp_bit1 q) ?_⟩, fun q => absurd (sp_bit1 q) y1⟩, fun q => absurd q zne⟩⟩
          · rw [tp_J16, tp_J15a, nI_1, tp_J15]; rfl
          · rw [tp_J3a, tp_J15a, ea] at q; exact q
          · rw [tp_J3a, tp_J15a, ea]; exact y2
  · have e1 : a = L := by omega
    rw [if_neg z]
    refine ⟨0, a, v0, ⟨Nat.le_refl _, ha, Or.inl ⟨rfl, rfl⟩⟩, ?_, ⟨fun q => absurd (by rw [e1]) q, fun _ => ⟨rfl, ?_⟩⟩⟩
    · refine tbX5_advance_15_91 ⟨fun q => absurd rfl q, fun _ => ?_⟩
      rw [tp_K3a, tp_K4]
      exact tbX5_advance_15_115 ⟨fun q => absurd q (by rw [tp_K2a]; decide), fun _ => ⟨fun _ => ⟨rfl, rfl⟩, fun q => absurd q (by rw [tp_K2a]; decide)⟩⟩
    · rw [tp_J16]; rfl
theorem tk_loop (hT : sp_TL L I J) (k0 e0 t0 f0 v0 : Int32) : ∀ d i : Nat, i + d = L → ∃ kd a e va, i ≤ a ∧ tp_tf (J 3) L kd a e va ∧ bX5_advance_15_8 K none (tp_KI I (nI kd) (nI a) (nI e)) (tp_KI I k0 (nI i) e0) ∧ bY11_token_0_0 K none (tp_KJ J (nI e) (tp_ty kd) (nI a) va) (tp_KJ J (nI i) t0 f0 v0) := by
  have hL := hT.1
  have t2 := hT.2.1
  have t3 := hT.2.2.1
  have t4 := hT.2.2.2
  intro d
  induction d with
  | zero =>
    intro i hi
    obtain ⟨kd, e, va, h1, a1, b1⟩ := tk_here (K := K) hT (a := i) (by omega) (fun z => absurd z (by omega)) k0 e0 t0 f0 v0
    rw [if_neg (by omega)] at a1
    have z1 : (tp_KI I k0 (nI i) e0) 1 1 ≤ (tp_KI I k0 (nI i) e0) 15 3 := by rw [tp_K1a, tp_K3a, t2, show i = L by omega]; exact Int32.le_refl _
    refine ⟨kd, i, e, va, Nat.le_refl _, h1, tbX5_advance_15_8 (br_t z1 (br_t z1 ?_)), tbY11_token_0_0 (br_t ?_ b1)⟩
    · rw [tp_K2]; exact a1
    · rw [tp_J4a, tp_J15a, t3, show i = L by omega]; exact Int32.le_refl _
  | succ d ih =>
    intro i hi
    have z1 : ¬ (tp_KI I k0 (nI i) e0) 1 1 ≤ (tp_KI I k0 (nI i) e0) 15 3 := by rw [tp_K1a, tp_K3a, t2]; exact fun z => absurd ((nI_leI (by omega) (by omega)).mp z) (by omega)
    have z2 : ¬ (tp_KJ J (nI i) t0 f0 v0) 0 4 ≤ (tp_KJ J (nI i) t0 f0 v0) 0 15 := by rw [tp_J4a, tp_J15a, t3]; exact fun z => absurd ((nI_leI (by omega) (by omega)).mp z) (by omega)
    have i1 : vp_in (nI i) 600 := vp_in_nI (by omega) (by omega)
    have ei : (nI i).toNatClampNeg = i := nI_clamp (by omega)
    have eb : I 2 (nI i).toNatClampNeg = J 3 i := by rw [ei]; exact t4 i (by omega)
    have ec : J 3 (nI i).toNatClampNeg = J 3 i := by rw [ei]
    by_cases y : J 3 i = 32 ∨ J 3 i = 10
    · obtain ⟨kd, a, e, va, h0, h1, a1, b1⟩ := ih (i + 1) (by omega)
      have yw : ¬ tp_wd (J 3 i) := by rcases y with y | y <;> rw [y] <;> decide
      have yd : ¬ tp_dg (J 3 i) := by rcases y with y | y <;> rw [y] <;> decide
      have hb : bY11_token_0_0 K none (tp_KJ J (nI e) (tp_ty kd) (nI a) va) (cw_st (tp_KJ J (nI i) t0 f0 v0) 0 15 ((tp_KJ J (nI i) t0 f0 v0) 0 15 + 1)) := by rw [tp_J15a, nI_1, tp_J15]; exact b1
      refine ⟨kd, a, e, va, by omega, h1, tbX5_advance_15_8 (br_f z1 ⟨i1, _, _, sk_kindOf _, fun q => absurd ?_ q, fun _ => ?_⟩), tbY11_token_0_0 (br_f z2 ⟨i1, fun _ => hb, fun q => ⟨i1, fun q2 => absurd ?_ q2, fun _ => hb⟩⟩)⟩
      · rw [tp_K3a, tp_Kta, eb]; exact tp_kd4 yw yd y
      · rw [tp_K3a, nI_1, tp_K3]; exact a1
      · rw [tp_J3a, tp_J15a, ec] at q ⊢
        rcases y with y | y
        · exact absurd y q
        · exact y
    · obtain ⟨kd, e, va, h1, a1, b1⟩ := tk_here (K := K) hT (a := i) (by omega) (fun _ => y) k0 e0 t0 f0 v0
      rw [if_pos (by omega)] at a1
      have y4 : ¬ tp_kd (J 3 i) = 4 := by
        rw [tp_kd]
        split
        · decide
        · split
          · decide
          · split <;> decide
      refine ⟨kd, i, e, va, Nat.le_refl _, h1, tbX5_advance_15_8 (br_f z1 ⟨i1, _, _, sk_kindOf _, fun _ => br_f z1 ⟨i1, _, _, sk_kindOf _, ?_⟩, fun q => absurd ?_ y4⟩), tbY11_token_0_0 (br_f z2 ⟨i1, fun q => absurd ?_ y, fun _ => ⟨i1, fun _ => b1, fun q => absurd ?_ y⟩⟩)⟩
      · rw [tp_K2, tp_K3a, tp_Kta, eb]; exact a1
      · rw [tp_K3a, tp_Kta, eb] at q; exact q
      · rw [tp_J3a, tp_J15a, ec] at q; exact Or.inl q
      · rw [tp_J3a, tp_J15a, ec] at q; exact Or.inr q
theorem tp_KI_self (I : cw_M) : tp_KI I (I 15 2) (I 15 3) (I 15 4) = I := by
  funext o
  by_cases h : o = 15
  · subst h
    funext p
    show (if p = 2 then I 15 2 else if p = 3 then I 15 3 else if p = 4 then I 15 4 else I 15 p) = I 15 p
    by_cases h2 : p = 2
    · rw [if_pos h2, h2]
    · by_cases h3 : p = 3
      · rw [if_neg h2, if_pos h3, h3]
      · by_cases h4 : p = 4
        · rw [if_neg h2, if_neg h3, if_pos h4, h4]
        · rw [if_neg h2, if_neg h3, if_neg h4]
  · simp [cw_up, h]
theorem tp_KJ_self (J : cw_M) : tp_KJ J (J 0 15) (J 0 16) (J 0 17) (J 0 18) = J := by
  funext o
  by_cases h : o = 0
  · subst h
    funext p
    show (if p = 15 then J 0 15 else if p = 16 then J 0 16 else if p = 17 then J 0 17 else if p = 18 then J 0 18 else J 0 p) = J 0 p
    by_cases h2 : p = 15
    · rw [if_pos h2, h2]
    · by_cases h3 : p = 16
      · rw [if_neg h2, if_pos h3, h3]
      · by_cases h4 : p = 17
        · rw [if_neg h2, if_neg h3, if_pos h4, h4]
        · by_cases h5 : p = 18
          · rw [if_neg h2, if_neg h3, if_neg h4, if_pos h5, h5]
          · rw [if_neg h2, if_neg h3, if_neg h4, if_neg h5]
  · simp [cw_up, h]
/-- the next token, both sides -/
theorem tk_next (hT : sp_TL L I J) {e0 : Nat} (he : e0 ≤ L) (h1 : I 15 4 = nI e0) (h2 : J 0 15 = nI e0) : ∃ kd a e va, e0 ≤ a ∧ tp_tf (J 3) L kd a e va ∧ cw_C (cc_w K) mX5_advance [.ref (cw_a (cc_w K) 15)] I none (tp_KI I (nI kd) (nI a) (nI e)) ∧ rw_C K mY11_token [.ref (cw_a (cc_w K) 0)] J none (tp_KJ J (nI e) (tp_ty kd) (nI a) va) := by
  obtain ⟨kd, a, e, va, h3, h4, a1, b1⟩ := tk_loop (K := K) hT (I 15 2) (I 15 4) (J 0 16) (J 0 17) (J 0 18) (L - e0) e0 (by omega)
  refine ⟨kd, a, e, va, h3, h4, eX5_advance_15 ?_, eY11_token_0 ?_⟩
  · have e5 : cw_st I 15 3 (I 15 4) = tp_KI I (I 15 2) (nI e0) (I 15 4) := by
      have e6 := tp_K3 (I := I) (I 15 2) (I 15 3) (I 15 4) (nI e0)
      rw [tp_KI_self] at e6
      rw [h1] at e6 ⊢
      exact e6
    rw [e5]; exact a1
  · have e5 : tp_KJ J (nI e0) (J 0 16) (J 0 17) (J 0 18) = J := by rw [← h2]; exact tp_KJ_self J
    rw [e5] at b1; exact b1
end TOK
