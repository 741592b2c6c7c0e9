/-! ## the law's own cake: its constructor -/
def nX11_init : cw_Me := (yX11_init, wsX11_init, cX11_init, 2, none, 1, 60)
theorem oknX11_init : cw_ok nX11_init 1 := ⟨by decide +kernel, ⟨_, rfl⟩, by decide +kernel, by decide +kernel, by decide +kernel⟩
/-- the cells while the law's cake is made -/
def co_e (cy : Nat → ClassId) (ad vd : Nat → Nat) (fs : (Nat → Int32) → List Value) (k : Nat) (f : Nat → Int32) : va_E := if k = 32 then .inr (11, fs f) else cp_e cy ad vd k f
abbrev co_w (K : cw_K) (fs : (Nat → Int32) → List Value) (n : Nat) : cw_G := (K.1, K.2.1, cw_ty K.2.2.1, K.2.2.2.1, co_e K.2.2.1 K.2.2.2.1 K.2.2.2.2.1 fs, n, cw_Fc K)
theorem co_eqv {K : cw_K} {fs fs2 : (Nat → Int32) → List Value} {n n2 : Nat} : cw_eqv (co_w K fs n) (co_w K fs2 n2) := ⟨rfl, rfl, rfl, rfl⟩
abbrev co_f (a b c : Value) : (Nat → Int32) → List Value := fun f => [a, .int (f 1), .int (f 2), b, c]
/-- the rows' array lies at q, the rows at r -/
def K7 (K : cw_K) (q : Nat) (r : Nat → Nat) : cw_K := (K.1, K.2.1, K.2.2.1, (fun j => if j = 33 then q else if 34 ≤ j ∧ j < 40 then r (j - 34) else K.2.2.2.1 j), K.2.2.2.2.1, K.2.2.2.2.2.1, K.2.2.2.2.2.2.1, K.2.2.2.2.2.2.2)
theorem co_ne {cy : Nat → ClassId} {ad vd : Nat → Nat} {fs : (Nat → Int32) → List Value} {k : Nat} {f : Nat → Int32} (h : k ≠ 32) : co_e cy ad vd fs k f = cp_e cy ad vd k f := if_neg h
theorem co_keep {cy : Nat → ClassId} {ad vd : Nat → Nat} {fs fs2 : (Nat → Int32) → List Value} {k : Nat} {f f2 : Nat → Int32} (h : k ≠ 32) (e : f2 = f) : co_e cy ad vd fs2 k f2 = co_e cy ad vd fs k f := by rw [co_ne h, co_ne h, e]
set_option maxRecDepth 20000 in
theorem co_mna (K : cw_K) (I : cw_M) (q : Nat) (r : Nat → Nat) : cw_W (co_w (K7 K q r) (co_f .null .null .null) 40) (fun o => if 33 ≤ o then fun _ => 0 else I o) = (cw_W (co_w K (co_f .null .null .null) 33) I ++ [(q, .inl (K.2.2.1 3, 6, .inr (.inr (.inr (.inr (fun i => if i < 6 then some (r i) else none))))))]) ++ (List.range 6).map (fun i => (r i, .inl (K.2.2.1 0, 24, .inl (fun _ => 0)))) := by
  have e40 : List.range 40 = (List.range 33 ++ [33]) ++ (List.range 6).map (fun i => 34 + i) := by decide
  show (List.range 40).map (fun k => (cw_a (co_w (K7 K q r) (co_f .null .null .null) 40) k, cw_e (co_w (K7 K q r) (co_f .null .null .null) 40) k (if 33 ≤ k then fun _ => 0 else I k))) = _
  rw [e40, List.map_append, List.map_append, List.map_map]
  refine congr (congrArg HAppend.hAppend (congr (congrArg HAppend.hAppend ?_) ?_)) ?_
  · refine List.map_congr_left (fun k hk => ?_)
    have hk : k < 33 := List.mem_range.mp hk
    rcases (show k = 0 ∨ k = 1 ∨ k = 2 ∨ k = 3 ∨ k = 4 ∨ k = 5 ∨ k = 6 ∨ k = 7 ∨ k = 8 ∨ k = 9 ∨ k = 10 ∨ k = 11 ∨ k = 12 ∨ k = 13 ∨ k = 14 ∨ k = 15 ∨ k = 16 ∨ k = 17 ∨ k = 18 ∨ k = 19 ∨ k = 20 ∨ k = 21 ∨ k = 22 ∨ k = 23 ∨ k = 24 ∨ k = 25 ∨ k = 26 ∨ k = 27 ∨ k = 28 ∨ k = 29 ∨ k = 30 ∨ k = 31 ∨ k = 32 by omega) with rfl | rfl | rfl | rfl | rfl | rfl | rfl | rfl | rfl | rfl | rfl | rfl | rfl | rfl | rfl | rfl | rfl | rfl | rfl | rfl | rfl | rfl | rfl | rfl | rfl | rfl | rfl | rfl | rfl | rfl | rfl | rfl | rfl <;> rfl
  · refine congrArg (fun e : va_E => [(q, e)]) ?_
    refine congrArg (fun g : Nat → Option Nat => (.inl (K.2.2.1 3, 6, .inr (.inr (.inr (.inr g)))) : va_E)) (funext fun i => ?_)
    by_cases hi : i < 6
    · rw [if_pos hi, if_pos hi]
      show some (if 34 + i = 33 then q else if 34 ≤ 34 + i ∧ 34 + i < 40 then r (34 + i - 34) else K.2.2.2.1 (34 + i)) = _
      rw [if_neg (by omega), if_pos ⟨by omega, by omega⟩, show 34 + i - 34 = i by omega]
    · rw [if_neg hi, if_neg hi]
  · refine List.map_congr_left (fun i hi => ?_)
    have hi : i < 6 := List.mem_range.mp hi
    rcases (show i = 0 ∨ i = 1 ∨ i = 2 ∨ i = 3 ∨ i = 4 ∨ i = 5 by omega) with rfl | rfl | rfl | rfl | rfl | rfl <;> rfl
set_option maxRecDepth 20000 in
theorem co_ext (K : cw_K) (a b c : Value) (q : Nat) : cw_ext (co_w K (co_f a b c) 40) (co_w (kset K 40 q) (co_f a b c) 41) q (fun f => .inl (K.2.2.1 0, 24, .inl f)) := ⟨rfl, rfl, rfl, rfl, fun j hj => (if_neg (show ¬ j = 40 from Nat.ne_of_lt hj) : (if j = 40 then q else K.2.2.2.1 j) = K.2.2.2.1 j), fun k hk => by
  have hk : k < 40 := hk
  rcases (show k = 0 ∨ k = 1 ∨ k = 2 ∨ k = 3 ∨ k = 4 ∨ k = 5 ∨ k = 6 ∨ k = 7 ∨ k = 8 ∨ k = 9 ∨ k = 10 ∨ k = 11 ∨ k = 12 ∨ k = 13 ∨ k = 14 ∨ k = 15 ∨ k = 16 ∨ k = 17 ∨ k = 18 ∨ k = 19 ∨ k = 20 ∨ k = 21 ∨ k = 22 ∨ k = 23 ∨ k = 24 ∨ k = 25 ∨ k = 26 ∨ k = 27 ∨ k = 28 ∨ k = 29 ∨ k = 30 ∨ k = 31 ∨ k = 32 ∨ k = 33 ∨ k = 34 ∨ k = 35 ∨ k = 36 ∨ k = 37 ∨ k = 38 ∨ k = 39 by omega) with rfl | rfl | rfl | rfl | rfl | rfl | rfl | rfl | rfl | rfl | rfl | rfl | rfl | rfl | rfl | rfl | rfl | rfl | rfl | rfl | rfl | rfl | rfl | rfl | rfl | rfl | rfl | rfl | rfl | rfl | rfl | rfl | rfl | rfl | rfl | rfl | rfl | rfl | rfl | rfl
  all_goals first | rfl | exact funext fun f => congrArg (fun g : Nat → Option Nat => (.inl (K.2.2.1 3, 6, .inr (.inr (.inr (.inr g)))) : va_E)) (xr_fn K 40 q (by decide)), (if_pos rfl : (if 40 = 40 then q else K.2.2.2.1 40) = q), rfl, rfl⟩
section OWN
variable {K : cw_K} {I : cw_M}
/-- how the constructor ends -/
abbrev ow_S (K : cw_K) (n k : Nat) (I : cw_M) : Option Value → cw_G → cw_M → Prop := fun r w' I' => ∃ K2 : cw_K, r = none ∧ w' = cp_w K2 ∧ cw_Fc K2 = cw_Fc K ∧ (∀ j, j < 33 → K2.2.2.2.1 j = K.2.2.2.1 j) ∧ I' 32 1 = nI n ∧ I' 32 2 = nI k ∧ ∀ o, o < 32 → I' o = I o
theorem ow_cv {n k : Nat} {v : Nat → Nat → Nat} (h : sp_cv n k v I) : sp_cv n k v (cw_up (fun o => if 33 ≤ o then fun _ => 0 else I o) 40 (fun _ => 0)) := h
theorem ow_cv2 {n k : Nat} {v : Nat → Nat → Nat} {x : Int32} (h : sp_cv n k v I) : sp_cv n k v (cw_st I 32 1 x) := h
theorem ow_init {n k : Nat} {v : Nat → Nat → Nat} (hFA : ow_FA (cw_Fc K)) (hc : sp_cv n k v I) : cw_SN 8 174 (co_w K (co_f .null .null .null) 33) nX11_init [.ref (K.2.2.2.1 32), .ref (K.2.2.2.1 0)] I (ow_S K n k I) := by
  refine cw_entryS oknX11_init (Nat.le_of_ble_eq_true rfl) (show cw_B (co_w K (co_f .null .null .null) 33) (co_w K (co_f .null .null .null) 33) nX11_init (cw_ZS 8 174 (co_w K (co_f .null .null .null) 33) (ow_S K n k I)) 8 174 0 0 I 0 [(0, .ref (K.2.2.2.1 32)), (1, .ref (K.2.2.2.1 0))] [] from ?_)
  refine cw_aload_n dX11_init_0 0 rfl rfl ?_
  refine cw_objI (by decide +kernel) (by decide +kernel) (by decide +kernel) ⟨Nat.le_of_ble_eq_true rfl, Nat.le_of_ble_eq_true rfl⟩ dX11_init_1 ?_
  refine cw_aload_n dX11_init_4 0 rfl rfl ?_
  refine cw_bipush (v := 6) dX11_init_5 (by decide) ?_
  refine cw_bipush (v := 24) dX11_init_7 (by decide) ?_
  refine cw_mna (w2 := fun q r => co_w (K7 K q r) (co_f .null .null .null) 40) (I2 := (fun o => if 33 ≤ o then fun _ => 0 else I o)) (c0 := K.2.2.1 0) (c3 := K.2.2.1 3) (by decide +kernel) hFA (by decide +kernel) 0 3 rfl rfl (fun q r => ⟨rfl, rfl, rfl, rfl⟩) (fun q r => co_mna K I q r) ⟨by omega, by omega⟩ dX11_init_9 (fun q r => ?_)
  refine cw_putF (w := co_w (K7 K q r) (co_f .null .null .null) 40) (w' := co_w (K7 K q r) (co_f .null (.ref q) .null) 40) (I' := (fun o => if 33 ≤ o then fun _ => 0 else I o)) (C := RX11) (T := TX11) (N := 5) (ci := 11) rfl (by decide +kernel) tyX11 tyX11_ok nmX11 32 (show 32 < 40 by decide) rfl rfl 3 (by decide) (by decide +kernel) rfl rfl rfl rfl (show 3 < 5 by decide) co_eqv rfl (fun _ => rfl) rfl (fun j _ hj => co_keep hj rfl) dX11_init_13 ?_
  refine cw_aload_n dX11_init_16 0 rfl rfl ?_
  refine cw_bipush (v := 24) dX11_init_17 (by decide) ?_
  refine cw_newi (w' := fun q2 => co_w (kset (K7 K q r) 40 q2) (co_f .null (.ref q) .null) 41) (N := 24) (cA := K.2.2.1 0) (fun q2 => co_ext (K7 K q r) .null (.ref q) .null q2) 0 rfl (by decide +kernel) rfl (by decide) ⟨by omega, by omega⟩ dX11_init_19 (fun q2 => ?_)
  refine cw_putF (w := co_w (kset (K7 K q r) 40 q2) (co_f .null (.ref q) .null) 41) (w' := co_w (kset (K7 K q r) 40 q2) (co_f .null (.ref q) (.ref q2)) 41) (I' := (cw_up (fun o => if 33 ≤ o then fun _ => 0 else I o) 40 (fun _ => 0))) (C := RX11) (T := TX11) (N := 5) (ci := 11) rfl (by decide +kernel) tyX11 tyX11_ok nmX11 32 (show 32 < 41 by decide) rfl rfl 4 (by decide) (by decide +kernel) rfl rfl rfl rfl (show 4 < 5 by decide) co_eqv rfl (fun _ => rfl) rfl (fun j _ hj => co_keep hj rfl) dX11_init_21 ?_
  refine cw_aload_n dX11_init_24 0 rfl rfl ?_
  refine cw_aload_n dX11_init_25 1 rfl rfl ?_
  refine cw_putF (w := co_w (kset (K7 K q r) 40 q2) (co_f .null (.ref q) (.ref q2)) 41) (w' := co_w (kset (K7 K q r) 40 q2) (co_f (.ref (K.2.2.2.1 0)) (.ref q) (.ref q2)) 41) (I' := (cw_up (fun o => if 33 ≤ o then fun _ => 0 else I o) 40 (fun _ => 0))) (C := RX11) (T := TX11) (N := 5) (ci := 11) rfl (by decide +kernel) tyX11 tyX11_ok nmX11 32 (show 32 < 41 by decide) rfl rfl 0 (by decide) (by decide +kernel) rfl rfl rfl rfl (show 0 < 5 by decide) co_eqv rfl (fun _ => rfl) rfl (fun j _ hj => co_keep hj rfl) dX11_init_26 ?_
  refine cw_perm (cp_w (kset (K7 K q r) 40 q2)) (cw_up (fun o => if 33 ≤ o then fun _ => 0 else I o) 40 (fun _ => 0)) (fun k => k) ⟨rfl, rfl, rfl, rfl⟩ (fun k hk => ⟨hk, rfl, by
    by_cases z : k = 32
    · subst z
      rfl
    · exact (co_ne z).symm⟩) (fun i j _ _ h => h) ?_
  have hc9 : sp_cv n k v (cw_up (fun o => if 33 ≤ o then fun _ => 0 else I o) 40 (fun _ => 0)) := ow_cv hc
  refine cw_aload_n dX11_init_29 0 rfl rfl ?_
  refine cw_aload_n dX11_init_30 1 rfl rfl ?_
  refine cw_callV (w := cp_w (kset (K7 K q r) 40 q2)) (o := 0) (As := []) (cp_same (fc_cellCount hc9)) okX10_cellCount rfl gX11_init_X10_cellCount ⟨Nat.le_of_ble_eq_true rfl, Nat.le_of_ble_eq_true rfl⟩ (show 0 < 41 by decide) rfl (ci := 10) rfl rfl (Nat.le_of_ble_eq_true rfl) dX11_init_31 ?_
  refine cw_putF (w := cp_w (kset (K7 K q r) 40 q2)) (w' := cp_w (kset (K7 K q r) 40 q2)) (I' := cw_st (cw_up (fun o => if 33 ≤ o then fun _ => 0 else I o) 40 (fun _ => 0)) 32 1 (nI n)) (C := RX11) (T := TX11) (N := 5) (ci := 11) rfl (by decide +kernel) tyX11 tyX11_ok nmX11 32 (show 32 < 41 by decide) rfl rfl 1 (by decide) (by decide +kernel) rfl rfl rfl rfl (show 1 < 5 by decide) cw_eqv.rfl rfl (fun _ => rfl) rfl (fun j _ hj => by unfold cw_st cw_up; rw [if_neg hj]) dX11_init_34 ?_
  refine cw_aload_n dX11_init_37 0 rfl rfl ?_
  refine cw_aload_n dX11_init_38 1 rfl rfl ?_
  refine cw_callV (w := cp_w (kset (K7 K q r) 40 q2)) (o := 0) (As := []) (cp_same (fc_siblingCount (ow_cv2 hc9))) okX10_siblingCount rfl gX11_init_X10_siblingCount ⟨Nat.le_of_ble_eq_true rfl, Nat.le_of_ble_eq_true rfl⟩ (show 0 < 41 by decide) rfl (ci := 10) rfl rfl (Nat.le_of_ble_eq_true rfl) dX11_init_39 ?_
  refine cw_putF (w := cp_w (kset (K7 K q r) 40 q2)) (w' := cp_w (kset (K7 K q r) 40 q2)) (I' := cw_st (cw_st (cw_up (fun o => if 33 ≤ o then fun _ => 0 else I o) 40 (fun _ => 0)) 32 1 (nI n)) 32 2 (nI k)) (C := RX11) (T := TX11) (N := 5) (ci := 11) rfl (by decide +kernel) tyX11 tyX11_ok nmX11 32 (show 32 < 41 by decide) rfl rfl 2 (by decide) (by decide +kernel) rfl rfl rfl rfl (show 2 < 5 by decide) cw_eqv.rfl rfl (fun _ => rfl) rfl (fun j _ hj => by unfold cw_st cw_up; rw [if_neg hj]) dX11_init_42 ?_
  refine cw_vretS (S := ow_S K n k I) ⟨rfl, rfl, rfl, rfl⟩ rfl dX11_init_45 ⟨(kset (K7 K q r) 40 q2), rfl, rfl, rfl, fun j hj => ?_, rfl, rfl, fun o ho => ?_⟩
  · show (if j = 40 then q2 else if j = 33 then q else if 34 ≤ j ∧ j < 40 then r (j - 34) else K.2.2.2.1 j) = _
    rw [if_neg (by omega), if_neg (by omega), if_neg (by omega)]
  · show (if o = 32 then _ else if o = 32 then _ else if o = 40 then _ else if 33 ≤ o then _ else I o) = _
    rw [if_neg (by omega), if_neg (by omega), if_neg (by omega), if_neg (by omega)]
end OWN
