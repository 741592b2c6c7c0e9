/-! ## the law from its entry to its loop -/
theorem bg_left {D : va_G} {ws w2 : va_W} {H : Heap} (h : va_P D vwCl (ws ++ w2) H) : va_P D vwCl ws H := fun k q hq => h k q (by rw [List.getElem?_append_left (List.getElem?_eq_some_iff.mp hq).1]; exact hq)
theorem bg_right {D : va_G} {ws w2 : va_W} {H : Heap} (h : va_P D vwCl (ws ++ w2) H) : va_P D vwCl w2 H := fun k q hq => h (ws.length + k) q (by rw [List.getElem?_append_right (Nat.le_add_right _ _), Nat.add_sub_cancel_left]; exact hq)
theorem bg_nil {D : va_G} {H : Heap} : va_P D vwCl [] H := fun k q hq => by simp at hq
theorem bg_nilD {A : Nat → Prop} : va_D A [] := ⟨fun i j p q hp => by simp at hp, fun k q hq => by simp at hq⟩
theorem kx_blind {K : cw_K} {S ci : Nat} {fs as : List Value} (hk : cw_Fok (cw_Fc K)) : ∀ (a : Array Value) (U : State) (g : JFrame) (mk : MethodId), va_Pc as (kx_In K S ci fs) a U → va_Pc as (kx_In K S ci fs) a (U.calling g mk a) := fun a U g mk z => by
  obtain ⟨q1, ⟨q2, q3, q4, q5, q6⟩, q7, q8⟩ := z
  exact ⟨q1, ⟨q2, q3, va_K.moved (u := U) (U := U.calling g mk a) (Vm.Alike.refl U.vm) q4, q5, va_AO.moved (u := U) (U := U.calling g mk a) (Vm.Alike.refl U.vm) q6⟩, kn_N.moved (s := U) (U := U.calling g mk a) (State.WarmedH.refl U) q7, hk.1 _ U _ _ (State.WarmedH.refl U) q8⟩
theorem kx_blindR {K : cw_K} {S : Nat} {fs as : List Value} (hk : cw_Fok (cw_Fc K)) : ∀ (a : Array Value) (U : State) (g : JFrame) (mk : MethodId), va_Pc as (kx_InR K S fs) a U → va_Pc as (kx_InR K S fs) a (U.calling g mk a) := fun a U g mk z => by
  obtain ⟨q1, ⟨q2, q3, q4, q5, q6⟩, q8⟩ := z
  exact ⟨q1, ⟨q2, q3, va_K.moved (u := U) (U := U.calling g mk a) (Vm.Alike.refl U.vm) q4, q5, va_AO.moved (u := U) (U := U.calling g mk a) (Vm.Alike.refl U.vm) q6⟩, hk.1 _ U _ _ (State.WarmedH.refl U) q8⟩
theorem bg_law {p : Program} {l : Launch} {e : Env} {s : State} {m : MethodId} {below : List Frame} {meth : Method} {c : Code} {ls : Array Slot} {Q : State → Prop} {b : Nat} {D : va_G} {cy : Nat → ClassId} {vd sd sv : Nat → Nat} {F : cw_F} {cl cd : ClassId} {I1 I9 J1 J2 : cw_M} {r1 r2 : Int32} {N : Nat}
    (hX : CallFix p m c cL_law 10 s #[.ref b] lw_tbl RL) (hK : va_K D vwCl (cw_ty cy) s) (hKl : va_K D vwCl [(cl, .long)] s) (hKd : va_K D vwCl [(cd, .double)] s) (hO : va_AO RX9 s) (hNn : kn_N s) (hF : F (la_A s) s s.heap) (hFok : cw_Fok F) (hF2 : kn_F2 (kn_K l D cy s.heap.size vd sd sv F)) (hFS : cw_FS F sd sv) (hN : (cw_tx 15).length = N) (hT : N < 600)
    (h1 : cw_C (cc_w (kn_K l D cy s.heap.size vd sd sv F)) mX8_addLetters [.ref (cw_a (cc_w (kn_K l D cy s.heap.size vd sd sv F)) 1), .ref (sd 15)] kn_I0 none I1)
    (h2 : cw_C (cc_w (kn_K l D cy s.heap.size vd sd sv F)) mX10_adoptSetup [.ref (cw_a (cc_w (kn_K l D cy s.heap.size vd sd sv F)) 0)] I1 (some (.int r1)) I9)
    (g1 : cw_C (cr_w (kn_K l D cy s.heap.size vd sd sv F)) mX11_begin [.ref (cw_a (cr_w (kn_K l D cy s.heap.size vd sd sv F)) 0)] (cw_st (kn_M N kn_J0) 0 4 (nI N)) none J1)
    (g2 : cw_C (cr_w (kn_K l D cy s.heap.size vd sd sv F)) mX11_parseSetup [.ref (cw_a (cr_w (kn_K l D cy s.heap.size vd sd sv F)) 0)] J1 (some (.int r2)) J2)
    (hR : sp_Rel I9 (cw_st J2 0 4 0)) (hl : lv_has ls 10 [(0, .ref b)])
    (kk : la_T (kn_K l D cy s.heap.size vd sd sv F) p e s m below meth c b (s.heap.size + 43) (s.heap.size + 44) cl cd Q 0 45 9603 28) : W p l e room_1 s m #[.ref b] below meth c s.heap [] 0 0 Q (F0 m 0 ls []) := by
  have hts := hX.2.2.2.2
  have hA : ∀ q, s.heap.size ≤ q → la_A s q := fun q h => h
  have hwk : wk (cc_w (kn_K l D cy s.heap.size vd sd sv F)) (la_A s) s := ⟨hK, fun i j _ _ h => Nat.add_left_cancel h, hF, hFok, fun k _ => Nat.le_add_right _ k, fun q h => h⟩
  refine kn_new (a := s.heap.size) (ci := 8) (fs := [.null, .null, .null, .null, .null, .null, .null, .null, .null, .null]) (C := RX10) (T := TX10) (N := 10) hX.1 hX.2.1 hts bg_in10 tyX10 tyX10_ok hX.2.2.2.1 (hts (.classLink RL 8 RX10) (lt_mem (k := 1) (i := 25) rfl)) (hts (.instantiable RX10 10) (lt_mem (k := 1) (i := 26) rfl)) (hts (.initialized RX10) (lt_mem (k := 1) (i := 1) rfl)) hK bg_nil bg_nilD va_S.rf hA rfl rfl (fun j hj => by rcases (show j = 0 ∨ j = 1 ∨ j = 2 ∨ j = 3 ∨ j = 4 ∨ j = 5 ∨ j = 6 ∨ j = 7 ∨ j = 8 ∨ j = 9 by omega) with rfl | rfl | rfl | rfl | rfl | rfl | rfl | rfl | rfl | rfl <;> rfl) (Nat.le_of_ble_eq_true rfl) (Nat.le_of_ble_eq_true rfl) dL_law_0 (fun H hP hD hS hz => ?_)
  refine lv_dup hX.1 hX.2.1 dL_law_3 rfl ?_
  refine bg_join (w := cc_w (kn_K l D cy s.heap.size vd sd sv F)) (a := s.heap.size) (va_runI (As := []) (rest := [.ref s.heap.size]) hX (kx_C hFok hF2 h1 h2) (cwI (rm := cw_R mX10_init 31 4865) 0 hts gT_X10_init rfl rfl rfl (hts (.initialized RX10) (lt_mem (k := 1) (i := 1) rfl)) (hts (.methodLink RL 133 yX10_init) (lt_mem (k := 1) (i := 27) rfl)) (hts (.instanceMethod yX10_init) (lt_mem (k := 1) (i := 28) rfl)) rfl (by decide +kernel) ⟨Nat.le_of_ble_eq_true rfl, Nat.le_of_ble_eq_true rfl⟩) ⟨kx_blind hFok, fun U hU hW => ⟨rfl, ⟨by rw [hU]; exact hz, by rw [hU]; exact hP, va_K.moved hW.alike hK, hD.weaken (fun _ _ _ _ => trivial), va_AO.moved hW.alike hO⟩, hNn.moved hW, by
    rw [hU]
    exact hFok.2.1 _ _ _ _ (hFok.1 _ _ _ _ hW hF) hS.1 (fun a h1 h2 => hS.2.1 a h1 h2)⟩⟩ rfl rfl hl.1 rfl (lv_room (Nat.le_of_ble_eq_true rfl)) dL_law_4 ⟨Nat.le_of_ble_eq_true rfl, Nat.le_of_ble_eq_true rfl⟩) hS (Nat.le_refl _) hS.1 (fun H locs hP hz hk hS => ?_)
  refine lv_astore_n (lv' := [(1, .ref s.heap.size), (0, .ref b)]) hX.1 hX.2.1 dL_law_7 rfl hl (by decide) rfl (fun ls hl => ?_)
  refine kn_new (a := s.heap.size + 32) (ci := 9) (fs := [.null, .null, .int 0, .null, .int 0, .int 0, .int 0, .null, .int 0, .int 0, .null, .null, .null, .null, .null, .int 0, .int 0, .int 0, .int 0, .null]) (C := RX11) (T := TX11) (N := 20) hX.1 hX.2.1 hts bg_in11 tyX11 tyX11_ok hX.2.2.2.1 (hts (.classLink RL 134 RX11) (lt_mem (k := 6) (i := 35) rfl)) (hts (.instantiable RX11 20) (lt_mem (k := 6) (i := 36) rfl)) (hts (.initialized RX11) (lt_mem (k := 1) (i := 15) rfl)) hK hP (wl_D hwk) hS hA hz rfl (fun j hj => by rcases (show j = 0 ∨ j = 1 ∨ j = 2 ∨ j = 3 ∨ j = 4 ∨ j = 5 ∨ j = 6 ∨ j = 7 ∨ j = 8 ∨ j = 9 ∨ j = 10 ∨ j = 11 ∨ j = 12 ∨ j = 13 ∨ j = 14 ∨ j = 15 ∨ j = 16 ∨ j = 17 ∨ j = 18 ∨ j = 19 by omega) with rfl | rfl | rfl | rfl | rfl | rfl | rfl | rfl | rfl | rfl | rfl | rfl | rfl | rfl | rfl | rfl | rfl | rfl | rfl | rfl <;> rfl) (Nat.le_of_ble_eq_true rfl) (Nat.le_of_ble_eq_true rfl) dL_law_8 (fun H hP hD hS hz => ?_)
  have hPc := bg_left hP
  have hPn := bg_right hP
  refine lv_dup hX.1 hX.2.1 dL_law_11 rfl ?_
  refine bg_join (w := cr_w (kn_K l D cy s.heap.size vd sd sv F)) (a := s.heap.size + 32) (va_runI (As := []) (rest := [.ref (s.heap.size + 32)]) hX (kx_R hFok hF2 hN hT hFS g1 g2) (cwI (rm := cw_R mX11_init 10 4706) 0 hts gT_X11_init rfl rfl rfl (hts (.initialized RX11) (lt_mem (k := 1) (i := 15) rfl)) (hts (.methodLink RL 136 yX11_init) (lt_mem (k := 6) (i := 37) rfl)) (hts (.instanceMethod yX11_init) (lt_mem (k := 6) (i := 38) rfl)) rfl (by decide +kernel) ⟨Nat.le_of_ble_eq_true rfl, Nat.le_of_ble_eq_true rfl⟩) ⟨kx_blindR hFok, fun U hU hW => ⟨rfl, ⟨by rw [hU]; exact hz, by rw [hU]; exact hPn, va_K.moved hW.alike hK, ⟨fun i j p q hp hq _ => by
      have h1 := (List.getElem?_eq_some_iff.mp hp).1
      have h2 := (List.getElem?_eq_some_iff.mp hq).1
      simp at h1 h2
      omega, fun _ _ _ => trivial⟩, va_AO.moved hW.alike hO⟩, by
    rw [hU]
    exact hFok.2.2 _ _ _ _ (hFok.2.1 _ _ _ _ (hFok.1 _ _ _ _ hW hF) hS.1 (fun a h1 h2 => hS.2.1 a h1 h2)) (fun q hq => Nat.le_trans (Nat.le_add_right _ 32) hq)⟩⟩ rfl rfl hl.1 rfl (lv_room (Nat.le_of_ble_eq_true rfl)) dL_law_12 ⟨Nat.le_of_ble_eq_true rfl, Nat.le_of_ble_eq_true rfl⟩) hS (Nat.le_add_right _ 32) (by omega) (fun H locs hPr hz hk hS => ?_)
  have hPc := wk_kept (w := cc_w (kn_K l D cy s.heap.size vd sd sv F)) hPc (fun k hk9 => hk (s.heap.size + k) (by have h9 : k < 32 := hk9; omega))
  refine lv_astore_n (lv' := [(2, .ref (s.heap.size + 32)), (1, .ref s.heap.size), (0, .ref b)]) hX.1 hX.2.1 dL_law_15 rfl hl (by decide) rfl (fun ls hl => ?_)
  refine lv_iconst (v := 1) hX.1 hX.2.1 dL_law_16 (by decide) ?_
  refine va_newaK (atype := .long) (N := 1) hX.1 hX.2.1 (hts (.arrayClass .long) (lt_mem (k := 8) (i := 119) rfl)) rfl dL_law_17 rfl (by decide) (by decide) (by decide) (Nat.le_of_ble_eq_true rfl) (Nat.le_of_ble_eq_true rfl) hz (fun H6 cA e6 z6 o6 _ n6 => ?_)
  obtain rfl : cA = cl := Option.some.inj (n6.symm.trans (hKl.2 0 _ rfl).2)
  have hPo : va_P D vwCl [(s.heap.size + 43, lo cA (fun _ => 0))] H6 := by
    intro k q hq
    cases k with
    | zero =>
      cases hq
      show H6[s.heap.size + 43]? = some (vp_cell _ _)
      rw [vp_cell_l]
      exact e6
    | succ k => simp at hq
  have hPc := wk_kept (w := cc_w (kn_K l D cy s.heap.size vd sd sv F)) hPc (fun k hk9 => o6 (s.heap.size + k) (by have h9 : k < 32 := hk9; omega))
  have hPr := wk_kept (w := cr_w (kn_K l D cy s.heap.size vd sd sv F)) hPr (fun k hk9 => o6 (s.heap.size + (k + 32)) (by have h9 : k < 11 := hk9; omega))
  have hS : va_S (la_A s) s.heap H6 locs := ⟨Nat.le_trans hS.1 (by omega), fun q h1 h2 => (o6 q (by omega)).trans (hS.2.1 q h1 h2), hS.2.2⟩
  refine lv_astore_n (lv' := [(3, .ref (s.heap.size + 43)), (2, .ref (s.heap.size + 32)), (1, .ref s.heap.size), (0, .ref b)]) hX.1 hX.2.1 dL_law_19 rfl hl (by decide) rfl (fun ls hl => ?_)
  refine lv_iconst (v := 1) hX.1 hX.2.1 dL_law_20 (by decide) ?_
  refine va_newaK (atype := .double) (N := 1) hX.1 hX.2.1 (hts (.arrayClass .double) (lt_mem (k := 8) (i := 120) rfl)) rfl dL_law_21 rfl (by decide) (by decide) (by decide) (Nat.le_of_ble_eq_true rfl) (Nat.le_of_ble_eq_true rfl) (h := s.heap.size + 44) z6 (fun H7 cB e7 z7 o7 _ n7 => ?_)
  obtain rfl : cB = cd := Option.some.inj (n7.symm.trans (hKd.2 0 _ rfl).2)
  have hPd : va_P D vwCl [(s.heap.size + 44, ld cB (fun _ => 0))] H7 := by
    intro k q hq
    cases k with
    | zero =>
      cases hq
      show H7[s.heap.size + 44]? = some (vp_cell _ _)
      rw [vp_cell_d]
      exact e7
    | succ k => simp at hq
  have hPc := wk_kept (w := cc_w (kn_K l D cy s.heap.size vd sd sv F)) hPc (fun k hk9 => o7 (s.heap.size + k) (by have h9 : k < 32 := hk9; omega))
  have hPr := wk_kept (w := cr_w (kn_K l D cy s.heap.size vd sd sv F)) hPr (fun k hk9 => o7 (s.heap.size + (k + 32)) (by have h9 : k < 11 := hk9; omega))
  have hPo := la_one hPo (o7 _ (by omega))
  have hS : va_S (la_A s) s.heap H7 locs := ⟨Nat.le_trans hS.1 (by omega), fun q h1 h2 => (o7 q (by omega)).trans (hS.2.1 q h1 h2), hS.2.2⟩
  refine lv_astore (lv' := [(4, .ref (s.heap.size + 44)), (3, .ref (s.heap.size + 43)), (2, .ref (s.heap.size + 32)), (1, .ref s.heap.size), (0, .ref b)]) hX.1 hX.2.1 dL_law_23 hl (by decide) rfl (fun ls hl => ?_)
  refine lv_iconst (v := 0) hX.1 hX.2.1 dL_law_25 (by decide) ?_
  refine lv_istore (lv' := [(5, .int 0), (4, .ref (s.heap.size + 44)), (3, .ref (s.heap.size + 43)), (2, .ref (s.heap.size + 32)), (1, .ref s.heap.size), (0, .ref b)]) hX.1 hX.2.1 dL_law_26 hl (by decide) rfl (fun ls hl => ?_)
  refine kk H7 locs ls I9 _ _ _ ⟨hPc, hPr, hPo, hPd⟩ hS hR ⟨hl.1, hl.2.1, fun z hz => hl.2.2 z ?_⟩
  simp only [List.mem_cons, List.not_mem_nil, or_false] at hz ⊢
  rcases hz with h | h | h | h | h | h
  · exact Or.inr (Or.inr (Or.inr (Or.inr (Or.inr h))))
  · exact Or.inr (Or.inr (Or.inr (Or.inr (Or.inl h))))
  · exact Or.inr (Or.inr (Or.inr (Or.inl h)))
  · exact Or.inr (Or.inr (Or.inl h))
  · exact Or.inr (Or.inl h)
  · exact Or.inl h
