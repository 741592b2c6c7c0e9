/-! ## the law from its entry to its loop -/
section BG
variable {p : Program} {l : Launch} {e : Env} {R : Room} {s : State} {m : MethodId} {args : Array Value} {below : List Frame} {meth : Method} {c : Code} {H : Heap} {locs : List Loc} {cells slots pc : Nat} {Q : State → Prop} {ls : Array Slot} {stk st : List Value} {w : cw_G}
/-- behind a constructor -/
theorem bg_join {a sz2 mc2 ms2 : Nat} {I9 : cw_M} {as : Array Value} (hrun : va_Run p l e R s m args below meth c H locs cells slots mc2 ms2 (F0 m pc ls stk) st (kx_Q w a sz2 I9 as) (fun q => a ≤ q)) (hS : va_S (fun q => s.heap.size ≤ q) s.heap H locs) (ha : s.heap.size ≤ a) (haH : a ≤ H.size)
    (kk : ∀ (H1 : Heap) (locs1 : List Loc), va_P (cw_d w) vwCl (cw_W w I9) H1 → H1.size = sz2 → (∀ q, q < a → H1[q]? = H[q]?) → va_S (fun q => s.heap.size ≤ q) s.heap H1 locs1 → W p l e R s m args below meth c H1 locs1 (cells + mc2) (slots + ms2) Q (F0 m (pc + 3) ls st)) : W p l e R s m args below meth c H locs cells slots Q (F0 m pc ls stk) := by
  intro T0 hT X0
  obtain ⟨v, st₀, t, T', L1, h0, X', hL, e1, e2, ⟨hv9, ⟨hP1, hz1⟩, hz2, hk2⟩, stp⟩ := hrun T0 hT X0
  cases hv9
  rw [h0] at hz2 hk2
  obtain ⟨t2, a1, b1⟩ := kk T'.heap (locs ++ L1) (by rw [e1]; exact hP1) (by rw [e1]; exact hz1) (fun q hq => by rw [e1]; exact hk2 q (Nat.lt_of_lt_of_le hq haH) (by omega)) ⟨Nat.le_trans hS.1 (by rw [e1]; exact hz2), fun x h1 h2 => by rw [e1, hk2 x (Nat.lt_of_lt_of_le h1 hS.1) (fun z => h2 (Nat.le_trans ha z))]; exact hS.2.1 x h1 h2, fun x hx => by
      rcases List.mem_append.mp hx with h | h
      · exact hS.2.2 x h
      · exact Nat.le_trans ha (hL x h)⟩ T' rfl X'
  exact ⟨t2, stp t2 a1, b1⟩
end BG
theorem bg_nil {D : va_G} {H : Heap} : va_P D vwCl [] H := fun k q hq => by simp at hq
theorem bg_nilD {A : Nat → Prop} : va_D A [] := ⟨fun i j p q hp => by simp at hp, fun k q hq => by simp at hq⟩
theorem kx_blind {K : cw_K} {S ci : Nat} {fs as : List Value} (hk : cw_Fok (cw_Fc K)) : ∀ (a : Array Value) (U : State) (g : JFrame) (mk : MethodId), va_Pc as (kx_In K S ci fs) a U → va_Pc as (kx_In K S ci fs) a (U.calling g mk a) := fun a U g mk z => by
  obtain ⟨q1, ⟨q2, q3, q4, q5, q6⟩, q7, q8⟩ := z
  exact ⟨q1, ⟨q2, q3, va_K.moved (u := U) (U := U.calling g mk a) (Vm.Alike.refl U.vm) q4, q5, va_AO.moved (u := U) (U := U.calling g mk a) (Vm.Alike.refl U.vm) q6⟩, kn_N.moved (s := U) (U := U.calling g mk a) (State.WarmedH.refl U) q7, hk.1 _ U _ _ (State.WarmedH.refl U) q8⟩
set_option maxRecDepth 20000 in
theorem en_ext (K : cw_K) (q : Nat) : cw_ext (cc_w K) (co_w (kset K 32 q) (co_f .null .null .null) 33) q (fun f => .inr (11, [.null, .int (f 1), .int (f 2), .null, .null])) := ⟨rfl, rfl, rfl, rfl, fun j hj => (if_neg (show ¬ j = 32 from Nat.ne_of_lt hj) : (if j = 32 then q else K.2.2.2.1 j) = K.2.2.2.1 j), fun k hk => by
  have hk : k < 32 := hk
  rcases (show k = 0 ∨ k = 1 ∨ k = 2 ∨ k = 3 ∨ k = 4 ∨ k = 5 ∨ k = 6 ∨ k = 7 ∨ k = 8 ∨ k = 9 ∨ k = 10 ∨ k = 11 ∨ k = 12 ∨ k = 13 ∨ k = 14 ∨ k = 15 ∨ k = 16 ∨ k = 17 ∨ k = 18 ∨ k = 19 ∨ k = 20 ∨ k = 21 ∨ k = 22 ∨ k = 23 ∨ k = 24 ∨ k = 25 ∨ k = 26 ∨ k = 27 ∨ k = 28 ∨ k = 29 ∨ k = 30 ∨ k = 31 by omega) with rfl | rfl | rfl | rfl | rfl | rfl | rfl | rfl | rfl | rfl | rfl | rfl | rfl | rfl | rfl | rfl | rfl | rfl | rfl | rfl | rfl | rfl | rfl | rfl | rfl | rfl | rfl | rfl | rfl | rfl | rfl | rfl <;> rfl, (if_pos rfl : (if 32 = 32 then q else K.2.2.2.1 32) = q), rfl, rfl⟩
section EN7
variable {K K0 : cw_K} {I : cw_M} {sa sn dO dT : Nat} {sf : Nat → Int32}
theorem en_btx : ∀ b, b < 128 → ∃ c : Nat, c < 128 ∧ (nI b) = nI c := fun b hb => ⟨b, hb, rfl⟩
theorem zx_128 (n : Nat) (hn : n ≤ 16) (v : Nat → Nat → Nat) (hv : ∀ s c, v s c ≤ 9) : ∀ m, m ≤ 5 → ∀ x ∈ zx n v m, x < 128
  | 0, _, x, hx => by
    have hx : x ∈ zx_h n := hx
    unfold zx_h at hx
    split at hx <;> simp at hx <;> omega
  | m + 1, hm, x, hx => by
    have hx : x ∈ zx n v m ++ zx_s n m (v m) := hx
    rcases List.mem_append.mp hx with h | h
    · exact zx_128 n hn v hv m (by omega) x h
    · unfold zx_s at h
      rcases List.mem_append.mp h with h | h
      · simp at h
        omega
      · rcases List.mem_append.mp h with h | h
        · exact zv_128 (v m) (hv m) n x h
        · simp at h
          omega
where zv_128 (f : Nat → Nat) (hf : ∀ c, f c ≤ 9) : ∀ n, ∀ x ∈ zx_v f n, x < 128
  | 0, x, hx => by simp [zx_v] at hx
  | n + 1, x, hx => by
    have hx : x ∈ zx_v f n ++ [32, 48 + f n] := hx
    rcases List.mem_append.mp hx with h | h
    · exact zv_128 f hf n x h
    · simp at h
      have := hf n
      omega
set_option maxRecDepth 20000 in
set_option maxHeartbeats 4000000 in
theorem en_7 {q0 : Nat} (hFS : cw_FS (cw_Fc K) (cw_sd K) (cw_sv K)) (hFC : cw_FC K) (hFD : bu_FD (cw_Fc K) dO dT) (hFB : bu_FC (cw_Fc K)) (hFA : ow_FA (cw_Fc K)) (hFz : cw_Fsc (cw_Fc K) sa sn sf) (hsn : sn < 2 ^ 31) (h11 : I 1 1 = 0) (h28 : I 28 2 = nI q0) (hq6 : q0 < 6) : cw_B (cc_w K) (ce_w K0) mLx lw_Zl 600086 7301442 32 4875 I 7 [(0, .ref sa)] [.ref (K.2.2.2.1 0)] := by
  have p0 := la_pk_lt (sn := sn) (sf := sf) (i := 0) (m := 16) (by omega)
  have p1 := la_pk_lt (sn := sn) (sf := sf) (i := 1) (m := 5) (by omega)
  obtain ⟨n, en⟩ : ∃ n, n = 1 + la_pk sn sf 0 16 := ⟨_, rfl⟩
  obtain ⟨m, em⟩ : ∃ m, m = 1 + la_pk sn sf 1 5 := ⟨_, rfl⟩
  have hn1 : 1 ≤ n := by omega
  have hn16 : n ≤ 16 := by omega
  have hm1 : 1 ≤ m := by omega
  have hm5 : m ≤ 5 := by omega
  have hz := zp_le n hn16 hm5
  obtain ⟨tl, etl⟩ : ∃ tl : List Int32, tl = (zx n (ls_v sn sf) m).map nI := ⟨_, rfl⟩
  have hlen : tl.length = zp n m := by rw [etl, List.length_map, zx_l]
  have hget : ∀ j, j < zp n m → tl.getD j 0 = nI ((zx n (ls_v sn sf) m).getD j 0) := fun j hj => by
    rw [etl, List.getD_eq_getElem?_getD, List.getD_eq_getElem?_getD, List.getElem?_map]
    have hj2 : j < (zx n (ls_v sn sf) m).length := by rw [zx_l]; exact hj
    rw [List.getElem?_eq_getElem hj2]
    rfl
  have hbt : cw_Btx tl := ⟨by omega, fun i hi => by
    rw [hlen] at hi
    refine ⟨(zx n (ls_v sn sf) m).getD i 0, ?_, hget i hi⟩
    have hj2 : i < (zx n (ls_v sn sf) m).length := by rw [zx_l]; exact hi
    rw [List.getD_eq_getElem?_getD, List.getElem?_eq_getElem hj2]
    exact zx_128 n hn16 _ (fun s c => ls_v9 s c) m hm5 _ (List.getElem_mem hj2)⟩
  refine cw_astore_n dL_law_7 rfl (by decide) rfl ?_
  refine cw_iconst (v := 1) dL_law_8 (by decide) ?_
  refine cw_aload_n dL_law_9 1 rfl rfl ?_
  refine cw_iconst (v := 0) dL_law_10 (by decide) ?_
  refine cw_bipush (v := 16) dL_law_11 (by decide) ?_
  refine cw_callA (w := cc_w K) (As := [.ref sa, .int 0, .int 16]) (cw_lift (ce_le_cc K) rfl (la_pick (K := K) (I := I) hFz hsn (i := 0) (m := 16) (by omega) (by omega) (by omega)) (fun _ _ => rfl)) okL_pick rfl (lx_good gT_L_pick) ⟨Nat.le_of_ble_eq_true rfl, Nat.le_of_ble_eq_true rfl⟩ rfl (Nat.le_of_ble_eq_true rfl) dL_law_13 ?_
  refine cw_iadd dL_law_16 ?_
  rw [show (1 : Int32) + nI (la_pk sn sf 0 16) = nI n from by rw [en]; exact nI_add 1 _]
  refine cw_istore_n dL_law_17 rfl (by decide) rfl ?_
  refine cw_iconst (v := 1) dL_law_18 (by decide) ?_
  refine cw_aload_n dL_law_19 2 rfl rfl ?_
  refine cw_iconst (v := 1) dL_law_20 (by decide) ?_
  refine cw_iconst (v := 5) dL_law_21 (by decide) ?_
  refine cw_callA (w := cc_w K) (As := [.ref sa, .int 1, .int 5]) (cw_lift (ce_le_cc K) rfl (la_pick (K := K) (I := I) hFz hsn (i := 1) (m := 5) (by omega) (by omega) (by omega)) (fun _ _ => rfl)) okL_pick rfl (lx_good gT_L_pick) ⟨Nat.le_of_ble_eq_true rfl, Nat.le_of_ble_eq_true rfl⟩ rfl (Nat.le_of_ble_eq_true rfl) dL_law_22 ?_
  refine cw_iadd dL_law_25 ?_
  rw [show (1 : Int32) + nI (la_pk sn sf 1 5) = nI m from by rw [em]; exact nI_add 1 _]
  refine cw_istore_n dL_law_26 rfl (by decide) rfl ?_
  refine cw_aload_n dL_law_27 2 rfl rfl ?_
  refine cw_aload_n dL_law_28 3 rfl rfl ?_
  refine cw_iload_n dL_law_29 1 rfl rfl ?_
  refine cw_iload_n dL_law_30 0 rfl rfl ?_
  refine en_setup (n := n) (m := m) hFS hFC hFD hFB hFz hsn hn16 hm5 ⟨by omega, by omega⟩ (Nat.le_of_ble_eq_true rfl) dL_law_31 (fun t q g1 g2 e1 e2 => ?_)
  obtain ⟨J, j1, j2, j3, j4⟩ := la_say (K := kF K (tf_F (cw_Fc K) t q tl)) (I := cw_up (cw_up I 32 g1) 33 g2) (ta := t) (tv := q) (tl := tl) (tf_tx (K := K) hFS) hbt (by omega) (L := 0) (by show I 1 1 = nI 0; exact h11) (by omega)
  refine en_say (K := K) (q := q) (tl := tl) (J := J) (h2 := 0) (c3 := 0) hFS hlen (by show g1 1 = 0; exact e1) (fun j hj => by show g2 j = _; rw [e2 j hj]; exact (hget j hj).symm) j1 (Nat.le_of_ble_eq_true rfl) dL_law_34 ?_
  refine cw_if_eq (tgt := 48) dL_law_37 (by decide) (fun q => absurd q (by decide)) (fun _ => ?_)
  refine cw_aload_n dL_law_40 2 rfl rfl ?_
  obtain ⟨J2, v2, k1, k2, k3⟩ := fc_load (K := K) (I := J) (n := n) (m := m) (v := ls_v sn sf) (q := q0) hFS hFC hm1 hm5 hn1 hn16 (fun s c => ls_v9 s c) (by rw [j2, hlen]) (fun j hj => (j4 j (by rw [hlen]; exact hj)).trans (hget j hj)) (by rw [j3 28 (by decide) (by decide)]; exact h28) hq6
  refine cw_callV (w := cc_w K) (o := 0) (As := []) k1 okX10_load rfl (lx_good gT_X10_load) ⟨Nat.le_of_ble_eq_true rfl, Nat.le_of_ble_eq_true rfl⟩ (show 0 < 32 by decide) rfl (ci := 10) rfl rfl (Nat.le_of_ble_eq_true rfl) dL_law_41 ?_
  refine cw_iload_n dL_law_44 0 rfl rfl ?_
  refine cw_icmp_eq (tgt := 50) dL_law_45 (by decide) (fun _ => ?_) (fun q => absurd rfl q)
  refine cw_newo (w := cc_w K) (w' := fun x => co_w (kset K 32 x) (co_f .null .null .null) 33) (C := RX11) (T := TX11) (N := 5) (ci := 11) (fs := [.null, .int 0, .int 0, .null, .null]) (E := fun f => .inr (11, [.null, .int (f 1), .int (f 2), .null, .null])) (fun x hx => lx_in (lwin_RX11 x hx)) tyX11 tyX11_ok (lx_in (lt_mem (k := 3) (i := 218) rfl)) (lx_in (lt_mem (k := 3) (i := 219) rfl)) (lx_in (lt_mem (k := 1) (i := 27) rfl)) rfl (fun j hj => by rcases (show j = 0 ∨ j = 1 ∨ j = 2 ∨ j = 3 ∨ j = 4 by omega) with rfl | rfl | rfl | rfl | rfl <;> rfl) (fun x => en_ext K x) rfl ⟨by omega, by omega⟩ dL_law_50 (fun x => ?_)
  refine cw_dup dL_law_53 rfl ?_
  refine cw_aload_n dL_law_54 2 rfl rfl ?_
  refine cw_sI (w := co_w (kset K 32 x) (co_f .null .null .null) 33) (b := x) (As := [.ref (K.2.2.2.1 0)]) ⟨by omega, by omega⟩ (ow_init (K := kset K 32 x) (n := n) (k := m) (v := v2) (I := cw_up J2 32 (fun _ => 0)) hFA k2.1) oknX11_init rfl (lx_good gT_X11_init) rfl (lx_in (lt_mem (k := 1) (i := 27) rfl)) (lx_in (lt_mem (k := 3) (i := 220) rfl)) (lx_in (lt_mem (k := 3) (i := 221) rfl)) rfl ⟨Nat.le_of_ble_eq_true rfl, Nat.le_of_ble_eq_true rfl⟩ rfl (Nat.le_of_ble_eq_true rfl) dL_law_55 (fun r w' I9 _ h9 => ?_)
  obtain ⟨K2, rfl, rfl, f1, f2, f3, f4, f5⟩ := h9
  have a0 : K2.2.2.2.1 0 = K.2.2.2.1 0 := (f2 0 (by omega)).trans rfl
  have a32 : K2.2.2.2.1 32 = x := (f2 32 (by omega)).trans rfl
  refine cw_astore dL_law_58 (by decide) rfl ?_
  refine cw_iconst (v := 0) dL_law_60 (by decide) ?_
  refine cw_istore dL_law_61 (by decide) rfl ?_
  refine cw_sub [5, 4, 3, 2, 1, 0] rfl ?_
  refine cw_subM ?_
  rw [← a0, ← a32]
  exact lt_loop (F := cw_Fc K) hFz hsn (fun K uc vc I => lt_end K sa uc vc I) 20 0 K2 _ _ I9 (by omega) f1 (by omega) (by omega) ⟨v2, _, _, _, k2.congr (fun o ho => (f5 o ho).trans (by unfold cw_up; rw [if_neg (show ¬ o = 32 by omega)])), f3, f4⟩
end EN7
