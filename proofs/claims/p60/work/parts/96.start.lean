/-! ## the law from its entry -/
theorem zt_fst : ∀ s, s < 3 → ∀ r, r < s → ∃ i, i < zt_e (3 + 11 * s + 1) - zt_a (3 + 11 * s + 1) ∧ i < zt_e (3 + 11 * r + 1) - zt_a (3 + 11 * r + 1) ∧ zt_T (zt_a (3 + 11 * r + 1) + i) ≠ zt_T (zt_a (3 + 11 * s + 1) + i) := by
  intro s hs r hr
  rcases (show (s = 1 ∧ r = 0) ∨ (s = 2 ∧ r = 0) ∨ (s = 2 ∧ r = 1) by omega) with ⟨rfl, rfl⟩ | ⟨rfl, rfl⟩ | ⟨rfl, rfl⟩
  · exact ⟨0, by decide +kernel, by decide +kernel, by decide +kernel⟩
  · exact ⟨0, by decide +kernel, by decide +kernel, by decide +kernel⟩
  · exact ⟨0, by decide +kernel, by decide +kernel, by decide +kernel⟩
theorem zt_ok9 : zs_ok zt_T 91 8 3 (fun s j => zt_k (3 + 11 * s + j)) (fun s j => zt_a (3 + 11 * s + j)) (fun s j => zt_e (3 + 11 * s + j)) := by
  refine ⟨fun s hs => ⟨fun r hr => zt_all (3 + 11 * s + r) (by omega), ?_⟩, fun s hs => ?_, ?_⟩
  · obtain ⟨w1, w2, w3, w4, w5, w6, -⟩ := zt_words s hs
    refine ⟨w1, w2, w3, w4, w5, w6, fun i hi => ?_, fun r hr => zt_fst s hs r hr⟩
    obtain ⟨d1, d2, d3⟩ := zt_digits s hs i hi
    exact ⟨(by show zt_k (3 + 11 * s + (2 + i)) = 2; rw [show 3 + 11 * s + (2 + i) = 3 + 11 * s + 2 + i by omega]; exact d1), _, d2, by
      show tp_nv zt_T (zt_a (3 + 11 * s + (2 + i))) (zt_e (3 + 11 * s + (2 + i)) - zt_a (3 + 11 * s + (2 + i))) = _
      rw [show 3 + 11 * s + (2 + i) = 3 + 11 * s + 2 + i by omega]
      exact d3⟩
  · refine ⟨congrArg zt_k ?_, congrArg zt_a ?_, congrArg zt_e ?_⟩ <;> omega
  · exact zt_head.2.2.2.2.2.2
theorem en_in10 : ∀ x ∈ u_ws RX10 TX10 10, x ∈ lw_tbl := fun x hx => lt_in (by rw [← zu_X10]; exact hx)
set_option maxHeartbeats 4000000 in
theorem en_0 {p : Program} {l : Launch} {e : Env} {s : State} {m : MethodId} {below : List Frame} {meth : Method} {c : Code} {ls : Array Slot} {b L dO dT : Nat} {xs : Nat → Int32} {D : va_G} {cy : Nat → ClassId} {vd sd sv : Nat → Nat}
    (hX : CallFix p m c cL_law 15 s #[.ref b] lw_x RL) (hret : meth.sig.returnType = ret) (hlocks : meth.locks = false) (hK : va_K D vwCl (cw_ty cy) s) (hO : va_AO RX9 s) (hNn : kn_N s) (hF : zf_F sd sv dO dT b L xs (fun q => s.heap.size ≤ q) s s.heap) (hL : L < 2 ^ 31) (hl : lv_has ls 15 [(0, .ref b)]) : W p l e room_1 s m #[.ref b] below meth c s.heap [] 0 0 (lw_Z below #[.ref b] s) (F0 m 0 ls []) := by
  have htx : ∀ w ∈ lw_x, w.before #[Value.ref b] s = true := hX.2.2.2.2
  have hts : ∀ w ∈ lw_tbl, w.before #[Value.ref b] s = true := fun w hw => htx w (lx_in hw)
  have hFok := zf_ok (sd := sd) (sv := sv) (dO := dO) (dT := dT) (sa := b) (sn := L) (sf := xs)
  have hA : ∀ q, s.heap.size ≤ q → (fun q => s.heap.size ≤ q) q := fun q h => h
  generalize eK : kn_K l D cy s.heap.size vd sd sv (zf_F sd sv dO dT b L xs) = K
  have hFS : cw_FS (cw_Fc K) (cw_sd K) (cw_sv K) := by rw [← eK]; exact zf_FS
  have hFC : cw_FC K := by rw [← eK]; exact zf_FC
  have h1 : cw_C (cc_w K) mX8_addLetters [.ref (cw_a (cc_w K) 1), .ref (cw_sd K 15)] kn_I0 none (kn_L (cw_tx 15).length kn_I0) := kn_letters hFS rfl
  have hL91 : (cw_tx 15).length = 91 := by decide +kernel
  have hI11 := kn_L11 (I := kn_I0) rfl 91
  have hI2 := zt_L2 (I := kn_I0) rfl 91 (by omega)
  have hIo := zt_Lo (I := kn_I0) 91
  rw [hL91] at h1
  obtain ⟨I9, v9, h2, hps, h51, h11, -⟩ := fc_adopt (K := K) (I := kn_L 91 kn_I0) (n := 8) (m := 3) (q := 0) hFS hFC (T := zt_T) (L := 91) (by omega) hI11 hI2 (by omega) (by omega) (by omega) (by omega) (hk := zt_k) (ha := zt_a) (he := zt_e) (tk := fun s j => zt_k (3 + 11 * s + j)) (ta := fun s j => zt_a (3 + 11 * s + j)) (te := fun s j => zt_e (3 + 11 * s + j)) ⟨zt_first, fun j hj => zt_all j (by omega), zt_head.1, zt_head.2.1, zt_head.2.2.1, zt_head.2.2.2.1, zt_head.2.2.2.2.1, zt_head.2.2.2.2.2.1, rfl, rfl, rfl⟩ zt_ok9 (by rw [hIo 28 (by omega) (by omega)]; rfl) (by omega)
  subst eK
  refine kn_new (a := s.heap.size) (ci := 10) (fs := [.null, .null, .null, .null, .null, .null, .null, .null, .null, .null]) (C := RX10) (T := TX10) (N := 10) hX.1 hX.2.1 hts en_in10 tyX10 tyX10_ok hX.2.2.2.1 (hts (.classLink RL 19 RX10) (lt_mem (k := 1) (i := 30) rfl)) (hts (.instantiable RX10 10) (lt_mem (k := 1) (i := 31) rfl)) (hts (.initialized RX10) (lt_mem (k := 1) (i := 1) rfl)) hK bg_nil (bg_nilD (A := fun q => s.heap.size ≤ q)) va_S.rf hA rfl rfl (fun j hj => by rcases (show j = 0 ∨ j = 1 ∨ j = 2 ∨ j = 3 ∨ j = 4 ∨ j = 5 ∨ j = 6 ∨ j = 7 ∨ j = 8 ∨ j = 9 by omega) with rfl | rfl | rfl | rfl | rfl | rfl | rfl | rfl | rfl | rfl <;> rfl) (Nat.le_of_ble_eq_true rfl) (Nat.le_of_ble_eq_true rfl) dL_law_0 (fun H hP hD hS hz => ?_)
  refine lv_dup hX.1 hX.2.1 dL_law_3 rfl ?_
  refine bg_join (w := cc_w (kn_K l D cy s.heap.size vd sd sv (zf_F sd sv dO dT b L xs))) (a := s.heap.size) (va_runI (As := []) (rest := [.ref s.heap.size]) hX (kx_C hFok zf_F2 h1 h2) (cwI (rm := cw_R mX10_init 31 4865) 0 htx (lx_good gT_X10_init) rfl rfl rfl (hts (.initialized RX10) (lt_mem (k := 1) (i := 1) rfl)) (hts (.methodLink RL 108 yX10_init) (lt_mem (k := 1) (i := 32) rfl)) (hts (.instanceMethod yX10_init) (lt_mem (k := 1) (i := 33) rfl)) rfl (by decide +kernel) ⟨Nat.le_of_ble_eq_true rfl, Nat.le_of_ble_eq_true rfl⟩) ⟨kx_blind hFok, fun U hU hW => ⟨rfl, ⟨by rw [hU]; exact hz, by rw [hU]; exact hP, va_K.moved hW.alike hK, hD.weaken (fun _ _ _ _ => trivial), va_AO.moved hW.alike hO⟩, hNn.moved hW, by
    rw [hU]
    exact hFok.2.1 _ _ _ _ (hFok.1 _ _ _ _ hW hF) hS.1 (fun a h1 h2 => hS.2.1 a h1 h2)⟩⟩ rfl rfl hl.1 rfl (lv_room (Nat.le_of_ble_eq_true rfl)) dL_law_4 ⟨Nat.le_of_ble_eq_true rfl, Nat.le_of_ble_eq_true rfl⟩) hS (Nat.le_refl _) hS.1 (fun H locs hP hz hk hS => ?_)
  have X : cw_X (cc_w (kn_K l D cy s.heap.size vd sd sv (zf_F sd sv dO dT b L xs))) (ce_w (kn_K l D cy s.heap.size vd sd sv (zf_F sd sv dO dT b L xs))) mLx 600086 7301442 32 4875 p s m #[.ref b] meth c := ⟨hX, hret, hlocks, hK, fun i j _ _ h => Nat.add_left_cancel h, hFok.2.2 _ _ _ _ hF (fun q hq => by
    rcases hq with ⟨k, hk, -⟩ | hq
    · exact absurd hk (Nat.not_lt_zero k)
    · exact hq), hFok, fun h => absurd h (by decide +kernel), fun k _ => Or.inr (Nat.le_add_right _ k), Nat.le_of_ble_eq_true rfl, Nat.le_of_ble_eq_true rfl⟩
  have hS2 : va_S (cw_own (ce_w (kn_K l D cy s.heap.size vd sd sv (zf_F sd sv dO dT b L xs))) s.heap.size) s.heap H locs := ⟨hS.1, fun q h1 h2 => hS.2.1 q h1 (fun z => h2 (Or.inr z)), fun x hx => Or.inr (hS.2.2 x hx)⟩
  obtain ⟨hc, hn1, hk1, ho, hg, hq28, hq6, hu, hu6⟩ := hps
  exact en_7 (K := kn_K l D cy s.heap.size vd sd sv (zf_F sd sv dO dT b L xs)) (K0 := kn_K l D cy s.heap.size vd sd sv (zf_F sd sv dO dT b L xs)) (q0 := 0) zf_FS zf_FC zf_FD zf_FB zf_FA zf_Fz hL h11 hq28 hq6 p e s m #[.ref b] below meth c H locs ls X hP hS2 hl
set_option maxHeartbeats 4000000 in
/-- from the entry, for every script of at most 260 ints, the law comes to its end with true -/
theorem whole_start {p : Program} {e : Env} {s : State} {m : MethodId} {below : List Frame} {meth : Method} {c : Code} (l : Launch) (hflags : l.flags = flags0) {b L : Nat} {xs : Nat → Int32} (hL : L ≤ 260) (C0 : lw_At p s m meth c b L xs) : W p l e room_1 s m #[Value.ref b] below meth c s.heap [] 0 0 (lw_Z below #[Value.ref b] s) (entryFrame m ([Value.ref b] : List Value).toArray 15) := by
  obtain ⟨hx, hb, hr, hml, hown, hts, hX, hbl, hlocks, hgv⟩ := id C0
  have hn := nr_of hgv
  obtain ⟨D, cy, hK⟩ := zu_all hts
  obtain ⟨sd, sv, dO, dT, hF⟩ := zf_start (A := fun q => s.heap.size ≤ q) hts hn (fun a ha => Nat.not_le.mpr ha) hX hbl
  have hl := lv_entry ([.ref b] : List Value) (n := 15) (Nat.le_of_ble_eq_true rfl)
  rw [lg_entry_eq]
  generalize (lg_sl ([.ref b] : List Value) ++ List.replicate (15 - (lg_sl ([.ref b] : List Value)).length) Slot.unset).toArray = ls at hl ⊢
  have hl : lv_has ls 15 [(0, .ref b)] := hl
  exact en_0 (vd := fun _ => 0) ⟨hx, hb, hml, hown, bb_hts hts⟩ hr hlocks hK (zu_O hts) (zu_N hts) hF (by omega) hl
