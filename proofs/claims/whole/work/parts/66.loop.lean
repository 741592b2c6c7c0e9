/-! ## the law's loop -/
theorem la_gt {n L : Nat} (hn : n < 2 ^ 20) (hL : L < 2 ^ 20) : (nI n > nI L - 6) ↔ L < n + 6 := by
  have h : (nI L - 6).toInt = (L : Int) - 6 := by
    rcases (by omega : 6 ≤ L ∨ L = 0 ∨ L = 1 ∨ L = 2 ∨ L = 3 ∨ L = 4 ∨ L = 5) with h | rfl | rfl | rfl | rfl | rfl | rfl
    · obtain ⟨j, rfl⟩ : ∃ j, L = j + 6 := ⟨L - 6, by omega⟩
      have e : nI (j + 6) - 6 = nI j := by
        rw [← nI_add]
        show nI j + 6 - 6 = nI j
        exact Int32.add_sub_cancel _ _
      rw [e, nI_toInt (by omega)]
      omega
    all_goals decide
  rw [gt_iff_lt, Int32.lt_iff_toInt_lt, h, nI_toInt (by omega)]
  omega
theorem la_63 (x : Int32) : ∃ t : Nat, t < 64 ∧ x &&& 63 = nI t := by
  refine ⟨x.toBitVec.toNat % 64, Nat.mod_lt _ (by decide), ?_⟩
  apply Int32.toBitVec_inj.mp
  apply BitVec.eq_of_toNat_eq
  rw [Int32.toBitVec_and, BitVec.toNat_and]
  show x.toBitVec.toNat &&& 63 = (Int32.ofNat (x.toBitVec.toNat % 64)).toBitVec.toNat
  rw [show (63 : Nat) = 2 ^ 6 - 1 from rfl, Nat.and_two_pow_sub_one_eq_mod]
  have h : x.toBitVec.toNat % 64 < 64 := Nat.mod_lt _ (by decide)
  rw [show ∀ k : Nat, (Int32.ofNat k).toBitVec = BitVec.ofNat 32 k from fun _ => rfl, BitVec.toNat_ofNat]
  omega
section LOOP
variable {K : cw_K} {p : Program} {e : Env} {s : State} {m : MethodId} {below : List Frame} {meth : Method} {c : Code} {cells slots n : Nat} {b L qo qd : Nat} {xs : Nat → Int32} {cl cd : ClassId}
/-- at 2884: the next six ints -/
theorem la_next (X : la_X K p s m meth c b L xs qo qd cl cd) (hb : n + 6 < 2 ^ 31) (ih : la_T K p e s m below meth c b qo qd cl cd (lw_Z below #[.ref b] s) (n + 6) cells slots 28) : la_T K p e s m below meth c b qo qd cl cd (lw_Z below #[.ref b] s) n cells slots 2884 := by
  intro H locs ls I J f g hH hS hR hl
  refine lv_iinc (k := 5) (v := nI (n + 6)) (lv' := [(5, .int (nI (n + 6))), (0, .ref b), (1, .ref (cw_a (cc_w K) 0)), (2, .ref (cw_a (cr_w K) 0)), (3, .ref qo), (4, .ref qd)]) X.1.1 X.1.2.1 dL_law_2884 hl rfl (nI_add n 6) (by decide) rfl (fun ls1 hl1 => ?_)
  refine lv_goto (tgt := 28) X.1.1 X.1.2.1 dL_law_2887 (by decide) ?_
  refine ih H locs ls1 I J f g hH hS hR ⟨hl1.1, hl1.2.1, fun z hz => hl1.2.2 z ?_⟩
  simp only [List.mem_cons, List.not_mem_nil, or_false] at hz ⊢
  rcases hz with h | h | h | h | h | h
  · exact Or.inr (Or.inl h)
  · exact Or.inr (Or.inr (Or.inl h))
  · exact Or.inr (Or.inr (Or.inr (Or.inl h)))
  · exact Or.inr (Or.inr (Or.inr (Or.inr (Or.inl h))))
  · exact Or.inr (Or.inr (Or.inr (Or.inr (Or.inr h))))
  · exact Or.inl h
/-- at 2890: true -/
theorem la_end (X : la_X K p s m meth c b L xs qo qd cl cd) (hc : cells ≤ 1088 ∧ slots ≤ 17909) : la_T K p e s m below meth c b qo qd cl cd (lw_Z below #[.ref b] s) n cells slots 2890 := by
  intro H locs ls I J f g hH hS hR hl
  refine lv_iconst (v := 1) X.1.1 X.1.2.1 dL_law_2890 (by decide) ?_
  refine W.widen (k := 1088) (n := 17909) hc.1 hc.2 ?_
  refine va_forget (fun q hq => hS.2.2 q hq) ?_
  exact lw_ret (d0 := s.drawn) (Drawn.sameBut.refl s.drawn lw_cs) X.1.1 X.1.2.1 X.2.1 X.2.2.1 dL_law_2891
/-- one call -/
theorem la_turn (X : la_X K p s m meth c b L xs qo qd cl cd) (F : la_F K) (hc : cells + 1 ≤ 1088 ∧ slots + 6 ≤ 17909) (hn : n + 6 ≤ L ∧ L ≤ 3072) (kk : la_T K p e s m below meth c b qo qd cl cd (lw_Z below #[.ref b] s) n (cells + 1) (slots + 6) 2884) : la_T K p e s m below meth c b qo qd cl cd (lw_Z below #[.ref b] s) n cells slots 38 := by
  intro H locs ls I J f g hH hS hR hl
  refine lv_aload_n X.1.1 X.1.2.1 dL_law_38 rfl (lv_at hl 0 rfl) ?_
  refine lv_iload X.1.1 X.1.2.1 dL_law_39 (lv_at hl 5 rfl) ?_
  refine va_sld X.1.1 X.1.2.1 X.2.2.2.1.1 X.2.2.2.1.2 (A := la_A s) (by show ¬ s.heap.size ≤ b; have := X.2.2.2.1.2; omega) hS (vp_in_nI (by omega) (by omega)) dL_law_41 ?_
  refine lv_bipush (v := 63) X.1.1 X.1.2.1 dL_law_42 (by decide) ?_
  refine lv_iand X.1.1 X.1.2.1 dL_law_44 ?_
  obtain ⟨t, ht, e1⟩ := la_63 (xs (nI n).toNatClampNeg)
  rw [e1]
  rcases (by omega : t = 0 ∨ t = 1 ∨ t = 2 ∨ t = 3 ∨ t = 4 ∨ t = 5 ∨ t = 6 ∨ t = 7 ∨ t = 8 ∨ t = 9 ∨ t = 10 ∨ t = 11 ∨ t = 12 ∨ t = 13 ∨ t = 14 ∨ t = 15 ∨ t = 16 ∨ t = 17 ∨ t = 18 ∨ t = 19 ∨ t = 20 ∨ t = 21 ∨ t = 22 ∨ t = 23 ∨ t = 24 ∨ t = 25 ∨ t = 26 ∨ t = 27 ∨ t = 28 ∨ t = 29 ∨ t = 30 ∨ t = 31 ∨ t = 32 ∨ t = 33 ∨ t = 34 ∨ t = 35 ∨ t = 36 ∨ t = 37 ∨ t = 38 ∨ t = 39 ∨ t = 40 ∨ t = 41 ∨ t = 42 ∨ t = 43 ∨ t = 44 ∨ t = 45 ∨ t = 46 ∨ t = 47 ∨ t = 48 ∨ t = 49 ∨ t = 50 ∨ t = 51 ∨ t = 52 ∨ t = 53 ∨ t = 54 ∨ t = 55 ∨ t = 56 ∨ 57 ≤ t) with rfl | rfl | rfl | rfl | rfl | rfl | rfl | rfl | rfl | rfl | rfl | rfl | rfl | rfl | rfl | rfl | rfl | rfl | rfl | rfl | rfl | rfl | rfl | rfl | rfl | rfl | rfl | rfl | rfl | rfl | rfl | rfl | rfl | rfl | rfl | rfl | rfl | rfl | rfl | rfl | rfl | rfl | rfl | rfl | rfl | rfl | rfl | rfl | rfl | rfl | rfl | rfl | rfl | rfl | rfl | rfl | rfl | h9
  · exact lv_tableIn (tgt := 288) X.1.1 X.1.2.1 dL_law_45 (by decide) (by decide) (off := 243) (by decide) (by decide) (lc_0 X F hc hn kk H locs ls I J f g hH hS hR hl)
  · exact lv_tableIn (tgt := 392) X.1.1 X.1.2.1 dL_law_45 (by decide) (by decide) (off := 347) (by decide) (by decide) (lc_1 X F hc hn kk H locs ls I J f g hH hS hR hl)
  · exact lv_tableIn (tgt := 448) X.1.1 X.1.2.1 dL_law_45 (by decide) (by decide) (off := 403) (by decide) (by decide) (lc_2 X F hc hn kk H locs ls I J f g hH hS hR hl)
  · exact lv_tableIn (tgt := 492) X.1.1 X.1.2.1 dL_law_45 (by decide) (by decide) (off := 447) (by decide) (by decide) (lc_3 X F hc hn kk H locs ls I J f g hH hS hR hl)
  · exact lv_tableIn (tgt := 505) X.1.1 X.1.2.1 dL_law_45 (by decide) (by decide) (off := 460) (by decide) (by decide) (lc_4 X F hc hn kk H locs ls I J f g hH hS hR hl)
  · exact lv_tableIn (tgt := 518) X.1.1 X.1.2.1 dL_law_45 (by decide) (by decide) (off := 473) (by decide) (by decide) (lc_5 X F hc hn kk H locs ls I J f g hH hS hR hl)
  · exact lv_tableIn (tgt := 531) X.1.1 X.1.2.1 dL_law_45 (by decide) (by decide) (off := 486) (by decide) (by decide) (lc_6 X F hc hn kk H locs ls I J f g hH hS hR hl)
  · exact lv_tableIn (tgt := 544) X.1.1 X.1.2.1 dL_law_45 (by decide) (by decide) (off := 499) (by decide) (by decide) (lc_7 X F hc hn kk H locs ls I J f g hH hS hR hl)
  · exact lv_tableIn (tgt := 612) X.1.1 X.1.2.1 dL_law_45 (by decide) (by decide) (off := 567) (by decide) (by decide) (lc_8 X F hc hn kk H locs ls I J f g hH hS hR hl)
  · exact lv_tableIn (tgt := 656) X.1.1 X.1.2.1 dL_law_45 (by decide) (by decide) (off := 611) (by decide) (by decide) (lc_9 X F hc hn kk H locs ls I J f g hH hS hR hl)
  · exact lv_tableIn (tgt := 724) X.1.1 X.1.2.1 dL_law_45 (by decide) (by decide) (off := 679) (by decide) (by decide) (lc_10 X F hc hn kk H locs ls I J f g hH hS hR hl)
  · exact lv_tableIn (tgt := 780) X.1.1 X.1.2.1 dL_law_45 (by decide) (by decide) (off := 735) (by decide) (by decide) (lc_11 X F hc hn kk H locs ls I J f g hH hS hR hl)
  · exact lv_tableIn (tgt := 860) X.1.1 X.1.2.1 dL_law_45 (by decide) (by decide) (off := 815) (by decide) (by decide) (lc_12 X F hc hn kk H locs ls I J f g hH hS hR hl)
  · exact lv_tableIn (tgt := 916) X.1.1 X.1.2.1 dL_law_45 (by decide) (by decide) (off := 871) (by decide) (by decide) (lc_13 X F hc hn kk H locs ls I J f g hH hS hR hl)
  · exact lv_tableIn (tgt := 984) X.1.1 X.1.2.1 dL_law_45 (by decide) (by decide) (off := 939) (by decide) (by decide) (lc_14 X F hc hn kk H locs ls I J f g hH hS hR hl)
  · exact lv_tableIn (tgt := 1040) X.1.1 X.1.2.1 dL_law_45 (by decide) (by decide) (off := 995) (by decide) (by decide) (lc_15 X F hc hn kk H locs ls I J f g hH hS hR hl)
  · exact lv_tableIn (tgt := 1096) X.1.1 X.1.2.1 dL_law_45 (by decide) (by decide) (off := 1051) (by decide) (by decide) (lc_16 X F hc hn kk H locs ls I J f g hH hS hR hl)
  · exact lv_tableIn (tgt := 1109) X.1.1 X.1.2.1 dL_law_45 (by decide) (by decide) (off := 1064) (by decide) (by decide) (lc_17 X F hc hn kk H locs ls I J f g hH hS hR hl)
  · exact lv_tableIn (tgt := 1189) X.1.1 X.1.2.1 dL_law_45 (by decide) (by decide) (off := 1144) (by decide) (by decide) (lc_18 X F hc hn kk H locs ls I J f g hH hS hR hl)
  · exact lv_tableIn (tgt := 1245) X.1.1 X.1.2.1 dL_law_45 (by decide) (by decide) (off := 1200) (by decide) (by decide) (lc_19 X F hc hn kk H locs ls I J f g hH hS hR hl)
  · exact lv_tableIn (tgt := 1320) X.1.1 X.1.2.1 dL_law_45 (by decide) (by decide) (off := 1275) (by decide) (by decide) (lc_20 X F hc hn kk H locs ls I J f g hH hS hR hl)
  · exact lv_tableIn (tgt := 1395) X.1.1 X.1.2.1 dL_law_45 (by decide) (by decide) (off := 1350) (by decide) (by decide) (lc_21 X F hc hn kk H locs ls I J f g hH hS hR hl)
  · exact lv_tableIn (tgt := 1408) X.1.1 X.1.2.1 dL_law_45 (by decide) (by decide) (off := 1363) (by decide) (by decide) (lc_22 X F hc hn kk H locs ls I J f g hH hS hR hl)
  · exact lv_tableIn (tgt := 1421) X.1.1 X.1.2.1 dL_law_45 (by decide) (by decide) (off := 1376) (by decide) (by decide) (lc_23 X F hc hn kk H locs ls I J f g hH hS hR hl)
  · exact lv_tableIn (tgt := 1434) X.1.1 X.1.2.1 dL_law_45 (by decide) (by decide) (off := 1389) (by decide) (by decide) (lc_24 X F hc hn kk H locs ls I J f g hH hS hR hl)
  · exact lv_tableIn (tgt := 1497) X.1.1 X.1.2.1 dL_law_45 (by decide) (by decide) (off := 1452) (by decide) (by decide) (lc_25 X F hc hn kk H locs ls I J f g hH hS hR hl)
  · exact lv_tableIn (tgt := 1510) X.1.1 X.1.2.1 dL_law_45 (by decide) (by decide) (off := 1465) (by decide) (by decide) (lc_26 X F hc hn kk H locs ls I J f g hH hS hR hl)
  · exact lv_tableIn (tgt := 1566) X.1.1 X.1.2.1 dL_law_45 (by decide) (by decide) (off := 1521) (by decide) (by decide) (lc_27 X F hc hn kk H locs ls I J f g hH hS hR hl)
  · exact lv_tableIn (tgt := 1634) X.1.1 X.1.2.1 dL_law_45 (by decide) (by decide) (off := 1589) (by decide) (by decide) (lc_28 X F hc hn kk H locs ls I J f g hH hS hR hl)
  · exact lv_tableIn (tgt := 1709) X.1.1 X.1.2.1 dL_law_45 (by decide) (by decide) (off := 1664) (by decide) (by decide) (lc_29 X F hc hn kk H locs ls I J f g hH hS hR hl)
  · exact lv_tableIn (tgt := 1722) X.1.1 X.1.2.1 dL_law_45 (by decide) (by decide) (off := 1677) (by decide) (by decide) (lc_30 X F hc hn kk H locs ls I J f g hH hS hR hl)
  · exact lv_tableIn (tgt := 1735) X.1.1 X.1.2.1 dL_law_45 (by decide) (by decide) (off := 1690) (by decide) (by decide) (lc_31 X F hc hn kk H locs ls I J f g hH hS hR hl)
  · exact lv_tableIn (tgt := 1749) X.1.1 X.1.2.1 dL_law_45 (by decide) (by decide) (off := 1704) (by decide) (by decide) (lc_32 X F hc hn kk H locs ls I J f g hH hS hR hl)
  · exact lv_tableIn (tgt := 1762) X.1.1 X.1.2.1 dL_law_45 (by decide) (by decide) (off := 1717) (by decide) (by decide) (lc_33 X F hc hn kk H locs ls I J f g hH hS hR hl)
  · exact lv_tableIn (tgt := 1775) X.1.1 X.1.2.1 dL_law_45 (by decide) (by decide) (off := 1730) (by decide) (by decide) (lc_34 X F hc hn kk H locs ls I J f g hH hS hR hl)
  · exact lv_tableIn (tgt := 1788) X.1.1 X.1.2.1 dL_law_45 (by decide) (by decide) (off := 1743) (by decide) (by decide) (lc_35 X F hc hn kk H locs ls I J f g hH hS hR hl)
  · exact lv_tableIn (tgt := 1801) X.1.1 X.1.2.1 dL_law_45 (by decide) (by decide) (off := 1756) (by decide) (by decide) (lc_36 X F hc hn kk H locs ls I J f g hH hS hR hl)
  · exact lv_tableIn (tgt := 1879) X.1.1 X.1.2.1 dL_law_45 (by decide) (by decide) (off := 1834) (by decide) (by decide) (lc_37 X F hc hn kk H locs ls I J f g hH hS hR hl)
  · exact lv_tableIn (tgt := 1920) X.1.1 X.1.2.1 dL_law_45 (by decide) (by decide) (off := 1875) (by decide) (by decide) (lc_38 X F hc hn kk H locs ls I J f g hH hS hR hl)
  · exact lv_tableIn (tgt := 1933) X.1.1 X.1.2.1 dL_law_45 (by decide) (by decide) (off := 1888) (by decide) (by decide) (lc_39 X F hc hn kk H locs ls I J f g hH hS hR hl)
  · exact lv_tableIn (tgt := 1989) X.1.1 X.1.2.1 dL_law_45 (by decide) (by decide) (off := 1944) (by decide) (by decide) (lc_40 X F hc hn kk H locs ls I J f g hH hS hR hl)
  · exact lv_tableIn (tgt := 2045) X.1.1 X.1.2.1 dL_law_45 (by decide) (by decide) (off := 2000) (by decide) (by decide) (lc_41 X F hc hn kk H locs ls I J f g hH hS hR hl)
  · exact lv_tableIn (tgt := 2113) X.1.1 X.1.2.1 dL_law_45 (by decide) (by decide) (off := 2068) (by decide) (by decide) (lc_42 X F hc hn kk H locs ls I J f g hH hS hR hl)
  · exact lv_tableIn (tgt := 2126) X.1.1 X.1.2.1 dL_law_45 (by decide) (by decide) (off := 2081) (by decide) (by decide) (lc_43 X F hc hn kk H locs ls I J f g hH hS hR hl)
  · exact lv_tableIn (tgt := 2206) X.1.1 X.1.2.1 dL_law_45 (by decide) (by decide) (off := 2161) (by decide) (by decide) (lc_44 X F hc hn kk H locs ls I J f g hH hS hR hl)
  · exact lv_tableIn (tgt := 2274) X.1.1 X.1.2.1 dL_law_45 (by decide) (by decide) (off := 2229) (by decide) (by decide) (lc_45 X F hc hn kk H locs ls I J f g hH hS hR hl)
  · exact lv_tableIn (tgt := 2342) X.1.1 X.1.2.1 dL_law_45 (by decide) (by decide) (off := 2297) (by decide) (by decide) (lc_46 X F hc hn kk H locs ls I J f g hH hS hR hl)
  · exact lv_tableIn (tgt := 2422) X.1.1 X.1.2.1 dL_law_45 (by decide) (by decide) (off := 2377) (by decide) (by decide) (lc_47 X F hc hn kk H locs ls I J f g hH hS hR hl)
  · exact lv_tableIn (tgt := 2490) X.1.1 X.1.2.1 dL_law_45 (by decide) (by decide) (off := 2445) (by decide) (by decide) (lc_48 X F hc hn kk H locs ls I J f g hH hS hR hl)
  · exact lv_tableIn (tgt := 2503) X.1.1 X.1.2.1 dL_law_45 (by decide) (by decide) (off := 2458) (by decide) (by decide) (lc_49 X F hc hn kk H locs ls I J f g hH hS hR hl)
  · exact lv_tableIn (tgt := 2559) X.1.1 X.1.2.1 dL_law_45 (by decide) (by decide) (off := 2514) (by decide) (by decide) (lc_50 X F hc hn kk H locs ls I J f g hH hS hR hl)
  · exact lv_tableIn (tgt := 2615) X.1.1 X.1.2.1 dL_law_45 (by decide) (by decide) (off := 2570) (by decide) (by decide) (lc_51 X F hc hn kk H locs ls I J f g hH hS hR hl)
  · exact lv_tableIn (tgt := 2659) X.1.1 X.1.2.1 dL_law_45 (by decide) (by decide) (off := 2614) (by decide) (by decide) (lc_52 X F hc hn kk H locs ls I J f g hH hS hR hl)
  · exact lv_tableIn (tgt := 2703) X.1.1 X.1.2.1 dL_law_45 (by decide) (by decide) (off := 2658) (by decide) (by decide) (lc_53 X F hc hn kk H locs ls I J f g hH hS hR hl)
  · exact lv_tableIn (tgt := 2759) X.1.1 X.1.2.1 dL_law_45 (by decide) (by decide) (off := 2714) (by decide) (by decide) (lc_54 X F hc hn kk H locs ls I J f g hH hS hR hl)
  · exact lv_tableIn (tgt := 2815) X.1.1 X.1.2.1 dL_law_45 (by decide) (by decide) (off := 2770) (by decide) (by decide) (lc_55 X F hc hn kk H locs ls I J f g hH hS hR hl)
  · exact lv_tableIn (tgt := 2828) X.1.1 X.1.2.1 dL_law_45 (by decide) (by decide) (off := 2783) (by decide) (by decide) (lc_56 X F hc hn kk H locs ls I J f g hH hS hR hl)
  · exact lv_tableOut (tgt := 2884) X.1.1 X.1.2.1 dL_law_45 (Or.inr (by rw [nI_toInt (by omega)]; omega)) (by decide) (W.widen (k := cells + 1) (n := slots + 6) (by omega) (by omega) (kk H locs ls I J f g hH hS hR hl))
theorem la_loop (X : la_X K p s m meth c b L xs qo qd cl cd) (F : la_F K) (hL : L ≤ 3072) : ∀ (d n cells slots : Nat), L < n + 6 * d → n ≤ L + 6 → cells + d ≤ 1088 → slots + 6 * d ≤ 17909 → la_T K p e s m below meth c b qo qd cl cd (lw_Z below #[.ref b] s) n cells slots 28 := by
  intro d
  induction d with
  | zero =>
    intro n cells slots h1 h2 h3 h4 H locs ls I J f g hH hS hR hl
    refine lv_iload X.1.1 X.1.2.1 dL_law_28 (lv_at hl 5 rfl) ?_
    refine lv_aload_n X.1.1 X.1.2.1 dL_law_30 rfl (lv_at hl 0 rfl) ?_
    refine va_slen X.1.1 X.1.2.1 X.2.2.2.1.1 X.2.2.2.1.2 (A := la_A s) (by show ¬ s.heap.size ≤ b; have := X.2.2.2.1.2; omega) hS dL_law_31 ?_
    refine lv_bipush (v := 6) X.1.1 X.1.2.1 dL_law_32 (by decide) ?_
    refine lv_isub X.1.1 X.1.2.1 dL_law_34 ?_
    exact lv_icmp_gt (tgt := 2890) X.1.1 X.1.2.1 dL_law_35 (by decide) (fun _ => la_end X ⟨by omega, by omega⟩ H locs ls I J f g hH hS hR hl) (fun y => absurd ((la_gt (by omega) (by omega)).mpr (by omega)) y)
  | succ d ih =>
    intro n cells slots h1 h2 h3 h4 H locs ls I J f g hH hS hR hl
    refine lv_iload X.1.1 X.1.2.1 dL_law_28 (lv_at hl 5 rfl) ?_
    refine lv_aload_n X.1.1 X.1.2.1 dL_law_30 rfl (lv_at hl 0 rfl) ?_
    refine va_slen X.1.1 X.1.2.1 X.2.2.2.1.1 X.2.2.2.1.2 (A := la_A s) (by show ¬ s.heap.size ≤ b; have := X.2.2.2.1.2; omega) hS dL_law_31 ?_
    refine lv_bipush (v := 6) X.1.1 X.1.2.1 dL_law_32 (by decide) ?_
    refine lv_isub X.1.1 X.1.2.1 dL_law_34 ?_
    refine lv_icmp_gt (tgt := 2890) X.1.1 X.1.2.1 dL_law_35 (by decide) (fun _ => la_end X ⟨by omega, by omega⟩ H locs ls I J f g hH hS hR hl) (fun y => ?_)
    have h6 : n + 6 ≤ L := by
      have z := mt (la_gt (n := n) (L := L) (by omega) (by omega)).mpr y
      omega
    exact la_turn X F ⟨by omega, by omega⟩ ⟨h6, hL⟩ (la_next X (by omega) (ih (n + 6) (cells + 1) (slots + 6) (by omega) (by omega) (by omega) (by omega))) H locs ls I J f g hH hS hR hl
end LOOP
