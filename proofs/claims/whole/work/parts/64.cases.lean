/-! ## the law's 57 calls -/
def la_F (K : cw_K) : Prop := cw_FT (cw_f (cc_w K)) ∧ K.1.stackTraces = false ∧ cw_FS (cw_Fc K) (cw_sd K) (cw_sv K) ∧ cw_FC K ∧ cw_FV K
theorem la_cmp (x : Int64) : lg_cmp x x = 0 := by
  unfold lg_cmp
  simp [Int64.lt_irrefl]
theorem la_cmp_if_0 {f : Nat → Int64} {r : Int32} (y : r = 0) : lg_cmp (vp_updL f 0 (if r = 0 then 0 else 1) (0 : Int32).toNatClampNeg) 0 = 0 := by
  rw [if_pos y]
  exact la_cmp 0
theorem la_cmp_if_1 {f : Nat → Int64} {r : Int32} (y : ¬ r = 0) : lg_cmp (vp_updL f 0 (if r = 0 then 0 else 1) (0 : Int32).toNatClampNeg) 1 = 0 := by
  rw [if_neg y]
  exact la_cmp 1
theorem la_dcmp {f : Nat → UInt64} {y : UInt64} {op : CmpOp} (hf : f 0 = y) (hy : sp_w64 y) : Op.cmpValue (FP.dcmp (f (0 : Int32).toNatClampNeg) y) op = 0 := by
  rw [show (0 : Int32).toNatClampNeg = 0 from rfl, hf, hy.2]
  rfl
theorem la_lv {ls : Array Slot} {N : Nat} {q : Nat × Value} {l : List (Nat × Value)} (h : lv_has ls N (q :: l)) : lv_has ls N l := ⟨h.1, h.2.1, fun z hz => h.2.2 z (List.mem_cons_of_mem _ hz)⟩
/-- the law stands at pc, its loop at the n-th int: it comes to its end from there -/
def la_T (K : cw_K) (p : Program) (e : Env) (s : State) (m : MethodId) (below : List Frame) (meth : Method) (c : Code) (b : Nat) (qo qd : Nat) (cl cd : ClassId) (Q : State → Prop) (n cells slots pc : Nat) : Prop := ∀ (H : Heap) (locs : List Loc) (ls : Array Slot) (I J : cw_M) (f : Nat → Int64) (g : Nat → UInt64), la_H K I J qo qd (lo cl f) (ld cd g) H → va_S (la_A s) s.heap H locs → sp_Rel I J → lv_has ls 10 [(0, .ref b), (1, .ref (cw_a (cc_w K) 0)), (2, .ref (cw_a (cr_w K) 0)), (3, .ref qo), (4, .ref qd), (5, .int (nI n))] → W p K.1 e room_1 s m #[.ref b] below meth c H locs cells slots Q (F0 m pc ls [])
section CASES
variable {K : cw_K} {p : Program} {e : Env} {s : State} {m : MethodId} {below : List Frame} {meth : Method} {c : Code} {cells slots n : Nat} {Q : State → Prop} {b L qo qd : Nat} {xs : Nat → Int32} {cl cd : ClassId}
theorem lc_0 (X : la_X K p s m meth c b L xs qo qd cl cd) (F : la_F K) (hc : cells + 1 ≤ 1088 ∧ slots + 6 ≤ 17909) (hn : n + 6 ≤ L ∧ L ≤ 3072) (kk : la_T K p e s m below meth c b qo qd cl cd Q n (cells + 1) (slots + 6) 2884) : la_T K p e s m below meth c b qo qd cl cd Q n cells slots 288 := by
  intro H locs ls I J f g hH hS hR hl
  rcases ca_append (K := K) F.1 F.2.1 hR (a := xs (n + 1)) (b := xs (n + 2)) (c := xs (n + 3)) (d := xs (n + 4)) (e := xs (n + 5)) with ⟨r, I2, J2, h1, h2, h3, h4⟩ | ⟨r, I2, J2, h1, h2, h3, h4⟩
  · refine lv_aload_n X.1.1 X.1.2.1 dL_law_288 rfl (lv_at hl 1 rfl) ?_
    refine la_arg (j := 1) X hS (lv_at hl 0 rfl) (lv_at hl 5 rfl) (by omega) hn.2 (by decide) dL_law_289 dL_law_290 dL_law_292 dL_law_293 dL_law_294 ?_
    refine la_arg (j := 2) X hS (lv_at hl 0 rfl) (lv_at hl 5 rfl) (by omega) hn.2 (by decide) dL_law_295 dL_law_296 dL_law_298 dL_law_299 dL_law_300 ?_
    refine la_arg (j := 3) X hS (lv_at hl 0 rfl) (lv_at hl 5 rfl) (by omega) hn.2 (by decide) dL_law_301 dL_law_302 dL_law_304 dL_law_305 dL_law_306 ?_
    refine la_arg (j := 4) X hS (lv_at hl 0 rfl) (lv_at hl 5 rfl) (by omega) hn.2 (by decide) dL_law_307 dL_law_308 dL_law_310 dL_law_311 dL_law_312 ?_
    refine la_arg (j := 5) X hS (lv_at hl 0 rfl) (lv_at hl 5 rfl) (by omega) hn.2 (by decide) dL_law_313 dL_law_314 dL_law_316 dL_law_317 dL_law_318 ?_
    refine lv_aload_n X.1.1 X.1.2.1 dL_law_319 rfl (lv_at hl 3 rfl) ?_
    refine la_callW (M2 := mL_append) (n2 := 7) (As := [.ref (cw_a (cc_w K) 0), .int (xs (n + 1)), .int (xs (n + 2)), .int (xs (n + 3)), .int (xs (n + 4)), .int (xs (n + 5)), .ref qo]) (hh := [(0, 16, 19, 13)]) X hH hS (wr_append_ok h1) ⟨_, rfl⟩ (by decide +kernel) rfl gT_L_append ⟨Nat.le_of_ble_eq_true rfl, Nat.le_of_ble_eq_true rfl⟩ hc hl.1 rfl (Nat.le_of_ble_eq_true rfl) dL_law_320 (fun H1 locs1 hH1 hS1 => ?_)
    refine lv_istore (lv' := (6, .int 0) :: [(0, .ref b), (1, .ref (cw_a (cc_w K) 0)), (2, .ref (cw_a (cr_w K) 0)), (3, .ref qo), (4, .ref qd), (5, .int (nI n))]) X.1.1 X.1.2.1 dL_law_323 hl (by decide) rfl (fun ls1 hl1 => ?_)
    refine lv_aload_n X.1.1 X.1.2.1 dL_law_325 rfl (lv_at hl1 3 rfl) ?_
    refine la_arg (j := 1) X hS1 (lv_at hl1 1 rfl) (lv_at hl1 6 rfl) (by omega) hn.2 (by decide) dL_law_326 dL_law_327 dL_law_329 dL_law_330 dL_law_331 ?_
    refine la_arg (j := 2) X hS1 (lv_at hl1 1 rfl) (lv_at hl1 6 rfl) (by omega) hn.2 (by decide) dL_law_332 dL_law_333 dL_law_335 dL_law_336 dL_law_337 ?_
    refine la_arg (j := 3) X hS1 (lv_at hl1 1 rfl) (lv_at hl1 6 rfl) (by omega) hn.2 (by decide) dL_law_338 dL_law_339 dL_law_341 dL_law_342 dL_law_343 ?_
    refine la_arg (j := 4) X hS1 (lv_at hl1 1 rfl) (lv_at hl1 6 rfl) (by omega) hn.2 (by decide) dL_law_344 dL_law_345 dL_law_347 dL_law_348 dL_law_349 ?_
    refine la_arg (j := 5) X hS1 (lv_at hl1 1 rfl) (lv_at hl1 6 rfl) (by omega) hn.2 (by decide) dL_law_350 dL_law_351 dL_law_353 dL_law_354 dL_law_355 ?_
    refine la_callR (As := [.int (xs (n + 1)), .int (xs (n + 2)), .int (xs (n + 3)), .int (xs (n + 4)), .int (xs (n + 5))]) X hH1 hS1 h2 okX11_append rfl rfl gT_X11_append ⟨Nat.le_of_ble_eq_true rfl, Nat.le_of_ble_eq_true rfl⟩ hc hl1.1 rfl (Nat.le_of_ble_eq_true rfl) dL_law_356 (fun H2 locs2 hH2 hS2 => ?_)
    refine lv_istore (lv' := (7, .int r) :: (6, .int 0) :: [(0, .ref b), (1, .ref (cw_a (cc_w K) 0)), (2, .ref (cw_a (cr_w K) 0)), (3, .ref qo), (4, .ref qd), (5, .int (nI n))]) X.1.1 X.1.2.1 dL_law_359 hl1 (by decide) rfl (fun ls2 hl2 => ?_)
    refine lv_aload_n X.1.1 X.1.2.1 dL_law_361 rfl (lv_at hl2 4 rfl) ?_
    refine la_thrown X hH2 hS2 hc hl2.1 (Nat.le_of_ble_eq_true rfl) dL_law_362 (fun H3 locs3 hH3 hS3 => ?_)
    refine lv_iload X.1.1 X.1.2.1 dL_law_365 (lv_at hl2 1 rfl) ?_
    refine lv_icmp_eq (tgt := 372) X.1.1 X.1.2.1 dL_law_367 (by decide) (fun _ => ?_) (fun y => absurd h3 y)
    refine lv_iload X.1.1 X.1.2.1 dL_law_372 (lv_at hl2 1 rfl) ?_
    have hg : W p K.1 e room_1 s m #[.ref b] below meth c H3 locs3 (cells + 1) (slots + 6) Q (F0 m 389 ls2 []) := lv_goto (tgt := 2884) X.1.1 X.1.2.1 dL_law_389 (by decide) (kk _ _ _ _ _ _ _ hH3 hS3 h4 (la_lv (la_lv hl2)))
    refine lv_if_ne (tgt := 389) X.1.1 X.1.2.1 dL_law_374 (by decide) (fun y => absurd rfl y) (fun _ => ?_)
    refine lv_aload_n X.1.1 X.1.2.1 dL_law_377 rfl (lv_at hl2 5 rfl) ?_
    refine lv_iconst (v := 0) X.1.1 X.1.2.1 dL_law_378 (by decide) ?_
    refine va_lald X.1.1 X.1.2.1 X.2.2.2.2.2.2.1 hH3.2.2.1 0 0 rfl rfl (vp_in_nI (n := 0) (N := 1) (by omega) (by omega)) dL_law_379 ?_
    refine lv_iload X.1.1 X.1.2.1 dL_law_380 (lv_at hl2 0 rfl) ?_
    refine lv_i2l (v := r.toInt64) X.1.1 X.1.2.1 dL_law_382 rfl ?_
    refine W.lcmp X.1.1 X.1.2.1 dL_law_383 ?_
    exact lv_if_eq (tgt := 389) X.1.1 X.1.2.1 dL_law_384 (by decide) (fun _ => hg) (fun y => absurd (la_cmp _) y)
  · refine lv_aload_n X.1.1 X.1.2.1 dL_law_288 rfl (lv_at hl 1 rfl) ?_
    refine la_arg (j := 1) X hS (lv_at hl 0 rfl) (lv_at hl 5 rfl) (by omega) hn.2 (by decide) dL_law_289 dL_law_290 dL_law_292 dL_law_293 dL_law_294 ?_
    refine la_arg (j := 2) X hS (lv_at hl 0 rfl) (lv_at hl 5 rfl) (by omega) hn.2 (by decide) dL_law_295 dL_law_296 dL_law_298 dL_law_299 dL_law_300 ?_
    refine la_arg (j := 3) X hS (lv_at hl 0 rfl) (lv_at hl 5 rfl) (by omega) hn.2 (by decide) dL_law_301 dL_law_302 dL_law_304 dL_law_305 dL_law_306 ?_
    refine la_arg (j := 4) X hS (lv_at hl 0 rfl) (lv_at hl 5 rfl) (by omega) hn.2 (by decide) dL_law_307 dL_law_308 dL_law_310 dL_law_311 dL_law_312 ?_
    refine la_arg (j := 5) X hS (lv_at hl 0 rfl) (lv_at hl 5 rfl) (by omega) hn.2 (by decide) dL_law_313 dL_law_314 dL_law_316 dL_law_317 dL_law_318 ?_
    refine lv_aload_n X.1.1 X.1.2.1 dL_law_319 rfl (lv_at hl 3 rfl) ?_
    refine la_callW (M2 := mL_append) (n2 := 7) (As := [.ref (cw_a (cc_w K) 0), .int (xs (n + 1)), .int (xs (n + 2)), .int (xs (n + 3)), .int (xs (n + 4)), .int (xs (n + 5)), .ref qo]) (hh := [(0, 16, 19, 13)]) X hH hS (wr_append_x1 h1) ⟨_, rfl⟩ (by decide +kernel) rfl gT_L_append ⟨Nat.le_of_ble_eq_true rfl, Nat.le_of_ble_eq_true rfl⟩ hc hl.1 rfl (Nat.le_of_ble_eq_true rfl) dL_law_320 (fun H1 locs1 hH1 hS1 => ?_)
    refine lv_istore (lv' := (6, .int 1) :: [(0, .ref b), (1, .ref (cw_a (cc_w K) 0)), (2, .ref (cw_a (cr_w K) 0)), (3, .ref qo), (4, .ref qd), (5, .int (nI n))]) X.1.1 X.1.2.1 dL_law_323 hl (by decide) rfl (fun ls1 hl1 => ?_)
    refine lv_aload_n X.1.1 X.1.2.1 dL_law_325 rfl (lv_at hl1 3 rfl) ?_
    refine la_arg (j := 1) X hS1 (lv_at hl1 1 rfl) (lv_at hl1 6 rfl) (by omega) hn.2 (by decide) dL_law_326 dL_law_327 dL_law_329 dL_law_330 dL_law_331 ?_
    refine la_arg (j := 2) X hS1 (lv_at hl1 1 rfl) (lv_at hl1 6 rfl) (by omega) hn.2 (by decide) dL_law_332 dL_law_333 dL_law_335 dL_law_336 dL_law_337 ?_
    refine la_arg (j := 3) X hS1 (lv_at hl1 1 rfl) (lv_at hl1 6 rfl) (by omega) hn.2 (by decide) dL_law_338 dL_law_339 dL_law_341 dL_law_342 dL_law_343 ?_
    refine la_arg (j := 4) X hS1 (lv_at hl1 1 rfl) (lv_at hl1 6 rfl) (by omega) hn.2 (by decide) dL_law_344 dL_law_345 dL_law_347 dL_law_348 dL_law_349 ?_
    refine la_arg (j := 5) X hS1 (lv_at hl1 1 rfl) (lv_at hl1 6 rfl) (by omega) hn.2 (by decide) dL_law_350 dL_law_351 dL_law_353 dL_law_354 dL_law_355 ?_
    refine la_callR (As := [.int (xs (n + 1)), .int (xs (n + 2)), .int (xs (n + 3)), .int (xs (n + 4)), .int (xs (n + 5))]) X hH1 hS1 h2 okX11_append rfl rfl gT_X11_append ⟨Nat.le_of_ble_eq_true rfl, Nat.le_of_ble_eq_true rfl⟩ hc hl1.1 rfl (Nat.le_of_ble_eq_true rfl) dL_law_356 (fun H2 locs2 hH2 hS2 => ?_)
    refine lv_istore (lv' := (7, .int r) :: (6, .int 1) :: [(0, .ref b), (1, .ref (cw_a (cc_w K) 0)), (2, .ref (cw_a (cr_w K) 0)), (3, .ref qo), (4, .ref qd), (5, .int (nI n))]) X.1.1 X.1.2.1 dL_law_359 hl1 (by decide) rfl (fun ls2 hl2 => ?_)
    refine lv_aload_n X.1.1 X.1.2.1 dL_law_361 rfl (lv_at hl2 4 rfl) ?_
    refine la_thrown X hH2 hS2 hc hl2.1 (Nat.le_of_ble_eq_true rfl) dL_law_362 (fun H3 locs3 hH3 hS3 => ?_)
    refine lv_iload X.1.1 X.1.2.1 dL_law_365 (lv_at hl2 1 rfl) ?_
    refine lv_icmp_eq (tgt := 372) X.1.1 X.1.2.1 dL_law_367 (by decide) (fun _ => ?_) (fun y => absurd h3 y)
    refine lv_iload X.1.1 X.1.2.1 dL_law_372 (lv_at hl2 1 rfl) ?_
    have hg : W p K.1 e room_1 s m #[.ref b] below meth c H3 locs3 (cells + 1) (slots + 6) Q (F0 m 389 ls2 []) := lv_goto (tgt := 2884) X.1.1 X.1.2.1 dL_law_389 (by decide) (kk _ _ _ _ _ _ _ hH3 hS3 h4 (la_lv (la_lv hl2)))
    exact lv_if_ne (tgt := 389) X.1.1 X.1.2.1 dL_law_374 (by decide) (fun _ => hg) (fun y => absurd y (by decide))
theorem lc_1 (X : la_X K p s m meth c b L xs qo qd cl cd) (F : la_F K) (hc : cells + 1 ≤ 1088 ∧ slots + 6 ≤ 17909) (hn : n + 6 ≤ L ∧ L ≤ 3072) (kk : la_T K p e s m below meth c b qo qd cl cd Q n (cells + 1) (slots + 6) 2884) : la_T K p e s m below meth c b qo qd cl cd Q n cells slots 392 := by
  intro H locs ls I J f g hH hS hR hl
  rcases ca_truncate (K := K) F.1 F.2.1 hR (x := xs (n + 1)) with ⟨r, I2, J2, h1, h2, h3, h4⟩ | ⟨r, I2, J2, h1, h2, h3, h4⟩
  · refine lv_aload_n X.1.1 X.1.2.1 dL_law_392 rfl (lv_at hl 1 rfl) ?_
    refine la_arg (j := 1) X hS (lv_at hl 0 rfl) (lv_at hl 5 rfl) (by omega) hn.2 (by decide) dL_law_393 dL_law_394 dL_law_396 dL_law_397 dL_law_398 ?_
    refine lv_aload_n X.1.1 X.1.2.1 dL_law_399 rfl (lv_at hl 3 rfl) ?_
    refine la_callW (M2 := mL_truncate) (n2 := 3) (As := [.ref (cw_a (cc_w K) 0), .int (xs (n + 1)), .ref qo]) (hh := [(0, 9, 12, 19)]) X hH hS (wr_truncate_ok h1) ⟨_, rfl⟩ (by decide +kernel) rfl gT_L_truncate ⟨Nat.le_of_ble_eq_true rfl, Nat.le_of_ble_eq_true rfl⟩ hc hl.1 rfl (Nat.le_of_ble_eq_true rfl) dL_law_400 (fun H1 locs1 hH1 hS1 => ?_)
    refine lv_istore (lv' := (6, .int 0) :: [(0, .ref b), (1, .ref (cw_a (cc_w K) 0)), (2, .ref (cw_a (cr_w K) 0)), (3, .ref qo), (4, .ref qd), (5, .int (nI n))]) X.1.1 X.1.2.1 dL_law_403 hl (by decide) rfl (fun ls1 hl1 => ?_)
    refine lv_aload_n X.1.1 X.1.2.1 dL_law_405 rfl (lv_at hl1 3 rfl) ?_
    refine la_arg (j := 1) X hS1 (lv_at hl1 1 rfl) (lv_at hl1 6 rfl) (by omega) hn.2 (by decide) dL_law_406 dL_law_407 dL_law_409 dL_law_410 dL_law_411 ?_
    refine la_callR (As := [.int (xs (n + 1))]) X hH1 hS1 h2 okX11_truncate rfl rfl gT_X11_truncate ⟨Nat.le_of_ble_eq_true rfl, Nat.le_of_ble_eq_true rfl⟩ hc hl1.1 rfl (Nat.le_of_ble_eq_true rfl) dL_law_412 (fun H2 locs2 hH2 hS2 => ?_)
    refine lv_istore (lv' := (7, .int r) :: (6, .int 0) :: [(0, .ref b), (1, .ref (cw_a (cc_w K) 0)), (2, .ref (cw_a (cr_w K) 0)), (3, .ref qo), (4, .ref qd), (5, .int (nI n))]) X.1.1 X.1.2.1 dL_law_415 hl1 (by decide) rfl (fun ls2 hl2 => ?_)
    refine lv_aload_n X.1.1 X.1.2.1 dL_law_417 rfl (lv_at hl2 4 rfl) ?_
    refine la_thrown X hH2 hS2 hc hl2.1 (Nat.le_of_ble_eq_true rfl) dL_law_418 (fun H3 locs3 hH3 hS3 => ?_)
    refine lv_iload X.1.1 X.1.2.1 dL_law_421 (lv_at hl2 1 rfl) ?_
    refine lv_icmp_eq (tgt := 428) X.1.1 X.1.2.1 dL_law_423 (by decide) (fun _ => ?_) (fun y => absurd h3 y)
    refine lv_iload X.1.1 X.1.2.1 dL_law_428 (lv_at hl2 1 rfl) ?_
    have hg : W p K.1 e room_1 s m #[.ref b] below meth c H3 locs3 (cells + 1) (slots + 6) Q (F0 m 445 ls2 []) := lv_goto (tgt := 2884) X.1.1 X.1.2.1 dL_law_445 (by decide) (kk _ _ _ _ _ _ _ hH3 hS3 h4 (la_lv (la_lv hl2)))
    refine lv_if_ne (tgt := 445) X.1.1 X.1.2.1 dL_law_430 (by decide) (fun y => absurd rfl y) (fun _ => ?_)
    refine lv_aload_n X.1.1 X.1.2.1 dL_law_433 rfl (lv_at hl2 5 rfl) ?_
    refine lv_iconst (v := 0) X.1.1 X.1.2.1 dL_law_434 (by decide) ?_
    refine va_lald X.1.1 X.1.2.1 X.2.2.2.2.2.2.1 hH3.2.2.1 0 0 rfl rfl (vp_in_nI (n := 0) (N := 1) (by omega) (by omega)) dL_law_435 ?_
    refine lv_iload X.1.1 X.1.2.1 dL_law_436 (lv_at hl2 0 rfl) ?_
    refine lv_i2l (v := r.toInt64) X.1.1 X.1.2.1 dL_law_438 rfl ?_
    refine W.lcmp X.1.1 X.1.2.1 dL_law_439 ?_
    exact lv_if_eq (tgt := 445) X.1.1 X.1.2.1 dL_law_440 (by decide) (fun _ => hg) (fun y => absurd (la_cmp _) y)
  · refine lv_aload_n X.1.1 X.1.2.1 dL_law_392 rfl (lv_at hl 1 rfl) ?_
    refine la_arg (j := 1) X hS (lv_at hl 0 rfl) (lv_at hl 5 rfl) (by omega) hn.2 (by decide) dL_law_393 dL_law_394 dL_law_396 dL_law_397 dL_law_398 ?_
    refine lv_aload_n X.1.1 X.1.2.1 dL_law_399 rfl (lv_at hl 3 rfl) ?_
    refine la_callW (M2 := mL_truncate) (n2 := 3) (As := [.ref (cw_a (cc_w K) 0), .int (xs (n + 1)), .ref qo]) (hh := [(0, 9, 12, 19)]) X hH hS (wr_truncate_x1 h1) ⟨_, rfl⟩ (by decide +kernel) rfl gT_L_truncate ⟨Nat.le_of_ble_eq_true rfl, Nat.le_of_ble_eq_true rfl⟩ hc hl.1 rfl (Nat.le_of_ble_eq_true rfl) dL_law_400 (fun H1 locs1 hH1 hS1 => ?_)
    refine lv_istore (lv' := (6, .int 1) :: [(0, .ref b), (1, .ref (cw_a (cc_w K) 0)), (2, .ref (cw_a (cr_w K) 0)), (3, .ref qo), (4, .ref qd), (5, .int (nI n))]) X.1.1 X.1.2.1 dL_law_403 hl (by decide) rfl (fun ls1 hl1 => ?_)
    refine lv_aload_n X.1.1 X.1.2.1 dL_law_405 rfl (lv_at hl1 3 rfl) ?_
    refine la_arg (j := 1) X hS1 (lv_at hl1 1 rfl) (lv_at hl1 6 rfl) (by omega) hn.2 (by decide) dL_law_406 dL_law_407 dL_law_409 dL_law_410 dL_law_411 ?_
    refine la_callR (As := [.int (xs (n + 1))]) X hH1 hS1 h2 okX11_truncate rfl rfl gT_X11_truncate ⟨Nat.le_of_ble_eq_true rfl, Nat.le_of_ble_eq_true rfl⟩ hc hl1.1 rfl (Nat.le_of_ble_eq_true rfl) dL_law_412 (fun H2 locs2 hH2 hS2 => ?_)
    refine lv_istore (lv' := (7, .int r) :: (6, .int 1) :: [(0, .ref b), (1, .ref (cw_a (cc_w K) 0)), (2, .ref (cw_a (cr_w K) 0)), (3, .ref qo), (4, .ref qd), (5, .int (nI n))]) X.1.1 X.1.2.1 dL_law_415 hl1 (by decide) rfl (fun ls2 hl2 => ?_)
    refine lv_aload_n X.1.1 X.1.2.1 dL_law_417 rfl (lv_at hl2 4 rfl) ?_
    refine la_thrown X hH2 hS2 hc hl2.1 (Nat.le_of_ble_eq_true rfl) dL_law_418 (fun H3 locs3 hH3 hS3 => ?_)
    refine lv_iload X.1.1 X.1.2.1 dL_law_421 (lv_at hl2 1 rfl) ?_
    refine lv_icmp_eq (tgt := 428) X.1.1 X.1.2.1 dL_law_423 (by decide) (fun _ => ?_) (fun y => absurd h3 y)
    refine lv_iload X.1.1 X.1.2.1 dL_law_428 (lv_at hl2 1 rfl) ?_
    have hg : W p K.1 e room_1 s m #[.ref b] below meth c H3 locs3 (cells + 1) (slots + 6) Q (F0 m 445 ls2 []) := lv_goto (tgt := 2884) X.1.1 X.1.2.1 dL_law_445 (by decide) (kk _ _ _ _ _ _ _ hH3 hS3 h4 (la_lv (la_lv hl2)))
    exact lv_if_ne (tgt := 445) X.1.1 X.1.2.1 dL_law_430 (by decide) (fun _ => hg) (fun y => absurd y (by decide))
theorem lc_2 (X : la_X K p s m meth c b L xs qo qd cl cd) (F : la_F K) (hc : cells + 1 ≤ 1088 ∧ slots + 6 ≤ 17909) (hn : n + 6 ≤ L ∧ L ≤ 3072) (kk : la_T K p e s m below meth c b qo qd cl cd Q n (cells + 1) (slots + 6) 2884) : la_T K p e s m below meth c b qo qd cl cd Q n cells slots 448 := by
  intro H locs ls I J f g hH hS hR hl
  rcases ca_load (K := K) F.1 F.2.1 F.2.2.1 F.2.2.2.1 hR with ⟨r, I2, J2, h1, h2, h3, h4⟩ | ⟨r, I2, J2, h1, h2, h3, h4⟩
  · refine lv_aload_n X.1.1 X.1.2.1 dL_law_448 rfl (lv_at hl 1 rfl) ?_
    refine lv_aload_n X.1.1 X.1.2.1 dL_law_449 rfl (lv_at hl 3 rfl) ?_
    refine la_callW (M2 := mL_load) (n2 := 2) (As := [.ref (cw_a (cc_w K) 0), .ref qo]) (hh := [(0, 8, 11, 19)]) X hH hS (wr_load_ok h1) ⟨_, rfl⟩ (by decide +kernel) rfl gT_L_load ⟨Nat.le_of_ble_eq_true rfl, Nat.le_of_ble_eq_true rfl⟩ hc hl.1 rfl (Nat.le_of_ble_eq_true rfl) dL_law_450 (fun H1 locs1 hH1 hS1 => ?_)
    refine lv_istore (lv' := (6, .int 0) :: [(0, .ref b), (1, .ref (cw_a (cc_w K) 0)), (2, .ref (cw_a (cr_w K) 0)), (3, .ref qo), (4, .ref qd), (5, .int (nI n))]) X.1.1 X.1.2.1 dL_law_453 hl (by decide) rfl (fun ls1 hl1 => ?_)
    refine lv_aload_n X.1.1 X.1.2.1 dL_law_455 rfl (lv_at hl1 3 rfl) ?_
    refine la_callR (As := []) X hH1 hS1 h2 okX11_load rfl rfl gT_X11_load ⟨Nat.le_of_ble_eq_true rfl, Nat.le_of_ble_eq_true rfl⟩ hc hl1.1 rfl (Nat.le_of_ble_eq_true rfl) dL_law_456 (fun H2 locs2 hH2 hS2 => ?_)
    refine lv_istore (lv' := (7, .int r) :: (6, .int 0) :: [(0, .ref b), (1, .ref (cw_a (cc_w K) 0)), (2, .ref (cw_a (cr_w K) 0)), (3, .ref qo), (4, .ref qd), (5, .int (nI n))]) X.1.1 X.1.2.1 dL_law_459 hl1 (by decide) rfl (fun ls2 hl2 => ?_)
    refine lv_aload_n X.1.1 X.1.2.1 dL_law_461 rfl (lv_at hl2 4 rfl) ?_
    refine la_thrown X hH2 hS2 hc hl2.1 (Nat.le_of_ble_eq_true rfl) dL_law_462 (fun H3 locs3 hH3 hS3 => ?_)
    refine lv_iload X.1.1 X.1.2.1 dL_law_465 (lv_at hl2 1 rfl) ?_
    refine lv_icmp_eq (tgt := 472) X.1.1 X.1.2.1 dL_law_467 (by decide) (fun _ => ?_) (fun y => absurd h3 y)
    refine lv_iload X.1.1 X.1.2.1 dL_law_472 (lv_at hl2 1 rfl) ?_
    have hg : W p K.1 e room_1 s m #[.ref b] below meth c H3 locs3 (cells + 1) (slots + 6) Q (F0 m 489 ls2 []) := lv_goto (tgt := 2884) X.1.1 X.1.2.1 dL_law_489 (by decide) (kk _ _ _ _ _ _ _ hH3 hS3 h4 (la_lv (la_lv hl2)))
    refine lv_if_ne (tgt := 489) X.1.1 X.1.2.1 dL_law_474 (by decide) (fun y => absurd rfl y) (fun _ => ?_)
    refine lv_aload_n X.1.1 X.1.2.1 dL_law_477 rfl (lv_at hl2 5 rfl) ?_
    refine lv_iconst (v := 0) X.1.1 X.1.2.1 dL_law_478 (by decide) ?_
    refine va_lald X.1.1 X.1.2.1 X.2.2.2.2.2.2.1 hH3.2.2.1 0 0 rfl rfl (vp_in_nI (n := 0) (N := 1) (by omega) (by omega)) dL_law_479 ?_
    refine lv_iload X.1.1 X.1.2.1 dL_law_480 (lv_at hl2 0 rfl) ?_
    refine lv_i2l (v := r.toInt64) X.1.1 X.1.2.1 dL_law_482 rfl ?_
    refine W.lcmp X.1.1 X.1.2.1 dL_law_483 ?_
    exact lv_if_eq (tgt := 489) X.1.1 X.1.2.1 dL_law_484 (by decide) (fun _ => hg) (fun y => absurd (la_cmp _) y)
  · refine lv_aload_n X.1.1 X.1.2.1 dL_law_448 rfl (lv_at hl 1 rfl) ?_
    refine lv_aload_n X.1.1 X.1.2.1 dL_law_449 rfl (lv_at hl 3 rfl) ?_
    refine la_callW (M2 := mL_load) (n2 := 2) (As := [.ref (cw_a (cc_w K) 0), .ref qo]) (hh := [(0, 8, 11, 19)]) X hH hS (wr_load_x1 h1) ⟨_, rfl⟩ (by decide +kernel) rfl gT_L_load ⟨Nat.le_of_ble_eq_true rfl, Nat.le_of_ble_eq_true rfl⟩ hc hl.1 rfl (Nat.le_of_ble_eq_true rfl) dL_law_450 (fun H1 locs1 hH1 hS1 => ?_)
    refine lv_istore (lv' := (6, .int 1) :: [(0, .ref b), (1, .ref (cw_a (cc_w K) 0)), (2, .ref (cw_a (cr_w K) 0)), (3, .ref qo), (4, .ref qd), (5, .int (nI n))]) X.1.1 X.1.2.1 dL_law_453 hl (by decide) rfl (fun ls1 hl1 => ?_)
    refine lv_aload_n X.1.1 X.1.2.1 dL_law_455 rfl (lv_at hl1 3 rfl) ?_
    refine la_callR (As := []) X hH1 hS1 h2 okX11_load rfl rfl gT_X11_load ⟨Nat.le_of_ble_eq_true rfl, Nat.le_of_ble_eq_true rfl⟩ hc hl1.1 rfl (Nat.le_of_ble_eq_true rfl) dL_law_456 (fun H2 locs2 hH2 hS2 => ?_)
    refine lv_istore (lv' := (7, .int r) :: (6, .int 1) :: [(0, .ref b), (1, .ref (cw_a (cc_w K) 0)), (2, .ref (cw_a (cr_w K) 0)), (3, .ref qo), (4, .ref qd), (5, .int (nI n))]) X.1.1 X.1.2.1 dL_law_459 hl1 (by decide) rfl (fun ls2 hl2 => ?_)
    refine lv_aload_n X.1.1 X.1.2.1 dL_law_461 rfl (lv_at hl2 4 rfl) ?_
    refine la_thrown X hH2 hS2 hc hl2.1 (Nat.le_of_ble_eq_true rfl) dL_law_462 (fun H3 locs3 hH3 hS3 => ?_)
    refine lv_iload X.1.1 X.1.2.1 dL_law_465 (lv_at hl2 1 rfl) ?_
    refine lv_icmp_eq (tgt := 472) X.1.1 X.1.2.1 dL_law_467 (by decide) (fun _ => ?_) (fun y => absurd h3 y)
    refine lv_iload X.1.1 X.1.2.1 dL_law_472 (lv_at hl2 1 rfl) ?_
    have hg : W p K.1 e room_1 s m #[.ref b] below meth c H3 locs3 (cells + 1) (slots + 6) Q (F0 m 489 ls2 []) := lv_goto (tgt := 2884) X.1.1 X.1.2.1 dL_law_489 (by decide) (kk _ _ _ _ _ _ _ hH3 hS3 h4 (la_lv (la_lv hl2)))
    exact lv_if_ne (tgt := 489) X.1.1 X.1.2.1 dL_law_474 (by decide) (fun _ => hg) (fun y => absurd y (by decide))
theorem lc_3 (X : la_X K p s m meth c b L xs qo qd cl cd) (F : la_F K) (hc : cells + 1 ≤ 1088 ∧ slots + 6 ≤ 17909) (hn : n + 6 ≤ L ∧ L ≤ 3072) (kk : la_T K p e s m below meth c b qo qd cl cd Q n (cells + 1) (slots + 6) 2884) : la_T K p e s m below meth c b qo qd cl cd Q n cells slots 492 := by
  intro H locs ls I J f g hH hS hR hl
  obtain ⟨r, I2, J2, h1, h2, h3, h4⟩ := ca_errorCode (K := K) hR
  refine W.widen (k := cells + 1) (n := slots + 6) (by omega) (by omega) ?_
  refine lv_aload_n X.1.1 X.1.2.1 dL_law_492 rfl (lv_at hl 1 rfl) ?_
  refine la_callC (As := []) X hH hS h1 okX10_errorCode rfl rfl gT_X10_errorCode ⟨Nat.le_of_ble_eq_true rfl, Nat.le_of_ble_eq_true rfl⟩ hc hl.1 rfl (Nat.le_of_ble_eq_true rfl) dL_law_493 (fun H1 locs1 hH1 hS1 => ?_)
  refine lv_aload_n X.1.1 X.1.2.1 dL_law_496 rfl (lv_at hl 2 rfl) ?_
  refine la_callR (As := []) X hH1 hS1 h2 okX11_errorCode rfl rfl gT_X11_errorCode ⟨Nat.le_of_ble_eq_true rfl, Nat.le_of_ble_eq_true rfl⟩ hc hl.1 rfl (Nat.le_of_ble_eq_true rfl) dL_law_497 (fun H2 locs2 hH2 hS2 => ?_)
  exact lv_icmp_eq (tgt := 2884) X.1.1 X.1.2.1 dL_law_500 (by decide) (fun _ => kk _ _ _ _ _ _ _ hH2 hS2 h4 hl) (fun y => absurd rfl y)
theorem lc_4 (X : la_X K p s m meth c b L xs qo qd cl cd) (F : la_F K) (hc : cells + 1 ≤ 1088 ∧ slots + 6 ≤ 17909) (hn : n + 6 ≤ L ∧ L ≤ 3072) (kk : la_T K p e s m below meth c b qo qd cl cd Q n (cells + 1) (slots + 6) 2884) : la_T K p e s m below meth c b qo qd cl cd Q n cells slots 505 := by
  intro H locs ls I J f g hH hS hR hl
  obtain ⟨r, I2, J2, h1, h2, h3, h4⟩ := ca_errorPosition (K := K) hR
  refine W.widen (k := cells + 1) (n := slots + 6) (by omega) (by omega) ?_
  refine lv_aload_n X.1.1 X.1.2.1 dL_law_505 rfl (lv_at hl 1 rfl) ?_
  refine la_callC (As := []) X hH hS h1 okX10_errorPosition rfl rfl gT_X10_errorPosition ⟨Nat.le_of_ble_eq_true rfl, Nat.le_of_ble_eq_true rfl⟩ hc hl.1 rfl (Nat.le_of_ble_eq_true rfl) dL_law_506 (fun H1 locs1 hH1 hS1 => ?_)
  refine lv_aload_n X.1.1 X.1.2.1 dL_law_509 rfl (lv_at hl 2 rfl) ?_
  refine la_callR (As := []) X hH1 hS1 h2 okX11_errorPosition rfl rfl gT_X11_errorPosition ⟨Nat.le_of_ble_eq_true rfl, Nat.le_of_ble_eq_true rfl⟩ hc hl.1 rfl (Nat.le_of_ble_eq_true rfl) dL_law_510 (fun H2 locs2 hH2 hS2 => ?_)
  exact lv_icmp_eq (tgt := 2884) X.1.1 X.1.2.1 dL_law_513 (by decide) (fun _ => kk _ _ _ _ _ _ _ hH2 hS2 h4 hl) (fun y => absurd rfl y)
theorem lc_5 (X : la_X K p s m meth c b L xs qo qd cl cd) (F : la_F K) (hc : cells + 1 ≤ 1088 ∧ slots + 6 ≤ 17909) (hn : n + 6 ≤ L ∧ L ≤ 3072) (kk : la_T K p e s m below meth c b qo qd cl cd Q n (cells + 1) (slots + 6) 2884) : la_T K p e s m below meth c b qo qd cl cd Q n cells slots 518 := by
  intro H locs ls I J f g hH hS hR hl
  obtain ⟨r, I2, J2, h1, h2, h3, h4⟩ := ca_cellCount (K := K) hR
  refine W.widen (k := cells + 1) (n := slots + 6) (by omega) (by omega) ?_
  refine lv_aload_n X.1.1 X.1.2.1 dL_law_518 rfl (lv_at hl 1 rfl) ?_
  refine la_callC (As := []) X hH hS h1 okX10_cellCount rfl rfl gT_X10_cellCount ⟨Nat.le_of_ble_eq_true rfl, Nat.le_of_ble_eq_true rfl⟩ hc hl.1 rfl (Nat.le_of_ble_eq_true rfl) dL_law_519 (fun H1 locs1 hH1 hS1 => ?_)
  refine lv_aload_n X.1.1 X.1.2.1 dL_law_522 rfl (lv_at hl 2 rfl) ?_
  refine la_callR (As := []) X hH1 hS1 h2 okX11_cellCount rfl rfl gT_X11_cellCount ⟨Nat.le_of_ble_eq_true rfl, Nat.le_of_ble_eq_true rfl⟩ hc hl.1 rfl (Nat.le_of_ble_eq_true rfl) dL_law_523 (fun H2 locs2 hH2 hS2 => ?_)
  exact lv_icmp_eq (tgt := 2884) X.1.1 X.1.2.1 dL_law_526 (by decide) (fun _ => kk _ _ _ _ _ _ _ hH2 hS2 h4 hl) (fun y => absurd rfl y)
theorem lc_6 (X : la_X K p s m meth c b L xs qo qd cl cd) (F : la_F K) (hc : cells + 1 ≤ 1088 ∧ slots + 6 ≤ 17909) (hn : n + 6 ≤ L ∧ L ≤ 3072) (kk : la_T K p e s m below meth c b qo qd cl cd Q n (cells + 1) (slots + 6) 2884) : la_T K p e s m below meth c b qo qd cl cd Q n cells slots 531 := by
  intro H locs ls I J f g hH hS hR hl
  obtain ⟨r, I2, J2, h1, h2, h3, h4⟩ := ca_siblingCount (K := K) hR
  refine W.widen (k := cells + 1) (n := slots + 6) (by omega) (by omega) ?_
  refine lv_aload_n X.1.1 X.1.2.1 dL_law_531 rfl (lv_at hl 1 rfl) ?_
  refine la_callC (As := []) X hH hS h1 okX10_siblingCount rfl rfl gT_X10_siblingCount ⟨Nat.le_of_ble_eq_true rfl, Nat.le_of_ble_eq_true rfl⟩ hc hl.1 rfl (Nat.le_of_ble_eq_true rfl) dL_law_532 (fun H1 locs1 hH1 hS1 => ?_)
  refine lv_aload_n X.1.1 X.1.2.1 dL_law_535 rfl (lv_at hl 2 rfl) ?_
  refine la_callR (As := []) X hH1 hS1 h2 okX11_siblingCount rfl rfl gT_X11_siblingCount ⟨Nat.le_of_ble_eq_true rfl, Nat.le_of_ble_eq_true rfl⟩ hc hl.1 rfl (Nat.le_of_ble_eq_true rfl) dL_law_536 (fun H2 locs2 hH2 hS2 => ?_)
  exact lv_icmp_eq (tgt := 2884) X.1.1 X.1.2.1 dL_law_539 (by decide) (fun _ => kk _ _ _ _ _ _ _ hH2 hS2 h4 hl) (fun y => absurd rfl y)
theorem lc_7 (X : la_X K p s m meth c b L xs qo qd cl cd) (F : la_F K) (hc : cells + 1 ≤ 1088 ∧ slots + 6 ≤ 17909) (hn : n + 6 ≤ L ∧ L ≤ 3072) (kk : la_T K p e s m below meth c b qo qd cl cd Q n (cells + 1) (slots + 6) 2884) : la_T K p e s m below meth c b qo qd cl cd Q n cells slots 544 := by
  intro H locs ls I J f g hH hS hR hl
  rcases ca_nameByte (K := K) F.1 F.2.1 hR (x := xs (n + 1)) (y := xs (n + 2)) with ⟨r, I2, J2, h1, h2, h3, h4⟩ | ⟨r, I2, J2, h1, h2, h3, h4⟩
  · refine lv_aload_n X.1.1 X.1.2.1 dL_law_544 rfl (lv_at hl 1 rfl) ?_
    refine la_arg (j := 1) X hS (lv_at hl 0 rfl) (lv_at hl 5 rfl) (by omega) hn.2 (by decide) dL_law_545 dL_law_546 dL_law_548 dL_law_549 dL_law_550 ?_
    refine la_arg (j := 2) X hS (lv_at hl 0 rfl) (lv_at hl 5 rfl) (by omega) hn.2 (by decide) dL_law_551 dL_law_552 dL_law_554 dL_law_555 dL_law_556 ?_
    refine lv_aload_n X.1.1 X.1.2.1 dL_law_557 rfl (lv_at hl 3 rfl) ?_
    refine la_callW (M2 := mL_nameByte) (n2 := 4) (As := [.ref (cw_a (cc_w K) 0), .int (xs (n + 1)), .int (xs (n + 2)), .ref qo]) (hh := [(0, 10, 13, 29)]) X hH hS (wr_nameByte_ok h1) ⟨_, rfl⟩ (by decide +kernel) rfl gT_L_nameByte ⟨Nat.le_of_ble_eq_true rfl, Nat.le_of_ble_eq_true rfl⟩ hc hl.1 rfl (Nat.le_of_ble_eq_true rfl) dL_law_558 (fun H1 locs1 hH1 hS1 => ?_)
    refine lv_istore (lv' := (6, .int 0) :: [(0, .ref b), (1, .ref (cw_a (cc_w K) 0)), (2, .ref (cw_a (cr_w K) 0)), (3, .ref qo), (4, .ref qd), (5, .int (nI n))]) X.1.1 X.1.2.1 dL_law_561 hl (by decide) rfl (fun ls1 hl1 => ?_)
    refine lv_aload_n X.1.1 X.1.2.1 dL_law_563 rfl (lv_at hl1 3 rfl) ?_
    refine la_arg (j := 1) X hS1 (lv_at hl1 1 rfl) (lv_at hl1 6 rfl) (by omega) hn.2 (by decide) dL_law_564 dL_law_565 dL_law_567 dL_law_568 dL_law_569 ?_
    refine la_arg (j := 2) X hS1 (lv_at hl1 1 rfl) (lv_at hl1 6 rfl) (by omega) hn.2 (by decide) dL_law_570 dL_law_571 dL_law_573 dL_law_574 dL_law_575 ?_
    refine la_callR (As := [.int (xs (n + 1)), .int (xs (n + 2))]) X hH1 hS1 h2 okX11_nameByte rfl rfl gT_X11_nameByte ⟨Nat.le_of_ble_eq_true rfl, Nat.le_of_ble_eq_true rfl⟩ hc hl1.1 rfl (Nat.le_of_ble_eq_true rfl) dL_law_576 (fun H2 locs2 hH2 hS2 => ?_)
    refine lv_istore (lv' := (7, .int r) :: (6, .int 0) :: [(0, .ref b), (1, .ref (cw_a (cc_w K) 0)), (2, .ref (cw_a (cr_w K) 0)), (3, .ref qo), (4, .ref qd), (5, .int (nI n))]) X.1.1 X.1.2.1 dL_law_579 hl1 (by decide) rfl (fun ls2 hl2 => ?_)
    refine lv_aload_n X.1.1 X.1.2.1 dL_law_581 rfl (lv_at hl2 4 rfl) ?_
    refine la_thrown X hH2 hS2 hc hl2.1 (Nat.le_of_ble_eq_true rfl) dL_law_582 (fun H3 locs3 hH3 hS3 => ?_)
    refine lv_iload X.1.1 X.1.2.1 dL_law_585 (lv_at hl2 1 rfl) ?_
    refine lv_icmp_eq (tgt := 592) X.1.1 X.1.2.1 dL_law_587 (by decide) (fun _ => ?_) (fun y => absurd h3 y)
    refine lv_iload X.1.1 X.1.2.1 dL_law_592 (lv_at hl2 1 rfl) ?_
    have hg : W p K.1 e room_1 s m #[.ref b] below meth c H3 locs3 (cells + 1) (slots + 6) Q (F0 m 609 ls2 []) := lv_goto (tgt := 2884) X.1.1 X.1.2.1 dL_law_609 (by decide) (kk _ _ _ _ _ _ _ hH3 hS3 h4 (la_lv (la_lv hl2)))
    refine lv_if_ne (tgt := 609) X.1.1 X.1.2.1 dL_law_594 (by decide) (fun y => absurd rfl y) (fun _ => ?_)
    refine lv_aload_n X.1.1 X.1.2.1 dL_law_597 rfl (lv_at hl2 5 rfl) ?_
    refine lv_iconst (v := 0) X.1.1 X.1.2.1 dL_law_598 (by decide) ?_
    refine va_lald X.1.1 X.1.2.1 X.2.2.2.2.2.2.1 hH3.2.2.1 0 0 rfl rfl (vp_in_nI (n := 0) (N := 1) (by omega) (by omega)) dL_law_599 ?_
    refine lv_iload X.1.1 X.1.2.1 dL_law_600 (lv_at hl2 0 rfl) ?_
    refine lv_i2l (v := r.toInt64) X.1.1 X.1.2.1 dL_law_602 rfl ?_
    refine W.lcmp X.1.1 X.1.2.1 dL_law_603 ?_
    exact lv_if_eq (tgt := 609) X.1.1 X.1.2.1 dL_law_604 (by decide) (fun _ => hg) (fun y => absurd (la_cmp _) y)
  · refine lv_aload_n X.1.1 X.1.2.1 dL_law_544 rfl (lv_at hl 1 rfl) ?_
    refine la_arg (j := 1) X hS (lv_at hl 0 rfl) (lv_at hl 5 rfl) (by omega) hn.2 (by decide) dL_law_545 dL_law_546 dL_law_548 dL_law_549 dL_law_550 ?_
    refine la_arg (j := 2) X hS (lv_at hl 0 rfl) (lv_at hl 5 rfl) (by omega) hn.2 (by decide) dL_law_551 dL_law_552 dL_law_554 dL_law_555 dL_law_556 ?_
    refine lv_aload_n X.1.1 X.1.2.1 dL_law_557 rfl (lv_at hl 3 rfl) ?_
    refine la_callW (M2 := mL_nameByte) (n2 := 4) (As := [.ref (cw_a (cc_w K) 0), .int (xs (n + 1)), .int (xs (n + 2)), .ref qo]) (hh := [(0, 10, 13, 29)]) X hH hS (wr_nameByte_x1 h1) ⟨_, rfl⟩ (by decide +kernel) rfl gT_L_nameByte ⟨Nat.le_of_ble_eq_true rfl, Nat.le_of_ble_eq_true rfl⟩ hc hl.1 rfl (Nat.le_of_ble_eq_true rfl) dL_law_558 (fun H1 locs1 hH1 hS1 => ?_)
    refine lv_istore (lv' := (6, .int 1) :: [(0, .ref b), (1, .ref (cw_a (cc_w K) 0)), (2, .ref (cw_a (cr_w K) 0)), (3, .ref qo), (4, .ref qd), (5, .int (nI n))]) X.1.1 X.1.2.1 dL_law_561 hl (by decide) rfl (fun ls1 hl1 => ?_)
    refine lv_aload_n X.1.1 X.1.2.1 dL_law_563 rfl (lv_at hl1 3 rfl) ?_
    refine la_arg (j := 1) X hS1 (lv_at hl1 1 rfl) (lv_at hl1 6 rfl) (by omega) hn.2 (by decide) dL_law_564 dL_law_565 dL_law_567 dL_law_568 dL_law_569 ?_
    refine la_arg (j := 2) X hS1 (lv_at hl1 1 rfl) (lv_at hl1 6 rfl) (by omega) hn.2 (by decide) dL_law_570 dL_law_571 dL_law_573 dL_law_574 dL_law_575 ?_
    refine la_callR (As := [.int (xs (n + 1)), .int (xs (n + 2))]) X hH1 hS1 h2 okX11_nameByte rfl rfl gT_X11_nameByte ⟨Nat.le_of_ble_eq_true rfl, Nat.le_of_ble_eq_true rfl⟩ hc hl1.1 rfl (Nat.le_of_ble_eq_true rfl) dL_law_576 (fun H2 locs2 hH2 hS2 => ?_)
    refine lv_istore (lv' := (7, .int r) :: (6, .int 1) :: [(0, .ref b), (1, .ref (cw_a (cc_w K) 0)), (2, .ref (cw_a (cr_w K) 0)), (3, .ref qo), (4, .ref qd), (5, .int (nI n))]) X.1.1 X.1.2.1 dL_law_579 hl1 (by decide) rfl (fun ls2 hl2 => ?_)
    refine lv_aload_n X.1.1 X.1.2.1 dL_law_581 rfl (lv_at hl2 4 rfl) ?_
    refine la_thrown X hH2 hS2 hc hl2.1 (Nat.le_of_ble_eq_true rfl) dL_law_582 (fun H3 locs3 hH3 hS3 => ?_)
    refine lv_iload X.1.1 X.1.2.1 dL_law_585 (lv_at hl2 1 rfl) ?_
    refine lv_icmp_eq (tgt := 592) X.1.1 X.1.2.1 dL_law_587 (by decide) (fun _ => ?_) (fun y => absurd h3 y)
    refine lv_iload X.1.1 X.1.2.1 dL_law_592 (lv_at hl2 1 rfl) ?_
    have hg : W p K.1 e room_1 s m #[.ref b] below meth c H3 locs3 (cells + 1) (slots + 6) Q (F0 m 609 ls2 []) := lv_goto (tgt := 2884) X.1.1 X.1.2.1 dL_law_609 (by decide) (kk _ _ _ _ _ _ _ hH3 hS3 h4 (la_lv (la_lv hl2)))
    exact lv_if_ne (tgt := 609) X.1.1 X.1.2.1 dL_law_594 (by decide) (fun _ => hg) (fun y => absurd y (by decide))
theorem lc_8 (X : la_X K p s m meth c b L xs qo qd cl cd) (F : la_F K) (hc : cells + 1 ≤ 1088 ∧ slots + 6 ≤ 17909) (hn : n + 6 ≤ L ∧ L ≤ 3072) (kk : la_T K p e s m below meth c b qo qd cl cd Q n (cells + 1) (slots + 6) 2884) : la_T K p e s m below meth c b qo qd cl cd Q n cells slots 612 := by
  intro H locs ls I J f g hH hS hR hl
  rcases ca_findSibling (K := K) F.1 F.2.1 hR with ⟨r, I2, J2, h1, h2, h3, h4⟩ | ⟨r, I2, J2, h1, h2, h3, h4⟩
  · refine lv_aload_n X.1.1 X.1.2.1 dL_law_612 rfl (lv_at hl 1 rfl) ?_
    refine lv_aload_n X.1.1 X.1.2.1 dL_law_613 rfl (lv_at hl 3 rfl) ?_
    refine la_callW (M2 := mL_findSibling) (n2 := 2) (As := [.ref (cw_a (cc_w K) 0), .ref qo]) (hh := [(0, 8, 11, 34)]) X hH hS (wr_findSibling_ok h1) (nse_head (by decide +kernel)) (by decide +kernel) rfl gT_L_findSibling ⟨Nat.le_of_ble_eq_true rfl, Nat.le_of_ble_eq_true rfl⟩ hc hl.1 rfl (Nat.le_of_ble_eq_true rfl) dL_law_614 (fun H1 locs1 hH1 hS1 => ?_)
    refine lv_istore (lv' := (6, .int 0) :: [(0, .ref b), (1, .ref (cw_a (cc_w K) 0)), (2, .ref (cw_a (cr_w K) 0)), (3, .ref qo), (4, .ref qd), (5, .int (nI n))]) X.1.1 X.1.2.1 dL_law_617 hl (by decide) rfl (fun ls1 hl1 => ?_)
    refine lv_aload_n X.1.1 X.1.2.1 dL_law_619 rfl (lv_at hl1 3 rfl) ?_
    refine la_callR (As := []) X hH1 hS1 h2 okX11_findSibling rfl rfl gT_X11_findSibling ⟨Nat.le_of_ble_eq_true rfl, Nat.le_of_ble_eq_true rfl⟩ hc hl1.1 rfl (Nat.le_of_ble_eq_true rfl) dL_law_620 (fun H2 locs2 hH2 hS2 => ?_)
    refine lv_istore (lv' := (7, .int r) :: (6, .int 0) :: [(0, .ref b), (1, .ref (cw_a (cc_w K) 0)), (2, .ref (cw_a (cr_w K) 0)), (3, .ref qo), (4, .ref qd), (5, .int (nI n))]) X.1.1 X.1.2.1 dL_law_623 hl1 (by decide) rfl (fun ls2 hl2 => ?_)
    refine lv_aload_n X.1.1 X.1.2.1 dL_law_625 rfl (lv_at hl2 4 rfl) ?_
    refine la_thrown X hH2 hS2 hc hl2.1 (Nat.le_of_ble_eq_true rfl) dL_law_626 (fun H3 locs3 hH3 hS3 => ?_)
    refine lv_iload X.1.1 X.1.2.1 dL_law_629 (lv_at hl2 1 rfl) ?_
    refine lv_icmp_eq (tgt := 636) X.1.1 X.1.2.1 dL_law_631 (by decide) (fun _ => ?_) (fun y => absurd h3 y)
    refine lv_iload X.1.1 X.1.2.1 dL_law_636 (lv_at hl2 1 rfl) ?_
    have hg : W p K.1 e room_1 s m #[.ref b] below meth c H3 locs3 (cells + 1) (slots + 6) Q (F0 m 653 ls2 []) := lv_goto (tgt := 2884) X.1.1 X.1.2.1 dL_law_653 (by decide) (kk _ _ _ _ _ _ _ hH3 hS3 h4 (la_lv (la_lv hl2)))
    refine lv_if_ne (tgt := 653) X.1.1 X.1.2.1 dL_law_638 (by decide) (fun y => absurd rfl y) (fun _ => ?_)
    refine lv_aload_n X.1.1 X.1.2.1 dL_law_641 rfl (lv_at hl2 5 rfl) ?_
    refine lv_iconst (v := 0) X.1.1 X.1.2.1 dL_law_642 (by decide) ?_
    refine va_lald X.1.1 X.1.2.1 X.2.2.2.2.2.2.1 hH3.2.2.1 0 0 rfl rfl (vp_in_nI (n := 0) (N := 1) (by omega) (by omega)) dL_law_643 ?_
    refine lv_iload X.1.1 X.1.2.1 dL_law_644 (lv_at hl2 0 rfl) ?_
    refine lv_i2l (v := r.toInt64) X.1.1 X.1.2.1 dL_law_646 rfl ?_
    refine W.lcmp X.1.1 X.1.2.1 dL_law_647 ?_
    exact lv_if_eq (tgt := 653) X.1.1 X.1.2.1 dL_law_648 (by decide) (fun _ => hg) (fun y => absurd (la_cmp _) y)
  · refine lv_aload_n X.1.1 X.1.2.1 dL_law_612 rfl (lv_at hl 1 rfl) ?_
    refine lv_aload_n X.1.1 X.1.2.1 dL_law_613 rfl (lv_at hl 3 rfl) ?_
    refine la_callW (M2 := mL_findSibling) (n2 := 2) (As := [.ref (cw_a (cc_w K) 0), .ref qo]) (hh := [(0, 8, 11, 34)]) X hH hS (wr_findSibling_x1 h1) (nse_head (by decide +kernel)) (by decide +kernel) rfl gT_L_findSibling ⟨Nat.le_of_ble_eq_true rfl, Nat.le_of_ble_eq_true rfl⟩ hc hl.1 rfl (Nat.le_of_ble_eq_true rfl) dL_law_614 (fun H1 locs1 hH1 hS1 => ?_)
    refine lv_istore (lv' := (6, .int 1) :: [(0, .ref b), (1, .ref (cw_a (cc_w K) 0)), (2, .ref (cw_a (cr_w K) 0)), (3, .ref qo), (4, .ref qd), (5, .int (nI n))]) X.1.1 X.1.2.1 dL_law_617 hl (by decide) rfl (fun ls1 hl1 => ?_)
    refine lv_aload_n X.1.1 X.1.2.1 dL_law_619 rfl (lv_at hl1 3 rfl) ?_
    refine la_callR (As := []) X hH1 hS1 h2 okX11_findSibling rfl rfl gT_X11_findSibling ⟨Nat.le_of_ble_eq_true rfl, Nat.le_of_ble_eq_true rfl⟩ hc hl1.1 rfl (Nat.le_of_ble_eq_true rfl) dL_law_620 (fun H2 locs2 hH2 hS2 => ?_)
    refine lv_istore (lv' := (7, .int r) :: (6, .int 1) :: [(0, .ref b), (1, .ref (cw_a (cc_w K) 0)), (2, .ref (cw_a (cr_w K) 0)), (3, .ref qo), (4, .ref qd), (5, .int (nI n))]) X.1.1 X.1.2.1 dL_law_623 hl1 (by decide) rfl (fun ls2 hl2 => ?_)
    refine lv_aload_n X.1.1 X.1.2.1 dL_law_625 rfl (lv_at hl2 4 rfl) ?_
    refine la_thrown X hH2 hS2 hc hl2.1 (Nat.le_of_ble_eq_true rfl) dL_law_626 (fun H3 locs3 hH3 hS3 => ?_)
    refine lv_iload X.1.1 X.1.2.1 dL_law_629 (lv_at hl2 1 rfl) ?_
    refine lv_icmp_eq (tgt := 636) X.1.1 X.1.2.1 dL_law_631 (by decide) (fun _ => ?_) (fun y => absurd h3 y)
    refine lv_iload X.1.1 X.1.2.1 dL_law_636 (lv_at hl2 1 rfl) ?_
    have hg : W p K.1 e room_1 s m #[.ref b] below meth c H3 locs3 (cells + 1) (slots + 6) Q (F0 m 653 ls2 []) := lv_goto (tgt := 2884) X.1.1 X.1.2.1 dL_law_653 (by decide) (kk _ _ _ _ _ _ _ hH3 hS3 h4 (la_lv (la_lv hl2)))
    exact lv_if_ne (tgt := 653) X.1.1 X.1.2.1 dL_law_638 (by decide) (fun _ => hg) (fun y => absurd y (by decide))
theorem lc_9 (X : la_X K p s m meth c b L xs qo qd cl cd) (F : la_F K) (hc : cells + 1 ≤ 1088 ∧ slots + 6 ≤ 17909) (hn : n + 6 ≤ L ∧ L ≤ 3072) (kk : la_T K p e s m below meth c b qo qd cl cd Q n (cells + 1) (slots + 6) 2884) : la_T K p e s m below meth c b qo qd cl cd Q n cells slots 656 := by
  intro H locs ls I J f g hH hS hR hl
  rcases ca_value (K := K) F.1 F.2.1 hR (x := xs (n + 1)) (y := xs (n + 2)) with ⟨r, I2, J2, h1, h2, h3, h4⟩ | ⟨r, I2, J2, h1, h2, h3, h4⟩
  · refine lv_aload_n X.1.1 X.1.2.1 dL_law_656 rfl (lv_at hl 1 rfl) ?_
    refine la_arg (j := 1) X hS (lv_at hl 0 rfl) (lv_at hl 5 rfl) (by omega) hn.2 (by decide) dL_law_657 dL_law_658 dL_law_660 dL_law_661 dL_law_662 ?_
    refine la_arg (j := 2) X hS (lv_at hl 0 rfl) (lv_at hl 5 rfl) (by omega) hn.2 (by decide) dL_law_663 dL_law_664 dL_law_666 dL_law_667 dL_law_668 ?_
    refine lv_aload_n X.1.1 X.1.2.1 dL_law_669 rfl (lv_at hl 3 rfl) ?_
    refine la_callW (M2 := mL_value) (n2 := 4) (As := [.ref (cw_a (cc_w K) 0), .int (xs (n + 1)), .int (xs (n + 2)), .ref qo]) (hh := [(0, 10, 13, 29)]) X hH hS (wr_value_ok h1) ⟨_, rfl⟩ (by decide +kernel) rfl gT_L_value ⟨Nat.le_of_ble_eq_true rfl, Nat.le_of_ble_eq_true rfl⟩ hc hl.1 rfl (Nat.le_of_ble_eq_true rfl) dL_law_670 (fun H1 locs1 hH1 hS1 => ?_)
    refine lv_istore (lv' := (6, .int 0) :: [(0, .ref b), (1, .ref (cw_a (cc_w K) 0)), (2, .ref (cw_a (cr_w K) 0)), (3, .ref qo), (4, .ref qd), (5, .int (nI n))]) X.1.1 X.1.2.1 dL_law_673 hl (by decide) rfl (fun ls1 hl1 => ?_)
    refine lv_aload_n X.1.1 X.1.2.1 dL_law_675 rfl (lv_at hl1 3 rfl) ?_
    refine la_arg (j := 1) X hS1 (lv_at hl1 1 rfl) (lv_at hl1 6 rfl) (by omega) hn.2 (by decide) dL_law_676 dL_law_677 dL_law_679 dL_law_680 dL_law_681 ?_
    refine la_arg (j := 2) X hS1 (lv_at hl1 1 rfl) (lv_at hl1 6 rfl) (by omega) hn.2 (by decide) dL_law_682 dL_law_683 dL_law_685 dL_law_686 dL_law_687 ?_
    refine la_callR (As := [.int (xs (n + 1)), .int (xs (n + 2))]) X hH1 hS1 h2 okX11_value rfl rfl gT_X11_value ⟨Nat.le_of_ble_eq_true rfl, Nat.le_of_ble_eq_true rfl⟩ hc hl1.1 rfl (Nat.le_of_ble_eq_true rfl) dL_law_688 (fun H2 locs2 hH2 hS2 => ?_)
    refine lv_istore (lv' := (7, .int r) :: (6, .int 0) :: [(0, .ref b), (1, .ref (cw_a (cc_w K) 0)), (2, .ref (cw_a (cr_w K) 0)), (3, .ref qo), (4, .ref qd), (5, .int (nI n))]) X.1.1 X.1.2.1 dL_law_691 hl1 (by decide) rfl (fun ls2 hl2 => ?_)
    refine lv_aload_n X.1.1 X.1.2.1 dL_law_693 rfl (lv_at hl2 4 rfl) ?_
    refine la_thrown X hH2 hS2 hc hl2.1 (Nat.le_of_ble_eq_true rfl) dL_law_694 (fun H3 locs3 hH3 hS3 => ?_)
    refine lv_iload X.1.1 X.1.2.1 dL_law_697 (lv_at hl2 1 rfl) ?_
    refine lv_icmp_eq (tgt := 704) X.1.1 X.1.2.1 dL_law_699 (by decide) (fun _ => ?_) (fun y => absurd h3 y)
    refine lv_iload X.1.1 X.1.2.1 dL_law_704 (lv_at hl2 1 rfl) ?_
    have hg : W p K.1 e room_1 s m #[.ref b] below meth c H3 locs3 (cells + 1) (slots + 6) Q (F0 m 721 ls2 []) := lv_goto (tgt := 2884) X.1.1 X.1.2.1 dL_law_721 (by decide) (kk _ _ _ _ _ _ _ hH3 hS3 h4 (la_lv (la_lv hl2)))
    refine lv_if_ne (tgt := 721) X.1.1 X.1.2.1 dL_law_706 (by decide) (fun y => absurd rfl y) (fun _ => ?_)
    refine lv_aload_n X.1.1 X.1.2.1 dL_law_709 rfl (lv_at hl2 5 rfl) ?_
    refine lv_iconst (v := 0) X.1.1 X.1.2.1 dL_law_710 (by decide) ?_
    refine va_lald X.1.1 X.1.2.1 X.2.2.2.2.2.2.1 hH3.2.2.1 0 0 rfl rfl (vp_in_nI (n := 0) (N := 1) (by omega) (by omega)) dL_law_711 ?_
    refine lv_iload X.1.1 X.1.2.1 dL_law_712 (lv_at hl2 0 rfl) ?_
    refine lv_i2l (v := r.toInt64) X.1.1 X.1.2.1 dL_law_714 rfl ?_
    refine W.lcmp X.1.1 X.1.2.1 dL_law_715 ?_
    exact lv_if_eq (tgt := 721) X.1.1 X.1.2.1 dL_law_716 (by decide) (fun _ => hg) (fun y => absurd (la_cmp _) y)
  · refine lv_aload_n X.1.1 X.1.2.1 dL_law_656 rfl (lv_at hl 1 rfl) ?_
    refine la_arg (j := 1) X hS (lv_at hl 0 rfl) (lv_at hl 5 rfl) (by omega) hn.2 (by decide) dL_law_657 dL_law_658 dL_law_660 dL_law_661 dL_law_662 ?_
    refine la_arg (j := 2) X hS (lv_at hl 0 rfl) (lv_at hl 5 rfl) (by omega) hn.2 (by decide) dL_law_663 dL_law_664 dL_law_666 dL_law_667 dL_law_668 ?_
    refine lv_aload_n X.1.1 X.1.2.1 dL_law_669 rfl (lv_at hl 3 rfl) ?_
    refine la_callW (M2 := mL_value) (n2 := 4) (As := [.ref (cw_a (cc_w K) 0), .int (xs (n + 1)), .int (xs (n + 2)), .ref qo]) (hh := [(0, 10, 13, 29)]) X hH hS (wr_value_x1 h1) ⟨_, rfl⟩ (by decide +kernel) rfl gT_L_value ⟨Nat.le_of_ble_eq_true rfl, Nat.le_of_ble_eq_true rfl⟩ hc hl.1 rfl (Nat.le_of_ble_eq_true rfl) dL_law_670 (fun H1 locs1 hH1 hS1 => ?_)
    refine lv_istore (lv' := (6, .int 1) :: [(0, .ref b), (1, .ref (cw_a (cc_w K) 0)), (2, .ref (cw_a (cr_w K) 0)), (3, .ref qo), (4, .ref qd), (5, .int (nI n))]) X.1.1 X.1.2.1 dL_law_673 hl (by decide) rfl (fun ls1 hl1 => ?_)
    refine lv_aload_n X.1.1 X.1.2.1 dL_law_675 rfl (lv_at hl1 3 rfl) ?_
    refine la_arg (j := 1) X hS1 (lv_at hl1 1 rfl) (lv_at hl1 6 rfl) (by omega) hn.2 (by decide) dL_law_676 dL_law_677 dL_law_679 dL_law_680 dL_law_681 ?_
    refine la_arg (j := 2) X hS1 (lv_at hl1 1 rfl) (lv_at hl1 6 rfl) (by omega) hn.2 (by decide) dL_law_682 dL_law_683 dL_law_685 dL_law_686 dL_law_687 ?_
    refine la_callR (As := [.int (xs (n + 1)), .int (xs (n + 2))]) X hH1 hS1 h2 okX11_value rfl rfl gT_X11_value ⟨Nat.le_of_ble_eq_true rfl, Nat.le_of_ble_eq_true rfl⟩ hc hl1.1 rfl (Nat.le_of_ble_eq_true rfl) dL_law_688 (fun H2 locs2 hH2 hS2 => ?_)
    refine lv_istore (lv' := (7, .int r) :: (6, .int 1) :: [(0, .ref b), (1, .ref (cw_a (cc_w K) 0)), (2, .ref (cw_a (cr_w K) 0)), (3, .ref qo), (4, .ref qd), (5, .int (nI n))]) X.1.1 X.1.2.1 dL_law_691 hl1 (by decide) rfl (fun ls2 hl2 => ?_)
    refine lv_aload_n X.1.1 X.1.2.1 dL_law_693 rfl (lv_at hl2 4 rfl) ?_
    refine la_thrown X hH2 hS2 hc hl2.1 (Nat.le_of_ble_eq_true rfl) dL_law_694 (fun H3 locs3 hH3 hS3 => ?_)
    refine lv_iload X.1.1 X.1.2.1 dL_law_697 (lv_at hl2 1 rfl) ?_
    refine lv_icmp_eq (tgt := 704) X.1.1 X.1.2.1 dL_law_699 (by decide) (fun _ => ?_) (fun y => absurd h3 y)
    refine lv_iload X.1.1 X.1.2.1 dL_law_704 (lv_at hl2 1 rfl) ?_
    have hg : W p K.1 e room_1 s m #[.ref b] below meth c H3 locs3 (cells + 1) (slots + 6) Q (F0 m 721 ls2 []) := lv_goto (tgt := 2884) X.1.1 X.1.2.1 dL_law_721 (by decide) (kk _ _ _ _ _ _ _ hH3 hS3 h4 (la_lv (la_lv hl2)))
    exact lv_if_ne (tgt := 721) X.1.1 X.1.2.1 dL_law_706 (by decide) (fun _ => hg) (fun y => absurd y (by decide))
theorem lc_10 (X : la_X K p s m meth c b L xs qo qd cl cd) (F : la_F K) (hc : cells + 1 ≤ 1088 ∧ slots + 6 ≤ 17909) (hn : n + 6 ≤ L ∧ L ≤ 3072) (kk : la_T K p e s m below meth c b qo qd cl cd Q n (cells + 1) (slots + 6) 2884) : la_T K p e s m below meth c b qo qd cl cd Q n cells slots 724 := by
  intro H locs ls I J f g hH hS hR hl
  rcases ca_owner (K := K) F.1 F.2.1 hR (x := xs (n + 1)) with ⟨r, I2, J2, h1, h2, h3, h4⟩ | ⟨r, I2, J2, h1, h2, h3, h4⟩
  · refine lv_aload_n X.1.1 X.1.2.1 dL_law_724 rfl (lv_at hl 1 rfl) ?_
    refine la_arg (j := 1) X hS (lv_at hl 0 rfl) (lv_at hl 5 rfl) (by omega) hn.2 (by decide) dL_law_725 dL_law_726 dL_law_728 dL_law_729 dL_law_730 ?_
    refine lv_aload_n X.1.1 X.1.2.1 dL_law_731 rfl (lv_at hl 3 rfl) ?_
    refine la_callW (M2 := mL_owner) (n2 := 3) (As := [.ref (cw_a (cc_w K) 0), .int (xs (n + 1)), .ref qo]) (hh := [(0, 9, 12, 29)]) X hH hS (wr_owner_ok h1) ⟨_, rfl⟩ (by decide +kernel) rfl gT_L_owner ⟨Nat.le_of_ble_eq_true rfl, Nat.le_of_ble_eq_true rfl⟩ hc hl.1 rfl (Nat.le_of_ble_eq_true rfl) dL_law_732 (fun H1 locs1 hH1 hS1 => ?_)
    refine lv_istore (lv' := (6, .int 0) :: [(0, .ref b), (1, .ref (cw_a (cc_w K) 0)), (2, .ref (cw_a (cr_w K) 0)), (3, .ref qo), (4, .ref qd), (5, .int (nI n))]) X.1.1 X.1.2.1 dL_law_735 hl (by decide) rfl (fun ls1 hl1 => ?_)
    refine lv_aload_n X.1.1 X.1.2.1 dL_law_737 rfl (lv_at hl1 3 rfl) ?_
    refine la_arg (j := 1) X hS1 (lv_at hl1 1 rfl) (lv_at hl1 6 rfl) (by omega) hn.2 (by decide) dL_law_738 dL_law_739 dL_law_741 dL_law_742 dL_law_743 ?_
    refine la_callR (As := [.int (xs (n + 1))]) X hH1 hS1 h2 okX11_owner rfl rfl gT_X11_owner ⟨Nat.le_of_ble_eq_true rfl, Nat.le_of_ble_eq_true rfl⟩ hc hl1.1 rfl (Nat.le_of_ble_eq_true rfl) dL_law_744 (fun H2 locs2 hH2 hS2 => ?_)
    refine lv_istore (lv' := (7, .int r) :: (6, .int 0) :: [(0, .ref b), (1, .ref (cw_a (cc_w K) 0)), (2, .ref (cw_a (cr_w K) 0)), (3, .ref qo), (4, .ref qd), (5, .int (nI n))]) X.1.1 X.1.2.1 dL_law_747 hl1 (by decide) rfl (fun ls2 hl2 => ?_)
    refine lv_aload_n X.1.1 X.1.2.1 dL_law_749 rfl (lv_at hl2 4 rfl) ?_
    refine la_thrown X hH2 hS2 hc hl2.1 (Nat.le_of_ble_eq_true rfl) dL_law_750 (fun H3 locs3 hH3 hS3 => ?_)
    refine lv_iload X.1.1 X.1.2.1 dL_law_753 (lv_at hl2 1 rfl) ?_
    refine lv_icmp_eq (tgt := 760) X.1.1 X.1.2.1 dL_law_755 (by decide) (fun _ => ?_) (fun y => absurd h3 y)
    refine lv_iload X.1.1 X.1.2.1 dL_law_760 (lv_at hl2 1 rfl) ?_
    have hg : W p K.1 e room_1 s m #[.ref b] below meth c H3 locs3 (cells + 1) (slots + 6) Q (F0 m 777 ls2 []) := lv_goto (tgt := 2884) X.1.1 X.1.2.1 dL_law_777 (by decide) (kk _ _ _ _ _ _ _ hH3 hS3 h4 (la_lv (la_lv hl2)))
    refine lv_if_ne (tgt := 777) X.1.1 X.1.2.1 dL_law_762 (by decide) (fun y => absurd rfl y) (fun _ => ?_)
    refine lv_aload_n X.1.1 X.1.2.1 dL_law_765 rfl (lv_at hl2 5 rfl) ?_
    refine lv_iconst (v := 0) X.1.1 X.1.2.1 dL_law_766 (by decide) ?_
    refine va_lald X.1.1 X.1.2.1 X.2.2.2.2.2.2.1 hH3.2.2.1 0 0 rfl rfl (vp_in_nI (n := 0) (N := 1) (by omega) (by omega)) dL_law_767 ?_
    refine lv_iload X.1.1 X.1.2.1 dL_law_768 (lv_at hl2 0 rfl) ?_
    refine lv_i2l (v := r.toInt64) X.1.1 X.1.2.1 dL_law_770 rfl ?_
    refine W.lcmp X.1.1 X.1.2.1 dL_law_771 ?_
    exact lv_if_eq (tgt := 777) X.1.1 X.1.2.1 dL_law_772 (by decide) (fun _ => hg) (fun y => absurd (la_cmp _) y)
  · refine lv_aload_n X.1.1 X.1.2.1 dL_law_724 rfl (lv_at hl 1 rfl) ?_
    refine la_arg (j := 1) X hS (lv_at hl 0 rfl) (lv_at hl 5 rfl) (by omega) hn.2 (by decide) dL_law_725 dL_law_726 dL_law_728 dL_law_729 dL_law_730 ?_
    refine lv_aload_n X.1.1 X.1.2.1 dL_law_731 rfl (lv_at hl 3 rfl) ?_
    refine la_callW (M2 := mL_owner) (n2 := 3) (As := [.ref (cw_a (cc_w K) 0), .int (xs (n + 1)), .ref qo]) (hh := [(0, 9, 12, 29)]) X hH hS (wr_owner_x1 h1) ⟨_, rfl⟩ (by decide +kernel) rfl gT_L_owner ⟨Nat.le_of_ble_eq_true rfl, Nat.le_of_ble_eq_true rfl⟩ hc hl.1 rfl (Nat.le_of_ble_eq_true rfl) dL_law_732 (fun H1 locs1 hH1 hS1 => ?_)
    refine lv_istore (lv' := (6, .int 1) :: [(0, .ref b), (1, .ref (cw_a (cc_w K) 0)), (2, .ref (cw_a (cr_w K) 0)), (3, .ref qo), (4, .ref qd), (5, .int (nI n))]) X.1.1 X.1.2.1 dL_law_735 hl (by decide) rfl (fun ls1 hl1 => ?_)
    refine lv_aload_n X.1.1 X.1.2.1 dL_law_737 rfl (lv_at hl1 3 rfl) ?_
    refine la_arg (j := 1) X hS1 (lv_at hl1 1 rfl) (lv_at hl1 6 rfl) (by omega) hn.2 (by decide) dL_law_738 dL_law_739 dL_law_741 dL_law_742 dL_law_743 ?_
    refine la_callR (As := [.int (xs (n + 1))]) X hH1 hS1 h2 okX11_owner rfl rfl gT_X11_owner ⟨Nat.le_of_ble_eq_true rfl, Nat.le_of_ble_eq_true rfl⟩ hc hl1.1 rfl (Nat.le_of_ble_eq_true rfl) dL_law_744 (fun H2 locs2 hH2 hS2 => ?_)
    refine lv_istore (lv' := (7, .int r) :: (6, .int 1) :: [(0, .ref b), (1, .ref (cw_a (cc_w K) 0)), (2, .ref (cw_a (cr_w K) 0)), (3, .ref qo), (4, .ref qd), (5, .int (nI n))]) X.1.1 X.1.2.1 dL_law_747 hl1 (by decide) rfl (fun ls2 hl2 => ?_)
    refine lv_aload_n X.1.1 X.1.2.1 dL_law_749 rfl (lv_at hl2 4 rfl) ?_
    refine la_thrown X hH2 hS2 hc hl2.1 (Nat.le_of_ble_eq_true rfl) dL_law_750 (fun H3 locs3 hH3 hS3 => ?_)
    refine lv_iload X.1.1 X.1.2.1 dL_law_753 (lv_at hl2 1 rfl) ?_
    refine lv_icmp_eq (tgt := 760) X.1.1 X.1.2.1 dL_law_755 (by decide) (fun _ => ?_) (fun y => absurd h3 y)
    refine lv_iload X.1.1 X.1.2.1 dL_law_760 (lv_at hl2 1 rfl) ?_
    have hg : W p K.1 e room_1 s m #[.ref b] below meth c H3 locs3 (cells + 1) (slots + 6) Q (F0 m 777 ls2 []) := lv_goto (tgt := 2884) X.1.1 X.1.2.1 dL_law_777 (by decide) (kk _ _ _ _ _ _ _ hH3 hS3 h4 (la_lv (la_lv hl2)))
    exact lv_if_ne (tgt := 777) X.1.1 X.1.2.1 dL_law_762 (by decide) (fun _ => hg) (fun y => absurd y (by decide))
theorem lc_11 (X : la_X K p s m meth c b L xs qo qd cl cd) (F : la_F K) (hc : cells + 1 ≤ 1088 ∧ slots + 6 ≤ 17909) (hn : n + 6 ≤ L ∧ L ≤ 3072) (kk : la_T K p e s m below meth c b qo qd cl cd Q n (cells + 1) (slots + 6) 2884) : la_T K p e s m below meth c b qo qd cl cd Q n cells slots 780 := by
  intro H locs ls I J f g hH hS hR hl
  rcases ca_worth (K := K) F.1 F.2.1 hR (x := xs (n + 1)) (y := xs (n + 2)) (z := xs (n + 3)) with ⟨r, I2, J2, h1, h2, h3, h4⟩ | ⟨r, I2, J2, h1, h2, h3, h4⟩ | ⟨r, I2, J2, h1, h2, h3, h4⟩
  · refine lv_aload_n X.1.1 X.1.2.1 dL_law_780 rfl (lv_at hl 1 rfl) ?_
    refine la_arg (j := 1) X hS (lv_at hl 0 rfl) (lv_at hl 5 rfl) (by omega) hn.2 (by decide) dL_law_781 dL_law_782 dL_law_784 dL_law_785 dL_law_786 ?_
    refine la_arg (j := 2) X hS (lv_at hl 0 rfl) (lv_at hl 5 rfl) (by omega) hn.2 (by decide) dL_law_787 dL_law_788 dL_law_790 dL_law_791 dL_law_792 ?_
    refine la_arg (j := 3) X hS (lv_at hl 0 rfl) (lv_at hl 5 rfl) (by omega) hn.2 (by decide) dL_law_793 dL_law_794 dL_law_796 dL_law_797 dL_law_798 ?_
    refine lv_aload_n X.1.1 X.1.2.1 dL_law_799 rfl (lv_at hl 3 rfl) ?_
    refine la_callW (M2 := mL_worth) (n2 := 5) (As := [.ref (cw_a (cc_w K) 0), .int (xs (n + 1)), .int (xs (n + 2)), .int (xs (n + 3)), .ref qo]) (hh := [(0, 12, 15, 29), (0, 12, 19, 19)]) X hH hS (wr_worth_ok h1) ⟨_, rfl⟩ (by decide +kernel) rfl gT_L_worth ⟨Nat.le_of_ble_eq_true rfl, Nat.le_of_ble_eq_true rfl⟩ hc hl.1 rfl (Nat.le_of_ble_eq_true rfl) dL_law_800 (fun H1 locs1 hH1 hS1 => ?_)
    refine lv_istore (lv' := (6, .int 0) :: [(0, .ref b), (1, .ref (cw_a (cc_w K) 0)), (2, .ref (cw_a (cr_w K) 0)), (3, .ref qo), (4, .ref qd), (5, .int (nI n))]) X.1.1 X.1.2.1 dL_law_803 hl (by decide) rfl (fun ls1 hl1 => ?_)
    refine lv_aload_n X.1.1 X.1.2.1 dL_law_805 rfl (lv_at hl1 3 rfl) ?_
    refine la_arg (j := 1) X hS1 (lv_at hl1 1 rfl) (lv_at hl1 6 rfl) (by omega) hn.2 (by decide) dL_law_806 dL_law_807 dL_law_809 dL_law_810 dL_law_811 ?_
    refine la_arg (j := 2) X hS1 (lv_at hl1 1 rfl) (lv_at hl1 6 rfl) (by omega) hn.2 (by decide) dL_law_812 dL_law_813 dL_law_815 dL_law_816 dL_law_817 ?_
    refine la_arg (j := 3) X hS1 (lv_at hl1 1 rfl) (lv_at hl1 6 rfl) (by omega) hn.2 (by decide) dL_law_818 dL_law_819 dL_law_821 dL_law_822 dL_law_823 ?_
    refine la_callR (As := [.int (xs (n + 1)), .int (xs (n + 2)), .int (xs (n + 3))]) X hH1 hS1 h2 okX11_worth rfl rfl gT_X11_worth ⟨Nat.le_of_ble_eq_true rfl, Nat.le_of_ble_eq_true rfl⟩ hc hl1.1 rfl (Nat.le_of_ble_eq_true rfl) dL_law_824 (fun H2 locs2 hH2 hS2 => ?_)
    refine lv_istore (lv' := (7, .int r) :: (6, .int 0) :: [(0, .ref b), (1, .ref (cw_a (cc_w K) 0)), (2, .ref (cw_a (cr_w K) 0)), (3, .ref qo), (4, .ref qd), (5, .int (nI n))]) X.1.1 X.1.2.1 dL_law_827 hl1 (by decide) rfl (fun ls2 hl2 => ?_)
    refine lv_aload_n X.1.1 X.1.2.1 dL_law_829 rfl (lv_at hl2 4 rfl) ?_
    refine la_thrown X hH2 hS2 hc hl2.1 (Nat.le_of_ble_eq_true rfl) dL_law_830 (fun H3 locs3 hH3 hS3 => ?_)
    refine lv_iload X.1.1 X.1.2.1 dL_law_833 (lv_at hl2 1 rfl) ?_
    refine lv_icmp_eq (tgt := 840) X.1.1 X.1.2.1 dL_law_835 (by decide) (fun _ => ?_) (fun y => absurd h3 y)
    refine lv_iload X.1.1 X.1.2.1 dL_law_840 (lv_at hl2 1 rfl) ?_
    have hg : W p K.1 e room_1 s m #[.ref b] below meth c H3 locs3 (cells + 1) (slots + 6) Q (F0 m 857 ls2 []) := lv_goto (tgt := 2884) X.1.1 X.1.2.1 dL_law_857 (by decide) (kk _ _ _ _ _ _ _ hH3 hS3 h4 (la_lv (la_lv hl2)))
    refine lv_if_ne (tgt := 857) X.1.1 X.1.2.1 dL_law_842 (by decide) (fun y => absurd rfl y) (fun _ => ?_)
    refine lv_aload_n X.1.1 X.1.2.1 dL_law_845 rfl (lv_at hl2 5 rfl) ?_
    refine lv_iconst (v := 0) X.1.1 X.1.2.1 dL_law_846 (by decide) ?_
    refine va_lald X.1.1 X.1.2.1 X.2.2.2.2.2.2.1 hH3.2.2.1 0 0 rfl rfl (vp_in_nI (n := 0) (N := 1) (by omega) (by omega)) dL_law_847 ?_
    refine lv_iload X.1.1 X.1.2.1 dL_law_848 (lv_at hl2 0 rfl) ?_
    refine lv_i2l (v := r.toInt64) X.1.1 X.1.2.1 dL_law_850 rfl ?_
    refine W.lcmp X.1.1 X.1.2.1 dL_law_851 ?_
    exact lv_if_eq (tgt := 857) X.1.1 X.1.2.1 dL_law_852 (by decide) (fun _ => hg) (fun y => absurd (la_cmp _) y)
  · refine lv_aload_n X.1.1 X.1.2.1 dL_law_780 rfl (lv_at hl 1 rfl) ?_
    refine la_arg (j := 1) X hS (lv_at hl 0 rfl) (lv_at hl 5 rfl) (by omega) hn.2 (by decide) dL_law_781 dL_law_782 dL_law_784 dL_law_785 dL_law_786 ?_
    refine la_arg (j := 2) X hS (lv_at hl 0 rfl) (lv_at hl 5 rfl) (by omega) hn.2 (by decide) dL_law_787 dL_law_788 dL_law_790 dL_law_791 dL_law_792 ?_
    refine la_arg (j := 3) X hS (lv_at hl 0 rfl) (lv_at hl 5 rfl) (by omega) hn.2 (by decide) dL_law_793 dL_law_794 dL_law_796 dL_law_797 dL_law_798 ?_
    refine lv_aload_n X.1.1 X.1.2.1 dL_law_799 rfl (lv_at hl 3 rfl) ?_
    refine la_callW (M2 := mL_worth) (n2 := 5) (As := [.ref (cw_a (cc_w K) 0), .int (xs (n + 1)), .int (xs (n + 2)), .int (xs (n + 3)), .ref qo]) (hh := [(0, 12, 15, 29), (0, 12, 19, 19)]) X hH hS (wr_worth_x1 h1) ⟨_, rfl⟩ (by decide +kernel) rfl gT_L_worth ⟨Nat.le_of_ble_eq_true rfl, Nat.le_of_ble_eq_true rfl⟩ hc hl.1 rfl (Nat.le_of_ble_eq_true rfl) dL_law_800 (fun H1 locs1 hH1 hS1 => ?_)
    refine lv_istore (lv' := (6, .int 1) :: [(0, .ref b), (1, .ref (cw_a (cc_w K) 0)), (2, .ref (cw_a (cr_w K) 0)), (3, .ref qo), (4, .ref qd), (5, .int (nI n))]) X.1.1 X.1.2.1 dL_law_803 hl (by decide) rfl (fun ls1 hl1 => ?_)
    refine lv_aload_n X.1.1 X.1.2.1 dL_law_805 rfl (lv_at hl1 3 rfl) ?_
    refine la_arg (j := 1) X hS1 (lv_at hl1 1 rfl) (lv_at hl1 6 rfl) (by omega) hn.2 (by decide) dL_law_806 dL_law_807 dL_law_809 dL_law_810 dL_law_811 ?_
    refine la_arg (j := 2) X hS1 (lv_at hl1 1 rfl) (lv_at hl1 6 rfl) (by omega) hn.2 (by decide) dL_law_812 dL_law_813 dL_law_815 dL_law_816 dL_law_817 ?_
    refine la_arg (j := 3) X hS1 (lv_at hl1 1 rfl) (lv_at hl1 6 rfl) (by omega) hn.2 (by decide) dL_law_818 dL_law_819 dL_law_821 dL_law_822 dL_law_823 ?_
    refine la_callR (As := [.int (xs (n + 1)), .int (xs (n + 2)), .int (xs (n + 3))]) X hH1 hS1 h2 okX11_worth rfl rfl gT_X11_worth ⟨Nat.le_of_ble_eq_true rfl, Nat.le_of_ble_eq_true rfl⟩ hc hl1.1 rfl (Nat.le_of_ble_eq_true rfl) dL_law_824 (fun H2 locs2 hH2 hS2 => ?_)
    refine lv_istore (lv' := (7, .int r) :: (6, .int 1) :: [(0, .ref b), (1, .ref (cw_a (cc_w K) 0)), (2, .ref (cw_a (cr_w K) 0)), (3, .ref qo), (4, .ref qd), (5, .int (nI n))]) X.1.1 X.1.2.1 dL_law_827 hl1 (by decide) rfl (fun ls2 hl2 => ?_)
    refine lv_aload_n X.1.1 X.1.2.1 dL_law_829 rfl (lv_at hl2 4 rfl) ?_
    refine la_thrown X hH2 hS2 hc hl2.1 (Nat.le_of_ble_eq_true rfl) dL_law_830 (fun H3 locs3 hH3 hS3 => ?_)
    refine lv_iload X.1.1 X.1.2.1 dL_law_833 (lv_at hl2 1 rfl) ?_
    refine lv_icmp_eq (tgt := 840) X.1.1 X.1.2.1 dL_law_835 (by decide) (fun _ => ?_) (fun y => absurd h3 y)
    refine lv_iload X.1.1 X.1.2.1 dL_law_840 (lv_at hl2 1 rfl) ?_
    have hg : W p K.1 e room_1 s m #[.ref b] below meth c H3 locs3 (cells + 1) (slots + 6) Q (F0 m 857 ls2 []) := lv_goto (tgt := 2884) X.1.1 X.1.2.1 dL_law_857 (by decide) (kk _ _ _ _ _ _ _ hH3 hS3 h4 (la_lv (la_lv hl2)))
    exact lv_if_ne (tgt := 857) X.1.1 X.1.2.1 dL_law_842 (by decide) (fun _ => hg) (fun y => absurd y (by decide))
  · refine lv_aload_n X.1.1 X.1.2.1 dL_law_780 rfl (lv_at hl 1 rfl) ?_
    refine la_arg (j := 1) X hS (lv_at hl 0 rfl) (lv_at hl 5 rfl) (by omega) hn.2 (by decide) dL_law_781 dL_law_782 dL_law_784 dL_law_785 dL_law_786 ?_
    refine la_arg (j := 2) X hS (lv_at hl 0 rfl) (lv_at hl 5 rfl) (by omega) hn.2 (by decide) dL_law_787 dL_law_788 dL_law_790 dL_law_791 dL_law_792 ?_
    refine la_arg (j := 3) X hS (lv_at hl 0 rfl) (lv_at hl 5 rfl) (by omega) hn.2 (by decide) dL_law_793 dL_law_794 dL_law_796 dL_law_797 dL_law_798 ?_
    refine lv_aload_n X.1.1 X.1.2.1 dL_law_799 rfl (lv_at hl 3 rfl) ?_
    refine la_callW (M2 := mL_worth) (n2 := 5) (As := [.ref (cw_a (cc_w K) 0), .int (xs (n + 1)), .int (xs (n + 2)), .int (xs (n + 3)), .ref qo]) (hh := [(0, 12, 15, 29), (0, 12, 19, 19)]) X hH hS (wr_worth_x2 h1) ⟨_, rfl⟩ (by decide +kernel) rfl gT_L_worth ⟨Nat.le_of_ble_eq_true rfl, Nat.le_of_ble_eq_true rfl⟩ hc hl.1 rfl (Nat.le_of_ble_eq_true rfl) dL_law_800 (fun H1 locs1 hH1 hS1 => ?_)
    refine lv_istore (lv' := (6, .int 2) :: [(0, .ref b), (1, .ref (cw_a (cc_w K) 0)), (2, .ref (cw_a (cr_w K) 0)), (3, .ref qo), (4, .ref qd), (5, .int (nI n))]) X.1.1 X.1.2.1 dL_law_803 hl (by decide) rfl (fun ls1 hl1 => ?_)
    refine lv_aload_n X.1.1 X.1.2.1 dL_law_805 rfl (lv_at hl1 3 rfl) ?_
    refine la_arg (j := 1) X hS1 (lv_at hl1 1 rfl) (lv_at hl1 6 rfl) (by omega) hn.2 (by decide) dL_law_806 dL_law_807 dL_law_809 dL_law_810 dL_law_811 ?_
    refine la_arg (j := 2) X hS1 (lv_at hl1 1 rfl) (lv_at hl1 6 rfl) (by omega) hn.2 (by decide) dL_law_812 dL_law_813 dL_law_815 dL_law_816 dL_law_817 ?_
    refine la_arg (j := 3) X hS1 (lv_at hl1 1 rfl) (lv_at hl1 6 rfl) (by omega) hn.2 (by decide) dL_law_818 dL_law_819 dL_law_821 dL_law_822 dL_law_823 ?_
    refine la_callR (As := [.int (xs (n + 1)), .int (xs (n + 2)), .int (xs (n + 3))]) X hH1 hS1 h2 okX11_worth rfl rfl gT_X11_worth ⟨Nat.le_of_ble_eq_true rfl, Nat.le_of_ble_eq_true rfl⟩ hc hl1.1 rfl (Nat.le_of_ble_eq_true rfl) dL_law_824 (fun H2 locs2 hH2 hS2 => ?_)
    refine lv_istore (lv' := (7, .int r) :: (6, .int 2) :: [(0, .ref b), (1, .ref (cw_a (cc_w K) 0)), (2, .ref (cw_a (cr_w K) 0)), (3, .ref qo), (4, .ref qd), (5, .int (nI n))]) X.1.1 X.1.2.1 dL_law_827 hl1 (by decide) rfl (fun ls2 hl2 => ?_)
    refine lv_aload_n X.1.1 X.1.2.1 dL_law_829 rfl (lv_at hl2 4 rfl) ?_
    refine la_thrown X hH2 hS2 hc hl2.1 (Nat.le_of_ble_eq_true rfl) dL_law_830 (fun H3 locs3 hH3 hS3 => ?_)
    refine lv_iload X.1.1 X.1.2.1 dL_law_833 (lv_at hl2 1 rfl) ?_
    refine lv_icmp_eq (tgt := 840) X.1.1 X.1.2.1 dL_law_835 (by decide) (fun _ => ?_) (fun y => absurd h3 y)
    refine lv_iload X.1.1 X.1.2.1 dL_law_840 (lv_at hl2 1 rfl) ?_
    have hg : W p K.1 e room_1 s m #[.ref b] below meth c H3 locs3 (cells + 1) (slots + 6) Q (F0 m 857 ls2 []) := lv_goto (tgt := 2884) X.1.1 X.1.2.1 dL_law_857 (by decide) (kk _ _ _ _ _ _ _ hH3 hS3 h4 (la_lv (la_lv hl2)))
    exact lv_if_ne (tgt := 857) X.1.1 X.1.2.1 dL_law_842 (by decide) (fun _ => hg) (fun y => absurd y (by decide))
theorem lc_12 (X : la_X K p s m meth c b L xs qo qd cl cd) (F : la_F K) (hc : cells + 1 ≤ 1088 ∧ slots + 6 ≤ 17909) (hn : n + 6 ≤ L ∧ L ≤ 3072) (kk : la_T K p e s m below meth c b qo qd cl cd Q n (cells + 1) (slots + 6) 2884) : la_T K p e s m below meth c b qo qd cl cd Q n cells slots 860 := by
  intro H locs ls I J f g hH hS hR hl
  rcases ca_total (K := K) F.1 F.2.1 hR (x := xs (n + 1)) with ⟨r, I2, J2, h1, h2, h3, h4⟩ | ⟨r, I2, J2, h1, h2, h3, h4⟩
  · refine lv_aload_n X.1.1 X.1.2.1 dL_law_860 rfl (lv_at hl 1 rfl) ?_
    refine la_arg (j := 1) X hS (lv_at hl 0 rfl) (lv_at hl 5 rfl) (by omega) hn.2 (by decide) dL_law_861 dL_law_862 dL_law_864 dL_law_865 dL_law_866 ?_
    refine lv_aload_n X.1.1 X.1.2.1 dL_law_867 rfl (lv_at hl 3 rfl) ?_
    refine la_callW (M2 := mL_total) (n2 := 3) (As := [.ref (cw_a (cc_w K) 0), .int (xs (n + 1)), .ref qo]) (hh := [(0, 9, 12, 29)]) X hH hS (wr_total_ok h1) ⟨_, rfl⟩ (by decide +kernel) rfl gT_L_total ⟨Nat.le_of_ble_eq_true rfl, Nat.le_of_ble_eq_true rfl⟩ hc hl.1 rfl (Nat.le_of_ble_eq_true rfl) dL_law_868 (fun H1 locs1 hH1 hS1 => ?_)
    refine lv_istore (lv' := (6, .int 0) :: [(0, .ref b), (1, .ref (cw_a (cc_w K) 0)), (2, .ref (cw_a (cr_w K) 0)), (3, .ref qo), (4, .ref qd), (5, .int (nI n))]) X.1.1 X.1.2.1 dL_law_871 hl (by decide) rfl (fun ls1 hl1 => ?_)
    refine lv_aload_n X.1.1 X.1.2.1 dL_law_873 rfl (lv_at hl1 3 rfl) ?_
    refine la_arg (j := 1) X hS1 (lv_at hl1 1 rfl) (lv_at hl1 6 rfl) (by omega) hn.2 (by decide) dL_law_874 dL_law_875 dL_law_877 dL_law_878 dL_law_879 ?_
    refine la_callR (As := [.int (xs (n + 1))]) X hH1 hS1 h2 okX11_total rfl rfl gT_X11_total ⟨Nat.le_of_ble_eq_true rfl, Nat.le_of_ble_eq_true rfl⟩ hc hl1.1 rfl (Nat.le_of_ble_eq_true rfl) dL_law_880 (fun H2 locs2 hH2 hS2 => ?_)
    refine lv_istore (lv' := (7, .int r) :: (6, .int 0) :: [(0, .ref b), (1, .ref (cw_a (cc_w K) 0)), (2, .ref (cw_a (cr_w K) 0)), (3, .ref qo), (4, .ref qd), (5, .int (nI n))]) X.1.1 X.1.2.1 dL_law_883 hl1 (by decide) rfl (fun ls2 hl2 => ?_)
    refine lv_aload_n X.1.1 X.1.2.1 dL_law_885 rfl (lv_at hl2 4 rfl) ?_
    refine la_thrown X hH2 hS2 hc hl2.1 (Nat.le_of_ble_eq_true rfl) dL_law_886 (fun H3 locs3 hH3 hS3 => ?_)
    refine lv_iload X.1.1 X.1.2.1 dL_law_889 (lv_at hl2 1 rfl) ?_
    refine lv_icmp_eq (tgt := 896) X.1.1 X.1.2.1 dL_law_891 (by decide) (fun _ => ?_) (fun y => absurd h3 y)
    refine lv_iload X.1.1 X.1.2.1 dL_law_896 (lv_at hl2 1 rfl) ?_
    have hg : W p K.1 e room_1 s m #[.ref b] below meth c H3 locs3 (cells + 1) (slots + 6) Q (F0 m 913 ls2 []) := lv_goto (tgt := 2884) X.1.1 X.1.2.1 dL_law_913 (by decide) (kk _ _ _ _ _ _ _ hH3 hS3 h4 (la_lv (la_lv hl2)))
    refine lv_if_ne (tgt := 913) X.1.1 X.1.2.1 dL_law_898 (by decide) (fun y => absurd rfl y) (fun _ => ?_)
    refine lv_aload_n X.1.1 X.1.2.1 dL_law_901 rfl (lv_at hl2 5 rfl) ?_
    refine lv_iconst (v := 0) X.1.1 X.1.2.1 dL_law_902 (by decide) ?_
    refine va_lald X.1.1 X.1.2.1 X.2.2.2.2.2.2.1 hH3.2.2.1 0 0 rfl rfl (vp_in_nI (n := 0) (N := 1) (by omega) (by omega)) dL_law_903 ?_
    refine lv_iload X.1.1 X.1.2.1 dL_law_904 (lv_at hl2 0 rfl) ?_
    refine lv_i2l (v := r.toInt64) X.1.1 X.1.2.1 dL_law_906 rfl ?_
    refine W.lcmp X.1.1 X.1.2.1 dL_law_907 ?_
    exact lv_if_eq (tgt := 913) X.1.1 X.1.2.1 dL_law_908 (by decide) (fun _ => hg) (fun y => absurd (la_cmp _) y)
  · refine lv_aload_n X.1.1 X.1.2.1 dL_law_860 rfl (lv_at hl 1 rfl) ?_
    refine la_arg (j := 1) X hS (lv_at hl 0 rfl) (lv_at hl 5 rfl) (by omega) hn.2 (by decide) dL_law_861 dL_law_862 dL_law_864 dL_law_865 dL_law_866 ?_
    refine lv_aload_n X.1.1 X.1.2.1 dL_law_867 rfl (lv_at hl 3 rfl) ?_
    refine la_callW (M2 := mL_total) (n2 := 3) (As := [.ref (cw_a (cc_w K) 0), .int (xs (n + 1)), .ref qo]) (hh := [(0, 9, 12, 29)]) X hH hS (wr_total_x1 h1) ⟨_, rfl⟩ (by decide +kernel) rfl gT_L_total ⟨Nat.le_of_ble_eq_true rfl, Nat.le_of_ble_eq_true rfl⟩ hc hl.1 rfl (Nat.le_of_ble_eq_true rfl) dL_law_868 (fun H1 locs1 hH1 hS1 => ?_)
    refine lv_istore (lv' := (6, .int 1) :: [(0, .ref b), (1, .ref (cw_a (cc_w K) 0)), (2, .ref (cw_a (cr_w K) 0)), (3, .ref qo), (4, .ref qd), (5, .int (nI n))]) X.1.1 X.1.2.1 dL_law_871 hl (by decide) rfl (fun ls1 hl1 => ?_)
    refine lv_aload_n X.1.1 X.1.2.1 dL_law_873 rfl (lv_at hl1 3 rfl) ?_
    refine la_arg (j := 1) X hS1 (lv_at hl1 1 rfl) (lv_at hl1 6 rfl) (by omega) hn.2 (by decide) dL_law_874 dL_law_875 dL_law_877 dL_law_878 dL_law_879 ?_
    refine la_callR (As := [.int (xs (n + 1))]) X hH1 hS1 h2 okX11_total rfl rfl gT_X11_total ⟨Nat.le_of_ble_eq_true rfl, Nat.le_of_ble_eq_true rfl⟩ hc hl1.1 rfl (Nat.le_of_ble_eq_true rfl) dL_law_880 (fun H2 locs2 hH2 hS2 => ?_)
    refine lv_istore (lv' := (7, .int r) :: (6, .int 1) :: [(0, .ref b), (1, .ref (cw_a (cc_w K) 0)), (2, .ref (cw_a (cr_w K) 0)), (3, .ref qo), (4, .ref qd), (5, .int (nI n))]) X.1.1 X.1.2.1 dL_law_883 hl1 (by decide) rfl (fun ls2 hl2 => ?_)
    refine lv_aload_n X.1.1 X.1.2.1 dL_law_885 rfl (lv_at hl2 4 rfl) ?_
    refine la_thrown X hH2 hS2 hc hl2.1 (Nat.le_of_ble_eq_true rfl) dL_law_886 (fun H3 locs3 hH3 hS3 => ?_)
    refine lv_iload X.1.1 X.1.2.1 dL_law_889 (lv_at hl2 1 rfl) ?_
    refine lv_icmp_eq (tgt := 896) X.1.1 X.1.2.1 dL_law_891 (by decide) (fun _ => ?_) (fun y => absurd h3 y)
    refine lv_iload X.1.1 X.1.2.1 dL_law_896 (lv_at hl2 1 rfl) ?_
    have hg : W p K.1 e room_1 s m #[.ref b] below meth c H3 locs3 (cells + 1) (slots + 6) Q (F0 m 913 ls2 []) := lv_goto (tgt := 2884) X.1.1 X.1.2.1 dL_law_913 (by decide) (kk _ _ _ _ _ _ _ hH3 hS3 h4 (la_lv (la_lv hl2)))
    exact lv_if_ne (tgt := 913) X.1.1 X.1.2.1 dL_law_898 (by decide) (fun _ => hg) (fun y => absurd y (by decide))
theorem lc_13 (X : la_X K p s m meth c b L xs qo qd cl cd) (F : la_F K) (hc : cells + 1 ≤ 1088 ∧ slots + 6 ≤ 17909) (hn : n + 6 ≤ L ∧ L ≤ 3072) (kk : la_T K p e s m below meth c b qo qd cl cd Q n (cells + 1) (slots + 6) 2884) : la_T K p e s m below meth c b qo qd cl cd Q n cells slots 916 := by
  intro H locs ls I J f g hH hS hR hl
  rcases ca_worthOfShare (K := K) F.1 F.2.1 hR (x := xs (n + 1)) (y := xs (n + 2)) with ⟨r, I2, J2, h1, h2, h3, h4⟩ | ⟨r, I2, J2, h1, h2, h3, h4⟩
  · refine lv_aload_n X.1.1 X.1.2.1 dL_law_916 rfl (lv_at hl 1 rfl) ?_
    refine la_arg (j := 1) X hS (lv_at hl 0 rfl) (lv_at hl 5 rfl) (by omega) hn.2 (by decide) dL_law_917 dL_law_918 dL_law_920 dL_law_921 dL_law_922 ?_
    refine la_arg (j := 2) X hS (lv_at hl 0 rfl) (lv_at hl 5 rfl) (by omega) hn.2 (by decide) dL_law_923 dL_law_924 dL_law_926 dL_law_927 dL_law_928 ?_
    refine lv_aload_n X.1.1 X.1.2.1 dL_law_929 rfl (lv_at hl 3 rfl) ?_
    refine la_callW (M2 := mL_worthOfShare) (n2 := 4) (As := [.ref (cw_a (cc_w K) 0), .int (xs (n + 1)), .int (xs (n + 2)), .ref qo]) (hh := [(0, 10, 13, 29)]) X hH hS (wr_worthOfShare_ok h1) ⟨_, rfl⟩ (by decide +kernel) rfl gT_L_worthOfShare ⟨Nat.le_of_ble_eq_true rfl, Nat.le_of_ble_eq_true rfl⟩ hc hl.1 rfl (Nat.le_of_ble_eq_true rfl) dL_law_930 (fun H1 locs1 hH1 hS1 => ?_)
    refine lv_istore (lv' := (6, .int 0) :: [(0, .ref b), (1, .ref (cw_a (cc_w K) 0)), (2, .ref (cw_a (cr_w K) 0)), (3, .ref qo), (4, .ref qd), (5, .int (nI n))]) X.1.1 X.1.2.1 dL_law_933 hl (by decide) rfl (fun ls1 hl1 => ?_)
    refine lv_aload_n X.1.1 X.1.2.1 dL_law_935 rfl (lv_at hl1 3 rfl) ?_
    refine la_arg (j := 1) X hS1 (lv_at hl1 1 rfl) (lv_at hl1 6 rfl) (by omega) hn.2 (by decide) dL_law_936 dL_law_937 dL_law_939 dL_law_940 dL_law_941 ?_
    refine la_arg (j := 2) X hS1 (lv_at hl1 1 rfl) (lv_at hl1 6 rfl) (by omega) hn.2 (by decide) dL_law_942 dL_law_943 dL_law_945 dL_law_946 dL_law_947 ?_
    refine la_callR (As := [.int (xs (n + 1)), .int (xs (n + 2))]) X hH1 hS1 h2 okX11_worthOfShare rfl rfl gT_X11_worthOfShare ⟨Nat.le_of_ble_eq_true rfl, Nat.le_of_ble_eq_true rfl⟩ hc hl1.1 rfl (Nat.le_of_ble_eq_true rfl) dL_law_948 (fun H2 locs2 hH2 hS2 => ?_)
    refine lv_istore (lv' := (7, .int r) :: (6, .int 0) :: [(0, .ref b), (1, .ref (cw_a (cc_w K) 0)), (2, .ref (cw_a (cr_w K) 0)), (3, .ref qo), (4, .ref qd), (5, .int (nI n))]) X.1.1 X.1.2.1 dL_law_951 hl1 (by decide) rfl (fun ls2 hl2 => ?_)
    refine lv_aload_n X.1.1 X.1.2.1 dL_law_953 rfl (lv_at hl2 4 rfl) ?_
    refine la_thrown X hH2 hS2 hc hl2.1 (Nat.le_of_ble_eq_true rfl) dL_law_954 (fun H3 locs3 hH3 hS3 => ?_)
    refine lv_iload X.1.1 X.1.2.1 dL_law_957 (lv_at hl2 1 rfl) ?_
    refine lv_icmp_eq (tgt := 964) X.1.1 X.1.2.1 dL_law_959 (by decide) (fun _ => ?_) (fun y => absurd h3 y)
    refine lv_iload X.1.1 X.1.2.1 dL_law_964 (lv_at hl2 1 rfl) ?_
    have hg : W p K.1 e room_1 s m #[.ref b] below meth c H3 locs3 (cells + 1) (slots + 6) Q (F0 m 981 ls2 []) := lv_goto (tgt := 2884) X.1.1 X.1.2.1 dL_law_981 (by decide) (kk _ _ _ _ _ _ _ hH3 hS3 h4 (la_lv (la_lv hl2)))
    refine lv_if_ne (tgt := 981) X.1.1 X.1.2.1 dL_law_966 (by decide) (fun y => absurd rfl y) (fun _ => ?_)
    refine lv_aload_n X.1.1 X.1.2.1 dL_law_969 rfl (lv_at hl2 5 rfl) ?_
    refine lv_iconst (v := 0) X.1.1 X.1.2.1 dL_law_970 (by decide) ?_
    refine va_lald X.1.1 X.1.2.1 X.2.2.2.2.2.2.1 hH3.2.2.1 0 0 rfl rfl (vp_in_nI (n := 0) (N := 1) (by omega) (by omega)) dL_law_971 ?_
    refine lv_iload X.1.1 X.1.2.1 dL_law_972 (lv_at hl2 0 rfl) ?_
    refine lv_i2l (v := r.toInt64) X.1.1 X.1.2.1 dL_law_974 rfl ?_
    refine W.lcmp X.1.1 X.1.2.1 dL_law_975 ?_
    exact lv_if_eq (tgt := 981) X.1.1 X.1.2.1 dL_law_976 (by decide) (fun _ => hg) (fun y => absurd (la_cmp _) y)
  · refine lv_aload_n X.1.1 X.1.2.1 dL_law_916 rfl (lv_at hl 1 rfl) ?_
    refine la_arg (j := 1) X hS (lv_at hl 0 rfl) (lv_at hl 5 rfl) (by omega) hn.2 (by decide) dL_law_917 dL_law_918 dL_law_920 dL_law_921 dL_law_922 ?_
    refine la_arg (j := 2) X hS (lv_at hl 0 rfl) (lv_at hl 5 rfl) (by omega) hn.2 (by decide) dL_law_923 dL_law_924 dL_law_926 dL_law_927 dL_law_928 ?_
    refine lv_aload_n X.1.1 X.1.2.1 dL_law_929 rfl (lv_at hl 3 rfl) ?_
    refine la_callW (M2 := mL_worthOfShare) (n2 := 4) (As := [.ref (cw_a (cc_w K) 0), .int (xs (n + 1)), .int (xs (n + 2)), .ref qo]) (hh := [(0, 10, 13, 29)]) X hH hS (wr_worthOfShare_x1 h1) ⟨_, rfl⟩ (by decide +kernel) rfl gT_L_worthOfShare ⟨Nat.le_of_ble_eq_true rfl, Nat.le_of_ble_eq_true rfl⟩ hc hl.1 rfl (Nat.le_of_ble_eq_true rfl) dL_law_930 (fun H1 locs1 hH1 hS1 => ?_)
    refine lv_istore (lv' := (6, .int 1) :: [(0, .ref b), (1, .ref (cw_a (cc_w K) 0)), (2, .ref (cw_a (cr_w K) 0)), (3, .ref qo), (4, .ref qd), (5, .int (nI n))]) X.1.1 X.1.2.1 dL_law_933 hl (by decide) rfl (fun ls1 hl1 => ?_)
    refine lv_aload_n X.1.1 X.1.2.1 dL_law_935 rfl (lv_at hl1 3 rfl) ?_
    refine la_arg (j := 1) X hS1 (lv_at hl1 1 rfl) (lv_at hl1 6 rfl) (by omega) hn.2 (by decide) dL_law_936 dL_law_937 dL_law_939 dL_law_940 dL_law_941 ?_
    refine la_arg (j := 2) X hS1 (lv_at hl1 1 rfl) (lv_at hl1 6 rfl) (by omega) hn.2 (by decide) dL_law_942 dL_law_943 dL_law_945 dL_law_946 dL_law_947 ?_
    refine la_callR (As := [.int (xs (n + 1)), .int (xs (n + 2))]) X hH1 hS1 h2 okX11_worthOfShare rfl rfl gT_X11_worthOfShare ⟨Nat.le_of_ble_eq_true rfl, Nat.le_of_ble_eq_true rfl⟩ hc hl1.1 rfl (Nat.le_of_ble_eq_true rfl) dL_law_948 (fun H2 locs2 hH2 hS2 => ?_)
    refine lv_istore (lv' := (7, .int r) :: (6, .int 1) :: [(0, .ref b), (1, .ref (cw_a (cc_w K) 0)), (2, .ref (cw_a (cr_w K) 0)), (3, .ref qo), (4, .ref qd), (5, .int (nI n))]) X.1.1 X.1.2.1 dL_law_951 hl1 (by decide) rfl (fun ls2 hl2 => ?_)
    refine lv_aload_n X.1.1 X.1.2.1 dL_law_953 rfl (lv_at hl2 4 rfl) ?_
    refine la_thrown X hH2 hS2 hc hl2.1 (Nat.le_of_ble_eq_true rfl) dL_law_954 (fun H3 locs3 hH3 hS3 => ?_)
    refine lv_iload X.1.1 X.1.2.1 dL_law_957 (lv_at hl2 1 rfl) ?_
    refine lv_icmp_eq (tgt := 964) X.1.1 X.1.2.1 dL_law_959 (by decide) (fun _ => ?_) (fun y => absurd h3 y)
    refine lv_iload X.1.1 X.1.2.1 dL_law_964 (lv_at hl2 1 rfl) ?_
    have hg : W p K.1 e room_1 s m #[.ref b] below meth c H3 locs3 (cells + 1) (slots + 6) Q (F0 m 981 ls2 []) := lv_goto (tgt := 2884) X.1.1 X.1.2.1 dL_law_981 (by decide) (kk _ _ _ _ _ _ _ hH3 hS3 h4 (la_lv (la_lv hl2)))
    exact lv_if_ne (tgt := 981) X.1.1 X.1.2.1 dL_law_966 (by decide) (fun _ => hg) (fun y => absurd y (by decide))
theorem lc_14 (X : la_X K p s m meth c b L xs qo qd cl cd) (F : la_F K) (hc : cells + 1 ≤ 1088 ∧ slots + 6 ≤ 17909) (hn : n + 6 ≤ L ∧ L ≤ 3072) (kk : la_T K p e s m below meth c b qo qd cl cd Q n (cells + 1) (slots + 6) 2884) : la_T K p e s m below meth c b qo qd cl cd Q n cells slots 984 := by
  intro H locs ls I J f g hH hS hR hl
  rcases ca_shareSize (K := K) F.1 F.2.1 hR (x := xs (n + 1)) with ⟨r, I2, J2, h1, h2, h3, h4⟩ | ⟨r, I2, J2, h1, h2, h3, h4⟩
  · refine lv_aload_n X.1.1 X.1.2.1 dL_law_984 rfl (lv_at hl 1 rfl) ?_
    refine la_arg (j := 1) X hS (lv_at hl 0 rfl) (lv_at hl 5 rfl) (by omega) hn.2 (by decide) dL_law_985 dL_law_986 dL_law_988 dL_law_989 dL_law_990 ?_
    refine lv_aload_n X.1.1 X.1.2.1 dL_law_991 rfl (lv_at hl 3 rfl) ?_
    refine la_callW (M2 := mL_shareSize) (n2 := 3) (As := [.ref (cw_a (cc_w K) 0), .int (xs (n + 1)), .ref qo]) (hh := [(0, 9, 12, 29)]) X hH hS (wr_shareSize_ok h1) ⟨_, rfl⟩ (by decide +kernel) rfl gT_L_shareSize ⟨Nat.le_of_ble_eq_true rfl, Nat.le_of_ble_eq_true rfl⟩ hc hl.1 rfl (Nat.le_of_ble_eq_true rfl) dL_law_992 (fun H1 locs1 hH1 hS1 => ?_)
    refine lv_istore (lv' := (6, .int 0) :: [(0, .ref b), (1, .ref (cw_a (cc_w K) 0)), (2, .ref (cw_a (cr_w K) 0)), (3, .ref qo), (4, .ref qd), (5, .int (nI n))]) X.1.1 X.1.2.1 dL_law_995 hl (by decide) rfl (fun ls1 hl1 => ?_)
    refine lv_aload_n X.1.1 X.1.2.1 dL_law_997 rfl (lv_at hl1 3 rfl) ?_
    refine la_arg (j := 1) X hS1 (lv_at hl1 1 rfl) (lv_at hl1 6 rfl) (by omega) hn.2 (by decide) dL_law_998 dL_law_999 dL_law_1001 dL_law_1002 dL_law_1003 ?_
    refine la_callR (As := [.int (xs (n + 1))]) X hH1 hS1 h2 okX11_shareSize rfl rfl gT_X11_shareSize ⟨Nat.le_of_ble_eq_true rfl, Nat.le_of_ble_eq_true rfl⟩ hc hl1.1 rfl (Nat.le_of_ble_eq_true rfl) dL_law_1004 (fun H2 locs2 hH2 hS2 => ?_)
    refine lv_istore (lv' := (7, .int r) :: (6, .int 0) :: [(0, .ref b), (1, .ref (cw_a (cc_w K) 0)), (2, .ref (cw_a (cr_w K) 0)), (3, .ref qo), (4, .ref qd), (5, .int (nI n))]) X.1.1 X.1.2.1 dL_law_1007 hl1 (by decide) rfl (fun ls2 hl2 => ?_)
    refine lv_aload_n X.1.1 X.1.2.1 dL_law_1009 rfl (lv_at hl2 4 rfl) ?_
    refine la_thrown X hH2 hS2 hc hl2.1 (Nat.le_of_ble_eq_true rfl) dL_law_1010 (fun H3 locs3 hH3 hS3 => ?_)
    refine lv_iload X.1.1 X.1.2.1 dL_law_1013 (lv_at hl2 1 rfl) ?_
    refine lv_icmp_eq (tgt := 1020) X.1.1 X.1.2.1 dL_law_1015 (by decide) (fun _ => ?_) (fun y => absurd h3 y)
    refine lv_iload X.1.1 X.1.2.1 dL_law_1020 (lv_at hl2 1 rfl) ?_
    have hg : W p K.1 e room_1 s m #[.ref b] below meth c H3 locs3 (cells + 1) (slots + 6) Q (F0 m 1037 ls2 []) := lv_goto (tgt := 2884) X.1.1 X.1.2.1 dL_law_1037 (by decide) (kk _ _ _ _ _ _ _ hH3 hS3 h4 (la_lv (la_lv hl2)))
    refine lv_if_ne (tgt := 1037) X.1.1 X.1.2.1 dL_law_1022 (by decide) (fun y => absurd rfl y) (fun _ => ?_)
    refine lv_aload_n X.1.1 X.1.2.1 dL_law_1025 rfl (lv_at hl2 5 rfl) ?_
    refine lv_iconst (v := 0) X.1.1 X.1.2.1 dL_law_1026 (by decide) ?_
    refine va_lald X.1.1 X.1.2.1 X.2.2.2.2.2.2.1 hH3.2.2.1 0 0 rfl rfl (vp_in_nI (n := 0) (N := 1) (by omega) (by omega)) dL_law_1027 ?_
    refine lv_iload X.1.1 X.1.2.1 dL_law_1028 (lv_at hl2 0 rfl) ?_
    refine lv_i2l (v := r.toInt64) X.1.1 X.1.2.1 dL_law_1030 rfl ?_
    refine W.lcmp X.1.1 X.1.2.1 dL_law_1031 ?_
    exact lv_if_eq (tgt := 1037) X.1.1 X.1.2.1 dL_law_1032 (by decide) (fun _ => hg) (fun y => absurd (la_cmp _) y)
  · refine lv_aload_n X.1.1 X.1.2.1 dL_law_984 rfl (lv_at hl 1 rfl) ?_
    refine la_arg (j := 1) X hS (lv_at hl 0 rfl) (lv_at hl 5 rfl) (by omega) hn.2 (by decide) dL_law_985 dL_law_986 dL_law_988 dL_law_989 dL_law_990 ?_
    refine lv_aload_n X.1.1 X.1.2.1 dL_law_991 rfl (lv_at hl 3 rfl) ?_
    refine la_callW (M2 := mL_shareSize) (n2 := 3) (As := [.ref (cw_a (cc_w K) 0), .int (xs (n + 1)), .ref qo]) (hh := [(0, 9, 12, 29)]) X hH hS (wr_shareSize_x1 h1) ⟨_, rfl⟩ (by decide +kernel) rfl gT_L_shareSize ⟨Nat.le_of_ble_eq_true rfl, Nat.le_of_ble_eq_true rfl⟩ hc hl.1 rfl (Nat.le_of_ble_eq_true rfl) dL_law_992 (fun H1 locs1 hH1 hS1 => ?_)
    refine lv_istore (lv' := (6, .int 1) :: [(0, .ref b), (1, .ref (cw_a (cc_w K) 0)), (2, .ref (cw_a (cr_w K) 0)), (3, .ref qo), (4, .ref qd), (5, .int (nI n))]) X.1.1 X.1.2.1 dL_law_995 hl (by decide) rfl (fun ls1 hl1 => ?_)
    refine lv_aload_n X.1.1 X.1.2.1 dL_law_997 rfl (lv_at hl1 3 rfl) ?_
    refine la_arg (j := 1) X hS1 (lv_at hl1 1 rfl) (lv_at hl1 6 rfl) (by omega) hn.2 (by decide) dL_law_998 dL_law_999 dL_law_1001 dL_law_1002 dL_law_1003 ?_
    refine la_callR (As := [.int (xs (n + 1))]) X hH1 hS1 h2 okX11_shareSize rfl rfl gT_X11_shareSize ⟨Nat.le_of_ble_eq_true rfl, Nat.le_of_ble_eq_true rfl⟩ hc hl1.1 rfl (Nat.le_of_ble_eq_true rfl) dL_law_1004 (fun H2 locs2 hH2 hS2 => ?_)
    refine lv_istore (lv' := (7, .int r) :: (6, .int 1) :: [(0, .ref b), (1, .ref (cw_a (cc_w K) 0)), (2, .ref (cw_a (cr_w K) 0)), (3, .ref qo), (4, .ref qd), (5, .int (nI n))]) X.1.1 X.1.2.1 dL_law_1007 hl1 (by decide) rfl (fun ls2 hl2 => ?_)
    refine lv_aload_n X.1.1 X.1.2.1 dL_law_1009 rfl (lv_at hl2 4 rfl) ?_
    refine la_thrown X hH2 hS2 hc hl2.1 (Nat.le_of_ble_eq_true rfl) dL_law_1010 (fun H3 locs3 hH3 hS3 => ?_)
    refine lv_iload X.1.1 X.1.2.1 dL_law_1013 (lv_at hl2 1 rfl) ?_
    refine lv_icmp_eq (tgt := 1020) X.1.1 X.1.2.1 dL_law_1015 (by decide) (fun _ => ?_) (fun y => absurd h3 y)
    refine lv_iload X.1.1 X.1.2.1 dL_law_1020 (lv_at hl2 1 rfl) ?_
    have hg : W p K.1 e room_1 s m #[.ref b] below meth c H3 locs3 (cells + 1) (slots + 6) Q (F0 m 1037 ls2 []) := lv_goto (tgt := 2884) X.1.1 X.1.2.1 dL_law_1037 (by decide) (kk _ _ _ _ _ _ _ hH3 hS3 h4 (la_lv (la_lv hl2)))
    exact lv_if_ne (tgt := 1037) X.1.1 X.1.2.1 dL_law_1022 (by decide) (fun _ => hg) (fun y => absurd y (by decide))
theorem lc_15 (X : la_X K p s m meth c b L xs qo qd cl cd) (F : la_F K) (hc : cells + 1 ≤ 1088 ∧ slots + 6 ≤ 17909) (hn : n + 6 ≤ L ∧ L ≤ 3072) (kk : la_T K p e s m below meth c b qo qd cl cd Q n (cells + 1) (slots + 6) 2884) : la_T K p e s m below meth c b qo qd cl cd Q n cells slots 1040 := by
  intro H locs ls I J f g hH hS hR hl
  rcases ca_pieceCount (K := K) F.1 F.2.1 hR (x := xs (n + 1)) with ⟨r, I2, J2, h1, h2, h3, h4⟩ | ⟨r, I2, J2, h1, h2, h3, h4⟩
  · refine lv_aload_n X.1.1 X.1.2.1 dL_law_1040 rfl (lv_at hl 1 rfl) ?_
    refine la_arg (j := 1) X hS (lv_at hl 0 rfl) (lv_at hl 5 rfl) (by omega) hn.2 (by decide) dL_law_1041 dL_law_1042 dL_law_1044 dL_law_1045 dL_law_1046 ?_
    refine lv_aload_n X.1.1 X.1.2.1 dL_law_1047 rfl (lv_at hl 3 rfl) ?_
    refine la_callW (M2 := mL_pieceCount) (n2 := 3) (As := [.ref (cw_a (cc_w K) 0), .int (xs (n + 1)), .ref qo]) (hh := [(0, 9, 12, 29)]) X hH hS (wr_pieceCount_ok h1) ⟨_, rfl⟩ (by decide +kernel) rfl gT_L_pieceCount ⟨Nat.le_of_ble_eq_true rfl, Nat.le_of_ble_eq_true rfl⟩ hc hl.1 rfl (Nat.le_of_ble_eq_true rfl) dL_law_1048 (fun H1 locs1 hH1 hS1 => ?_)
    refine lv_istore (lv' := (6, .int 0) :: [(0, .ref b), (1, .ref (cw_a (cc_w K) 0)), (2, .ref (cw_a (cr_w K) 0)), (3, .ref qo), (4, .ref qd), (5, .int (nI n))]) X.1.1 X.1.2.1 dL_law_1051 hl (by decide) rfl (fun ls1 hl1 => ?_)
    refine lv_aload_n X.1.1 X.1.2.1 dL_law_1053 rfl (lv_at hl1 3 rfl) ?_
    refine la_arg (j := 1) X hS1 (lv_at hl1 1 rfl) (lv_at hl1 6 rfl) (by omega) hn.2 (by decide) dL_law_1054 dL_law_1055 dL_law_1057 dL_law_1058 dL_law_1059 ?_
    refine la_callR (As := [.int (xs (n + 1))]) X hH1 hS1 h2 okX11_pieceCount rfl rfl gT_X11_pieceCount ⟨Nat.le_of_ble_eq_true rfl, Nat.le_of_ble_eq_true rfl⟩ hc hl1.1 rfl (Nat.le_of_ble_eq_true rfl) dL_law_1060 (fun H2 locs2 hH2 hS2 => ?_)
    refine lv_istore (lv' := (7, .int r) :: (6, .int 0) :: [(0, .ref b), (1, .ref (cw_a (cc_w K) 0)), (2, .ref (cw_a (cr_w K) 0)), (3, .ref qo), (4, .ref qd), (5, .int (nI n))]) X.1.1 X.1.2.1 dL_law_1063 hl1 (by decide) rfl (fun ls2 hl2 => ?_)
    refine lv_aload_n X.1.1 X.1.2.1 dL_law_1065 rfl (lv_at hl2 4 rfl) ?_
    refine la_thrown X hH2 hS2 hc hl2.1 (Nat.le_of_ble_eq_true rfl) dL_law_1066 (fun H3 locs3 hH3 hS3 => ?_)
    refine lv_iload X.1.1 X.1.2.1 dL_law_1069 (lv_at hl2 1 rfl) ?_
    refine lv_icmp_eq (tgt := 1076) X.1.1 X.1.2.1 dL_law_1071 (by decide) (fun _ => ?_) (fun y => absurd h3 y)
    refine lv_iload X.1.1 X.1.2.1 dL_law_1076 (lv_at hl2 1 rfl) ?_
    have hg : W p K.1 e room_1 s m #[.ref b] below meth c H3 locs3 (cells + 1) (slots + 6) Q (F0 m 1093 ls2 []) := lv_goto (tgt := 2884) X.1.1 X.1.2.1 dL_law_1093 (by decide) (kk _ _ _ _ _ _ _ hH3 hS3 h4 (la_lv (la_lv hl2)))
    refine lv_if_ne (tgt := 1093) X.1.1 X.1.2.1 dL_law_1078 (by decide) (fun y => absurd rfl y) (fun _ => ?_)
    refine lv_aload_n X.1.1 X.1.2.1 dL_law_1081 rfl (lv_at hl2 5 rfl) ?_
    refine lv_iconst (v := 0) X.1.1 X.1.2.1 dL_law_1082 (by decide) ?_
    refine va_lald X.1.1 X.1.2.1 X.2.2.2.2.2.2.1 hH3.2.2.1 0 0 rfl rfl (vp_in_nI (n := 0) (N := 1) (by omega) (by omega)) dL_law_1083 ?_
    refine lv_iload X.1.1 X.1.2.1 dL_law_1084 (lv_at hl2 0 rfl) ?_
    refine lv_i2l (v := r.toInt64) X.1.1 X.1.2.1 dL_law_1086 rfl ?_
    refine W.lcmp X.1.1 X.1.2.1 dL_law_1087 ?_
    exact lv_if_eq (tgt := 1093) X.1.1 X.1.2.1 dL_law_1088 (by decide) (fun _ => hg) (fun y => absurd (la_cmp _) y)
  · refine lv_aload_n X.1.1 X.1.2.1 dL_law_1040 rfl (lv_at hl 1 rfl) ?_
    refine la_arg (j := 1) X hS (lv_at hl 0 rfl) (lv_at hl 5 rfl) (by omega) hn.2 (by decide) dL_law_1041 dL_law_1042 dL_law_1044 dL_law_1045 dL_law_1046 ?_
    refine lv_aload_n X.1.1 X.1.2.1 dL_law_1047 rfl (lv_at hl 3 rfl) ?_
    refine la_callW (M2 := mL_pieceCount) (n2 := 3) (As := [.ref (cw_a (cc_w K) 0), .int (xs (n + 1)), .ref qo]) (hh := [(0, 9, 12, 29)]) X hH hS (wr_pieceCount_x1 h1) ⟨_, rfl⟩ (by decide +kernel) rfl gT_L_pieceCount ⟨Nat.le_of_ble_eq_true rfl, Nat.le_of_ble_eq_true rfl⟩ hc hl.1 rfl (Nat.le_of_ble_eq_true rfl) dL_law_1048 (fun H1 locs1 hH1 hS1 => ?_)
    refine lv_istore (lv' := (6, .int 1) :: [(0, .ref b), (1, .ref (cw_a (cc_w K) 0)), (2, .ref (cw_a (cr_w K) 0)), (3, .ref qo), (4, .ref qd), (5, .int (nI n))]) X.1.1 X.1.2.1 dL_law_1051 hl (by decide) rfl (fun ls1 hl1 => ?_)
    refine lv_aload_n X.1.1 X.1.2.1 dL_law_1053 rfl (lv_at hl1 3 rfl) ?_
    refine la_arg (j := 1) X hS1 (lv_at hl1 1 rfl) (lv_at hl1 6 rfl) (by omega) hn.2 (by decide) dL_law_1054 dL_law_1055 dL_law_1057 dL_law_1058 dL_law_1059 ?_
    refine la_callR (As := [.int (xs (n + 1))]) X hH1 hS1 h2 okX11_pieceCount rfl rfl gT_X11_pieceCount ⟨Nat.le_of_ble_eq_true rfl, Nat.le_of_ble_eq_true rfl⟩ hc hl1.1 rfl (Nat.le_of_ble_eq_true rfl) dL_law_1060 (fun H2 locs2 hH2 hS2 => ?_)
    refine lv_istore (lv' := (7, .int r) :: (6, .int 1) :: [(0, .ref b), (1, .ref (cw_a (cc_w K) 0)), (2, .ref (cw_a (cr_w K) 0)), (3, .ref qo), (4, .ref qd), (5, .int (nI n))]) X.1.1 X.1.2.1 dL_law_1063 hl1 (by decide) rfl (fun ls2 hl2 => ?_)
    refine lv_aload_n X.1.1 X.1.2.1 dL_law_1065 rfl (lv_at hl2 4 rfl) ?_
    refine la_thrown X hH2 hS2 hc hl2.1 (Nat.le_of_ble_eq_true rfl) dL_law_1066 (fun H3 locs3 hH3 hS3 => ?_)
    refine lv_iload X.1.1 X.1.2.1 dL_law_1069 (lv_at hl2 1 rfl) ?_
    refine lv_icmp_eq (tgt := 1076) X.1.1 X.1.2.1 dL_law_1071 (by decide) (fun _ => ?_) (fun y => absurd h3 y)
    refine lv_iload X.1.1 X.1.2.1 dL_law_1076 (lv_at hl2 1 rfl) ?_
    have hg : W p K.1 e room_1 s m #[.ref b] below meth c H3 locs3 (cells + 1) (slots + 6) Q (F0 m 1093 ls2 []) := lv_goto (tgt := 2884) X.1.1 X.1.2.1 dL_law_1093 (by decide) (kk _ _ _ _ _ _ _ hH3 hS3 h4 (la_lv (la_lv hl2)))
    exact lv_if_ne (tgt := 1093) X.1.1 X.1.2.1 dL_law_1078 (by decide) (fun _ => hg) (fun y => absurd y (by decide))
theorem lc_16 (X : la_X K p s m meth c b L xs qo qd cl cd) (F : la_F K) (hc : cells + 1 ≤ 1088 ∧ slots + 6 ≤ 17909) (hn : n + 6 ≤ L ∧ L ≤ 3072) (kk : la_T K p e s m below meth c b qo qd cl cd Q n (cells + 1) (slots + 6) 2884) : la_T K p e s m below meth c b qo qd cl cd Q n cells slots 1096 := by
  intro H locs ls I J f g hH hS hR hl
  obtain ⟨r, I2, J2, h1, h2, h3, h4⟩ := ca_freeCount (K := K) hR
  refine W.widen (k := cells + 1) (n := slots + 6) (by omega) (by omega) ?_
  refine lv_aload_n X.1.1 X.1.2.1 dL_law_1096 rfl (lv_at hl 1 rfl) ?_
  refine la_callC (As := []) X hH hS h1 okX10_freeCount rfl rfl gT_X10_freeCount ⟨Nat.le_of_ble_eq_true rfl, Nat.le_of_ble_eq_true rfl⟩ hc hl.1 rfl (Nat.le_of_ble_eq_true rfl) dL_law_1097 (fun H1 locs1 hH1 hS1 => ?_)
  refine lv_aload_n X.1.1 X.1.2.1 dL_law_1100 rfl (lv_at hl 2 rfl) ?_
  refine la_callR (As := []) X hH1 hS1 h2 okX11_freeCount rfl rfl gT_X11_freeCount ⟨Nat.le_of_ble_eq_true rfl, Nat.le_of_ble_eq_true rfl⟩ hc hl.1 rfl (Nat.le_of_ble_eq_true rfl) dL_law_1101 (fun H2 locs2 hH2 hS2 => ?_)
  exact lv_icmp_eq (tgt := 2884) X.1.1 X.1.2.1 dL_law_1104 (by decide) (fun _ => kk _ _ _ _ _ _ _ hH2 hS2 h4 hl) (fun y => absurd rfl y)
theorem lc_17 (X : la_X K p s m meth c b L xs qo qd cl cd) (F : la_F K) (hc : cells + 1 ≤ 1088 ∧ slots + 6 ≤ 17909) (hn : n + 6 ≤ L ∧ L ≤ 3072) (kk : la_T K p e s m below meth c b qo qd cl cd Q n (cells + 1) (slots + 6) 2884) : la_T K p e s m below meth c b qo qd cl cd Q n cells slots 1109 := by
  intro H locs ls I J f g hH hS hR hl
  rcases ca_mark (K := K) F.1 F.2.1 hR (x := xs (n + 1)) (y := xs (n + 2)) (z := xs (n + 3)) with ⟨r, I2, J2, h1, h2, h3, h4⟩ | ⟨r, I2, J2, h1, h2, h3, h4⟩ | ⟨r, I2, J2, h1, h2, h3, h4⟩
  · refine lv_aload_n X.1.1 X.1.2.1 dL_law_1109 rfl (lv_at hl 1 rfl) ?_
    refine la_arg (j := 1) X hS (lv_at hl 0 rfl) (lv_at hl 5 rfl) (by omega) hn.2 (by decide) dL_law_1110 dL_law_1111 dL_law_1113 dL_law_1114 dL_law_1115 ?_
    refine la_arg (j := 2) X hS (lv_at hl 0 rfl) (lv_at hl 5 rfl) (by omega) hn.2 (by decide) dL_law_1116 dL_law_1117 dL_law_1119 dL_law_1120 dL_law_1121 ?_
    refine la_arg (j := 3) X hS (lv_at hl 0 rfl) (lv_at hl 5 rfl) (by omega) hn.2 (by decide) dL_law_1122 dL_law_1123 dL_law_1125 dL_law_1126 dL_law_1127 ?_
    refine lv_aload_n X.1.1 X.1.2.1 dL_law_1128 rfl (lv_at hl 3 rfl) ?_
    refine la_callW (M2 := mL_mark) (n2 := 5) (As := [.ref (cw_a (cc_w K) 0), .int (xs (n + 1)), .int (xs (n + 2)), .int (xs (n + 3)), .ref qo]) (hh := [(0, 12, 15, 29), (0, 12, 19, 19)]) X hH hS (wr_mark_ok h1) ⟨_, rfl⟩ (by decide +kernel) rfl gT_L_mark ⟨Nat.le_of_ble_eq_true rfl, Nat.le_of_ble_eq_true rfl⟩ hc hl.1 rfl (Nat.le_of_ble_eq_true rfl) dL_law_1129 (fun H1 locs1 hH1 hS1 => ?_)
    refine lv_istore (lv' := (6, .int 0) :: [(0, .ref b), (1, .ref (cw_a (cc_w K) 0)), (2, .ref (cw_a (cr_w K) 0)), (3, .ref qo), (4, .ref qd), (5, .int (nI n))]) X.1.1 X.1.2.1 dL_law_1132 hl (by decide) rfl (fun ls1 hl1 => ?_)
    refine lv_aload_n X.1.1 X.1.2.1 dL_law_1134 rfl (lv_at hl1 3 rfl) ?_
    refine la_arg (j := 1) X hS1 (lv_at hl1 1 rfl) (lv_at hl1 6 rfl) (by omega) hn.2 (by decide) dL_law_1135 dL_law_1136 dL_law_1138 dL_law_1139 dL_law_1140 ?_
    refine la_arg (j := 2) X hS1 (lv_at hl1 1 rfl) (lv_at hl1 6 rfl) (by omega) hn.2 (by decide) dL_law_1141 dL_law_1142 dL_law_1144 dL_law_1145 dL_law_1146 ?_
    refine la_arg (j := 3) X hS1 (lv_at hl1 1 rfl) (lv_at hl1 6 rfl) (by omega) hn.2 (by decide) dL_law_1147 dL_law_1148 dL_law_1150 dL_law_1151 dL_law_1152 ?_
    refine la_callR (As := [.int (xs (n + 1)), .int (xs (n + 2)), .int (xs (n + 3))]) X hH1 hS1 h2 okX11_mark rfl rfl gT_X11_mark ⟨Nat.le_of_ble_eq_true rfl, Nat.le_of_ble_eq_true rfl⟩ hc hl1.1 rfl (Nat.le_of_ble_eq_true rfl) dL_law_1153 (fun H2 locs2 hH2 hS2 => ?_)
    refine lv_istore (lv' := (7, .int r) :: (6, .int 0) :: [(0, .ref b), (1, .ref (cw_a (cc_w K) 0)), (2, .ref (cw_a (cr_w K) 0)), (3, .ref qo), (4, .ref qd), (5, .int (nI n))]) X.1.1 X.1.2.1 dL_law_1156 hl1 (by decide) rfl (fun ls2 hl2 => ?_)
    refine lv_aload_n X.1.1 X.1.2.1 dL_law_1158 rfl (lv_at hl2 4 rfl) ?_
    refine la_thrown X hH2 hS2 hc hl2.1 (Nat.le_of_ble_eq_true rfl) dL_law_1159 (fun H3 locs3 hH3 hS3 => ?_)
    refine lv_iload X.1.1 X.1.2.1 dL_law_1162 (lv_at hl2 1 rfl) ?_
    refine lv_icmp_eq (tgt := 1169) X.1.1 X.1.2.1 dL_law_1164 (by decide) (fun _ => ?_) (fun y => absurd h3 y)
    refine lv_iload X.1.1 X.1.2.1 dL_law_1169 (lv_at hl2 1 rfl) ?_
    have hg : W p K.1 e room_1 s m #[.ref b] below meth c H3 locs3 (cells + 1) (slots + 6) Q (F0 m 1186 ls2 []) := lv_goto (tgt := 2884) X.1.1 X.1.2.1 dL_law_1186 (by decide) (kk _ _ _ _ _ _ _ hH3 hS3 h4 (la_lv (la_lv hl2)))
    refine lv_if_ne (tgt := 1186) X.1.1 X.1.2.1 dL_law_1171 (by decide) (fun y => absurd rfl y) (fun _ => ?_)
    refine lv_aload_n X.1.1 X.1.2.1 dL_law_1174 rfl (lv_at hl2 5 rfl) ?_
    refine lv_iconst (v := 0) X.1.1 X.1.2.1 dL_law_1175 (by decide) ?_
    refine va_lald X.1.1 X.1.2.1 X.2.2.2.2.2.2.1 hH3.2.2.1 0 0 rfl rfl (vp_in_nI (n := 0) (N := 1) (by omega) (by omega)) dL_law_1176 ?_
    refine lv_iload X.1.1 X.1.2.1 dL_law_1177 (lv_at hl2 0 rfl) ?_
    refine lv_i2l (v := r.toInt64) X.1.1 X.1.2.1 dL_law_1179 rfl ?_
    refine W.lcmp X.1.1 X.1.2.1 dL_law_1180 ?_
    exact lv_if_eq (tgt := 1186) X.1.1 X.1.2.1 dL_law_1181 (by decide) (fun _ => hg) (fun y => absurd (la_cmp _) y)
  · refine lv_aload_n X.1.1 X.1.2.1 dL_law_1109 rfl (lv_at hl 1 rfl) ?_
    refine la_arg (j := 1) X hS (lv_at hl 0 rfl) (lv_at hl 5 rfl) (by omega) hn.2 (by decide) dL_law_1110 dL_law_1111 dL_law_1113 dL_law_1114 dL_law_1115 ?_
    refine la_arg (j := 2) X hS (lv_at hl 0 rfl) (lv_at hl 5 rfl) (by omega) hn.2 (by decide) dL_law_1116 dL_law_1117 dL_law_1119 dL_law_1120 dL_law_1121 ?_
    refine la_arg (j := 3) X hS (lv_at hl 0 rfl) (lv_at hl 5 rfl) (by omega) hn.2 (by decide) dL_law_1122 dL_law_1123 dL_law_1125 dL_law_1126 dL_law_1127 ?_
    refine lv_aload_n X.1.1 X.1.2.1 dL_law_1128 rfl (lv_at hl 3 rfl) ?_
    refine la_callW (M2 := mL_mark) (n2 := 5) (As := [.ref (cw_a (cc_w K) 0), .int (xs (n + 1)), .int (xs (n + 2)), .int (xs (n + 3)), .ref qo]) (hh := [(0, 12, 15, 29), (0, 12, 19, 19)]) X hH hS (wr_mark_x1 h1) ⟨_, rfl⟩ (by decide +kernel) rfl gT_L_mark ⟨Nat.le_of_ble_eq_true rfl, Nat.le_of_ble_eq_true rfl⟩ hc hl.1 rfl (Nat.le_of_ble_eq_true rfl) dL_law_1129 (fun H1 locs1 hH1 hS1 => ?_)
    refine lv_istore (lv' := (6, .int 1) :: [(0, .ref b), (1, .ref (cw_a (cc_w K) 0)), (2, .ref (cw_a (cr_w K) 0)), (3, .ref qo), (4, .ref qd), (5, .int (nI n))]) X.1.1 X.1.2.1 dL_law_1132 hl (by decide) rfl (fun ls1 hl1 => ?_)
    refine lv_aload_n X.1.1 X.1.2.1 dL_law_1134 rfl (lv_at hl1 3 rfl) ?_
    refine la_arg (j := 1) X hS1 (lv_at hl1 1 rfl) (lv_at hl1 6 rfl) (by omega) hn.2 (by decide) dL_law_1135 dL_law_1136 dL_law_1138 dL_law_1139 dL_law_1140 ?_
    refine la_arg (j := 2) X hS1 (lv_at hl1 1 rfl) (lv_at hl1 6 rfl) (by omega) hn.2 (by decide) dL_law_1141 dL_law_1142 dL_law_1144 dL_law_1145 dL_law_1146 ?_
    refine la_arg (j := 3) X hS1 (lv_at hl1 1 rfl) (lv_at hl1 6 rfl) (by omega) hn.2 (by decide) dL_law_1147 dL_law_1148 dL_law_1150 dL_law_1151 dL_law_1152 ?_
    refine la_callR (As := [.int (xs (n + 1)), .int (xs (n + 2)), .int (xs (n + 3))]) X hH1 hS1 h2 okX11_mark rfl rfl gT_X11_mark ⟨Nat.le_of_ble_eq_true rfl, Nat.le_of_ble_eq_true rfl⟩ hc hl1.1 rfl (Nat.le_of_ble_eq_true rfl) dL_law_1153 (fun H2 locs2 hH2 hS2 => ?_)
    refine lv_istore (lv' := (7, .int r) :: (6, .int 1) :: [(0, .ref b), (1, .ref (cw_a (cc_w K) 0)), (2, .ref (cw_a (cr_w K) 0)), (3, .ref qo), (4, .ref qd), (5, .int (nI n))]) X.1.1 X.1.2.1 dL_law_1156 hl1 (by decide) rfl (fun ls2 hl2 => ?_)
    refine lv_aload_n X.1.1 X.1.2.1 dL_law_1158 rfl (lv_at hl2 4 rfl) ?_
    refine la_thrown X hH2 hS2 hc hl2.1 (Nat.le_of_ble_eq_true rfl) dL_law_1159 (fun H3 locs3 hH3 hS3 => ?_)
    refine lv_iload X.1.1 X.1.2.1 dL_law_1162 (lv_at hl2 1 rfl) ?_
    refine lv_icmp_eq (tgt := 1169) X.1.1 X.1.2.1 dL_law_1164 (by decide) (fun _ => ?_) (fun y => absurd h3 y)
    refine lv_iload X.1.1 X.1.2.1 dL_law_1169 (lv_at hl2 1 rfl) ?_
    have hg : W p K.1 e room_1 s m #[.ref b] below meth c H3 locs3 (cells + 1) (slots + 6) Q (F0 m 1186 ls2 []) := lv_goto (tgt := 2884) X.1.1 X.1.2.1 dL_law_1186 (by decide) (kk _ _ _ _ _ _ _ hH3 hS3 h4 (la_lv (la_lv hl2)))
    exact lv_if_ne (tgt := 1186) X.1.1 X.1.2.1 dL_law_1171 (by decide) (fun _ => hg) (fun y => absurd y (by decide))
  · refine lv_aload_n X.1.1 X.1.2.1 dL_law_1109 rfl (lv_at hl 1 rfl) ?_
    refine la_arg (j := 1) X hS (lv_at hl 0 rfl) (lv_at hl 5 rfl) (by omega) hn.2 (by decide) dL_law_1110 dL_law_1111 dL_law_1113 dL_law_1114 dL_law_1115 ?_
    refine la_arg (j := 2) X hS (lv_at hl 0 rfl) (lv_at hl 5 rfl) (by omega) hn.2 (by decide) dL_law_1116 dL_law_1117 dL_law_1119 dL_law_1120 dL_law_1121 ?_
    refine la_arg (j := 3) X hS (lv_at hl 0 rfl) (lv_at hl 5 rfl) (by omega) hn.2 (by decide) dL_law_1122 dL_law_1123 dL_law_1125 dL_law_1126 dL_law_1127 ?_
    refine lv_aload_n X.1.1 X.1.2.1 dL_law_1128 rfl (lv_at hl 3 rfl) ?_
    refine la_callW (M2 := mL_mark) (n2 := 5) (As := [.ref (cw_a (cc_w K) 0), .int (xs (n + 1)), .int (xs (n + 2)), .int (xs (n + 3)), .ref qo]) (hh := [(0, 12, 15, 29), (0, 12, 19, 19)]) X hH hS (wr_mark_x2 h1) ⟨_, rfl⟩ (by decide +kernel) rfl gT_L_mark ⟨Nat.le_of_ble_eq_true rfl, Nat.le_of_ble_eq_true rfl⟩ hc hl.1 rfl (Nat.le_of_ble_eq_true rfl) dL_law_1129 (fun H1 locs1 hH1 hS1 => ?_)
    refine lv_istore (lv' := (6, .int 2) :: [(0, .ref b), (1, .ref (cw_a (cc_w K) 0)), (2, .ref (cw_a (cr_w K) 0)), (3, .ref qo), (4, .ref qd), (5, .int (nI n))]) X.1.1 X.1.2.1 dL_law_1132 hl (by decide) rfl (fun ls1 hl1 => ?_)
    refine lv_aload_n X.1.1 X.1.2.1 dL_law_1134 rfl (lv_at hl1 3 rfl) ?_
    refine la_arg (j := 1) X hS1 (lv_at hl1 1 rfl) (lv_at hl1 6 rfl) (by omega) hn.2 (by decide) dL_law_1135 dL_law_1136 dL_law_1138 dL_law_1139 dL_law_1140 ?_
    refine la_arg (j := 2) X hS1 (lv_at hl1 1 rfl) (lv_at hl1 6 rfl) (by omega) hn.2 (by decide) dL_law_1141 dL_law_1142 dL_law_1144 dL_law_1145 dL_law_1146 ?_
    refine la_arg (j := 3) X hS1 (lv_at hl1 1 rfl) (lv_at hl1 6 rfl) (by omega) hn.2 (by decide) dL_law_1147 dL_law_1148 dL_law_1150 dL_law_1151 dL_law_1152 ?_
    refine la_callR (As := [.int (xs (n + 1)), .int (xs (n + 2)), .int (xs (n + 3))]) X hH1 hS1 h2 okX11_mark rfl rfl gT_X11_mark ⟨Nat.le_of_ble_eq_true rfl, Nat.le_of_ble_eq_true rfl⟩ hc hl1.1 rfl (Nat.le_of_ble_eq_true rfl) dL_law_1153 (fun H2 locs2 hH2 hS2 => ?_)
    refine lv_istore (lv' := (7, .int r) :: (6, .int 2) :: [(0, .ref b), (1, .ref (cw_a (cc_w K) 0)), (2, .ref (cw_a (cr_w K) 0)), (3, .ref qo), (4, .ref qd), (5, .int (nI n))]) X.1.1 X.1.2.1 dL_law_1156 hl1 (by decide) rfl (fun ls2 hl2 => ?_)
    refine lv_aload_n X.1.1 X.1.2.1 dL_law_1158 rfl (lv_at hl2 4 rfl) ?_
    refine la_thrown X hH2 hS2 hc hl2.1 (Nat.le_of_ble_eq_true rfl) dL_law_1159 (fun H3 locs3 hH3 hS3 => ?_)
    refine lv_iload X.1.1 X.1.2.1 dL_law_1162 (lv_at hl2 1 rfl) ?_
    refine lv_icmp_eq (tgt := 1169) X.1.1 X.1.2.1 dL_law_1164 (by decide) (fun _ => ?_) (fun y => absurd h3 y)
    refine lv_iload X.1.1 X.1.2.1 dL_law_1169 (lv_at hl2 1 rfl) ?_
    have hg : W p K.1 e room_1 s m #[.ref b] below meth c H3 locs3 (cells + 1) (slots + 6) Q (F0 m 1186 ls2 []) := lv_goto (tgt := 2884) X.1.1 X.1.2.1 dL_law_1186 (by decide) (kk _ _ _ _ _ _ _ hH3 hS3 h4 (la_lv (la_lv hl2)))
    exact lv_if_ne (tgt := 1186) X.1.1 X.1.2.1 dL_law_1171 (by decide) (fun _ => hg) (fun y => absurd y (by decide))
theorem lc_18 (X : la_X K p s m meth c b L xs qo qd cl cd) (F : la_F K) (hc : cells + 1 ≤ 1088 ∧ slots + 6 ≤ 17909) (hn : n + 6 ≤ L ∧ L ≤ 3072) (kk : la_T K p e s m below meth c b qo qd cl cd Q n (cells + 1) (slots + 6) 2884) : la_T K p e s m below meth c b qo qd cl cd Q n cells slots 1189 := by
  intro H locs ls I J f g hH hS hR hl
  rcases ca_favouriteFreeCell (K := K) F.1 F.2.1 hR (x := xs (n + 1)) with ⟨r, I2, J2, h1, h2, h3, h4⟩ | ⟨r, I2, J2, h1, h2, h3, h4⟩
  · refine lv_aload_n X.1.1 X.1.2.1 dL_law_1189 rfl (lv_at hl 1 rfl) ?_
    refine la_arg (j := 1) X hS (lv_at hl 0 rfl) (lv_at hl 5 rfl) (by omega) hn.2 (by decide) dL_law_1190 dL_law_1191 dL_law_1193 dL_law_1194 dL_law_1195 ?_
    refine lv_aload_n X.1.1 X.1.2.1 dL_law_1196 rfl (lv_at hl 3 rfl) ?_
    refine la_callW (M2 := mL_favouriteFreeCell) (n2 := 3) (As := [.ref (cw_a (cc_w K) 0), .int (xs (n + 1)), .ref qo]) (hh := [(0, 9, 12, 29)]) X hH hS (wr_favouriteFreeCell_ok h1) ⟨_, rfl⟩ (by decide +kernel) rfl gT_L_favouriteFreeCell ⟨Nat.le_of_ble_eq_true rfl, Nat.le_of_ble_eq_true rfl⟩ hc hl.1 rfl (Nat.le_of_ble_eq_true rfl) dL_law_1197 (fun H1 locs1 hH1 hS1 => ?_)
    refine lv_istore (lv' := (6, .int 0) :: [(0, .ref b), (1, .ref (cw_a (cc_w K) 0)), (2, .ref (cw_a (cr_w K) 0)), (3, .ref qo), (4, .ref qd), (5, .int (nI n))]) X.1.1 X.1.2.1 dL_law_1200 hl (by decide) rfl (fun ls1 hl1 => ?_)
    refine lv_aload_n X.1.1 X.1.2.1 dL_law_1202 rfl (lv_at hl1 3 rfl) ?_
    refine la_arg (j := 1) X hS1 (lv_at hl1 1 rfl) (lv_at hl1 6 rfl) (by omega) hn.2 (by decide) dL_law_1203 dL_law_1204 dL_law_1206 dL_law_1207 dL_law_1208 ?_
    refine la_callR (As := [.int (xs (n + 1))]) X hH1 hS1 h2 okX11_favouriteFreeCell rfl rfl gT_X11_favouriteFreeCell ⟨Nat.le_of_ble_eq_true rfl, Nat.le_of_ble_eq_true rfl⟩ hc hl1.1 rfl (Nat.le_of_ble_eq_true rfl) dL_law_1209 (fun H2 locs2 hH2 hS2 => ?_)
    refine lv_istore (lv' := (7, .int r) :: (6, .int 0) :: [(0, .ref b), (1, .ref (cw_a (cc_w K) 0)), (2, .ref (cw_a (cr_w K) 0)), (3, .ref qo), (4, .ref qd), (5, .int (nI n))]) X.1.1 X.1.2.1 dL_law_1212 hl1 (by decide) rfl (fun ls2 hl2 => ?_)
    refine lv_aload_n X.1.1 X.1.2.1 dL_law_1214 rfl (lv_at hl2 4 rfl) ?_
    refine la_thrown X hH2 hS2 hc hl2.1 (Nat.le_of_ble_eq_true rfl) dL_law_1215 (fun H3 locs3 hH3 hS3 => ?_)
    refine lv_iload X.1.1 X.1.2.1 dL_law_1218 (lv_at hl2 1 rfl) ?_
    refine lv_icmp_eq (tgt := 1225) X.1.1 X.1.2.1 dL_law_1220 (by decide) (fun _ => ?_) (fun y => absurd h3 y)
    refine lv_iload X.1.1 X.1.2.1 dL_law_1225 (lv_at hl2 1 rfl) ?_
    have hg : W p K.1 e room_1 s m #[.ref b] below meth c H3 locs3 (cells + 1) (slots + 6) Q (F0 m 1242 ls2 []) := lv_goto (tgt := 2884) X.1.1 X.1.2.1 dL_law_1242 (by decide) (kk _ _ _ _ _ _ _ hH3 hS3 h4 (la_lv (la_lv hl2)))
    refine lv_if_ne (tgt := 1242) X.1.1 X.1.2.1 dL_law_1227 (by decide) (fun y => absurd rfl y) (fun _ => ?_)
    refine lv_aload_n X.1.1 X.1.2.1 dL_law_1230 rfl (lv_at hl2 5 rfl) ?_
    refine lv_iconst (v := 0) X.1.1 X.1.2.1 dL_law_1231 (by decide) ?_
    refine va_lald X.1.1 X.1.2.1 X.2.2.2.2.2.2.1 hH3.2.2.1 0 0 rfl rfl (vp_in_nI (n := 0) (N := 1) (by omega) (by omega)) dL_law_1232 ?_
    refine lv_iload X.1.1 X.1.2.1 dL_law_1233 (lv_at hl2 0 rfl) ?_
    refine lv_i2l (v := r.toInt64) X.1.1 X.1.2.1 dL_law_1235 rfl ?_
    refine W.lcmp X.1.1 X.1.2.1 dL_law_1236 ?_
    exact lv_if_eq (tgt := 1242) X.1.1 X.1.2.1 dL_law_1237 (by decide) (fun _ => hg) (fun y => absurd (la_cmp _) y)
  · refine lv_aload_n X.1.1 X.1.2.1 dL_law_1189 rfl (lv_at hl 1 rfl) ?_
    refine la_arg (j := 1) X hS (lv_at hl 0 rfl) (lv_at hl 5 rfl) (by omega) hn.2 (by decide) dL_law_1190 dL_law_1191 dL_law_1193 dL_law_1194 dL_law_1195 ?_
    refine lv_aload_n X.1.1 X.1.2.1 dL_law_1196 rfl (lv_at hl 3 rfl) ?_
    refine la_callW (M2 := mL_favouriteFreeCell) (n2 := 3) (As := [.ref (cw_a (cc_w K) 0), .int (xs (n + 1)), .ref qo]) (hh := [(0, 9, 12, 29)]) X hH hS (wr_favouriteFreeCell_x1 h1) ⟨_, rfl⟩ (by decide +kernel) rfl gT_L_favouriteFreeCell ⟨Nat.le_of_ble_eq_true rfl, Nat.le_of_ble_eq_true rfl⟩ hc hl.1 rfl (Nat.le_of_ble_eq_true rfl) dL_law_1197 (fun H1 locs1 hH1 hS1 => ?_)
    refine lv_istore (lv' := (6, .int 1) :: [(0, .ref b), (1, .ref (cw_a (cc_w K) 0)), (2, .ref (cw_a (cr_w K) 0)), (3, .ref qo), (4, .ref qd), (5, .int (nI n))]) X.1.1 X.1.2.1 dL_law_1200 hl (by decide) rfl (fun ls1 hl1 => ?_)
    refine lv_aload_n X.1.1 X.1.2.1 dL_law_1202 rfl (lv_at hl1 3 rfl) ?_
    refine la_arg (j := 1) X hS1 (lv_at hl1 1 rfl) (lv_at hl1 6 rfl) (by omega) hn.2 (by decide) dL_law_1203 dL_law_1204 dL_law_1206 dL_law_1207 dL_law_1208 ?_
    refine la_callR (As := [.int (xs (n + 1))]) X hH1 hS1 h2 okX11_favouriteFreeCell rfl rfl gT_X11_favouriteFreeCell ⟨Nat.le_of_ble_eq_true rfl, Nat.le_of_ble_eq_true rfl⟩ hc hl1.1 rfl (Nat.le_of_ble_eq_true rfl) dL_law_1209 (fun H2 locs2 hH2 hS2 => ?_)
    refine lv_istore (lv' := (7, .int r) :: (6, .int 1) :: [(0, .ref b), (1, .ref (cw_a (cc_w K) 0)), (2, .ref (cw_a (cr_w K) 0)), (3, .ref qo), (4, .ref qd), (5, .int (nI n))]) X.1.1 X.1.2.1 dL_law_1212 hl1 (by decide) rfl (fun ls2 hl2 => ?_)
    refine lv_aload_n X.1.1 X.1.2.1 dL_law_1214 rfl (lv_at hl2 4 rfl) ?_
    refine la_thrown X hH2 hS2 hc hl2.1 (Nat.le_of_ble_eq_true rfl) dL_law_1215 (fun H3 locs3 hH3 hS3 => ?_)
    refine lv_iload X.1.1 X.1.2.1 dL_law_1218 (lv_at hl2 1 rfl) ?_
    refine lv_icmp_eq (tgt := 1225) X.1.1 X.1.2.1 dL_law_1220 (by decide) (fun _ => ?_) (fun y => absurd h3 y)
    refine lv_iload X.1.1 X.1.2.1 dL_law_1225 (lv_at hl2 1 rfl) ?_
    have hg : W p K.1 e room_1 s m #[.ref b] below meth c H3 locs3 (cells + 1) (slots + 6) Q (F0 m 1242 ls2 []) := lv_goto (tgt := 2884) X.1.1 X.1.2.1 dL_law_1242 (by decide) (kk _ _ _ _ _ _ _ hH3 hS3 h4 (la_lv (la_lv hl2)))
    exact lv_if_ne (tgt := 1242) X.1.1 X.1.2.1 dL_law_1227 (by decide) (fun _ => hg) (fun y => absurd y (by decide))
theorem lc_19 (X : la_X K p s m meth c b L xs qo qd cl cd) (F : la_F K) (hc : cells + 1 ≤ 1088 ∧ slots + 6 ≤ 17909) (hn : n + 6 ≤ L ∧ L ≤ 3072) (kk : la_T K p e s m below meth c b qo qd cl cd Q n (cells + 1) (slots + 6) 2884) : la_T K p e s m below meth c b qo qd cl cd Q n cells slots 1245 := by
  intro H locs ls I J f g hH hS hR hl
  rcases ca_envies (K := K) F.1 F.2.1 hR (x := xs (n + 1)) (y := xs (n + 2)) with ⟨r, I2, J2, h1, h2, h3, h4⟩ | ⟨r, I2, J2, h1, h2, h3, h4⟩
  · refine lv_aload_n X.1.1 X.1.2.1 dL_law_1245 rfl (lv_at hl 1 rfl) ?_
    refine la_arg (j := 1) X hS (lv_at hl 0 rfl) (lv_at hl 5 rfl) (by omega) hn.2 (by decide) dL_law_1246 dL_law_1247 dL_law_1249 dL_law_1250 dL_law_1251 ?_
    refine la_arg (j := 2) X hS (lv_at hl 0 rfl) (lv_at hl 5 rfl) (by omega) hn.2 (by decide) dL_law_1252 dL_law_1253 dL_law_1255 dL_law_1256 dL_law_1257 ?_
    refine lv_aload_n X.1.1 X.1.2.1 dL_law_1258 rfl (lv_at hl 3 rfl) ?_
    refine la_callW (M2 := mL_envies) (n2 := 4) (As := [.ref (cw_a (cc_w K) 0), .int (xs (n + 1)), .int (xs (n + 2)), .ref qo]) (hh := [(0, 17, 20, 29)]) X hH hS (wr_envies_ok h1) ⟨_, rfl⟩ (by decide +kernel) rfl gT_L_envies ⟨Nat.le_of_ble_eq_true rfl, Nat.le_of_ble_eq_true rfl⟩ hc hl.1 rfl (Nat.le_of_ble_eq_true rfl) dL_law_1259 (fun H1 locs1 hH1 hS1 => ?_)
    refine lv_istore (lv' := (6, .int 0) :: [(0, .ref b), (1, .ref (cw_a (cc_w K) 0)), (2, .ref (cw_a (cr_w K) 0)), (3, .ref qo), (4, .ref qd), (5, .int (nI n))]) X.1.1 X.1.2.1 dL_law_1262 hl (by decide) rfl (fun ls1 hl1 => ?_)
    refine lv_aload_n X.1.1 X.1.2.1 dL_law_1264 rfl (lv_at hl1 3 rfl) ?_
    refine la_arg (j := 1) X hS1 (lv_at hl1 1 rfl) (lv_at hl1 6 rfl) (by omega) hn.2 (by decide) dL_law_1265 dL_law_1266 dL_law_1268 dL_law_1269 dL_law_1270 ?_
    refine la_arg (j := 2) X hS1 (lv_at hl1 1 rfl) (lv_at hl1 6 rfl) (by omega) hn.2 (by decide) dL_law_1271 dL_law_1272 dL_law_1274 dL_law_1275 dL_law_1276 ?_
    refine la_callR (As := [.int (xs (n + 1)), .int (xs (n + 2))]) X hH1 hS1 h2 okX11_envies rfl rfl gT_X11_envies ⟨Nat.le_of_ble_eq_true rfl, Nat.le_of_ble_eq_true rfl⟩ hc hl1.1 rfl (Nat.le_of_ble_eq_true rfl) dL_law_1277 (fun H2 locs2 hH2 hS2 => ?_)
    refine lv_istore (lv' := (7, .int r) :: (6, .int 0) :: [(0, .ref b), (1, .ref (cw_a (cc_w K) 0)), (2, .ref (cw_a (cr_w K) 0)), (3, .ref qo), (4, .ref qd), (5, .int (nI n))]) X.1.1 X.1.2.1 dL_law_1280 hl1 (by decide) rfl (fun ls2 hl2 => ?_)
    refine lv_aload_n X.1.1 X.1.2.1 dL_law_1282 rfl (lv_at hl2 4 rfl) ?_
    refine la_thrown X hH2 hS2 hc hl2.1 (Nat.le_of_ble_eq_true rfl) dL_law_1283 (fun H3 locs3 hH3 hS3 => ?_)
    refine lv_iload X.1.1 X.1.2.1 dL_law_1286 (lv_at hl2 1 rfl) ?_
    refine lv_icmp_eq (tgt := 1293) X.1.1 X.1.2.1 dL_law_1288 (by decide) (fun _ => ?_) (fun y => absurd h3 y)
    refine lv_iload X.1.1 X.1.2.1 dL_law_1293 (lv_at hl2 1 rfl) ?_
    have hg : W p K.1 e room_1 s m #[.ref b] below meth c H3 locs3 (cells + 1) (slots + 6) Q (F0 m 1317 ls2 []) := lv_goto (tgt := 2884) X.1.1 X.1.2.1 dL_law_1317 (by decide) (kk _ _ _ _ _ _ _ hH3 hS3 h4 (la_lv (la_lv hl2)))
    refine lv_if_ne (tgt := 1317) X.1.1 X.1.2.1 dL_law_1295 (by decide) (fun y => absurd rfl y) (fun _ => ?_)
    refine lv_aload_n X.1.1 X.1.2.1 dL_law_1298 rfl (lv_at hl2 5 rfl) ?_
    refine lv_iconst (v := 0) X.1.1 X.1.2.1 dL_law_1299 (by decide) ?_
    refine va_lald X.1.1 X.1.2.1 X.2.2.2.2.2.2.1 hH3.2.2.1 0 0 rfl rfl (vp_in_nI (n := 0) (N := 1) (by omega) (by omega)) dL_law_1300 ?_
    refine lv_iload X.1.1 X.1.2.1 dL_law_1301 (lv_at hl2 0 rfl) ?_
    refine lv_if_eq (tgt := 1310) X.1.1 X.1.2.1 dL_law_1303 (by decide) (fun y => ?_) (fun y => ?_)
    · refine lv_lconst (v := 0) X.1.1 X.1.2.1 dL_law_1310 (by decide) ?_
      refine W.lcmp X.1.1 X.1.2.1 dL_law_1311 ?_
      exact lv_if_eq (tgt := 1317) X.1.1 X.1.2.1 dL_law_1312 (by decide) (fun _ => hg) (fun z => absurd (la_cmp_if_0 y) z)
    · refine lv_lconst (v := 1) X.1.1 X.1.2.1 dL_law_1306 (by decide) ?_
      refine lv_goto (tgt := 1311) X.1.1 X.1.2.1 dL_law_1307 (by decide) ?_
      refine W.lcmp X.1.1 X.1.2.1 dL_law_1311 ?_
      exact lv_if_eq (tgt := 1317) X.1.1 X.1.2.1 dL_law_1312 (by decide) (fun _ => hg) (fun z => absurd (la_cmp_if_1 y) z)
  · refine lv_aload_n X.1.1 X.1.2.1 dL_law_1245 rfl (lv_at hl 1 rfl) ?_
    refine la_arg (j := 1) X hS (lv_at hl 0 rfl) (lv_at hl 5 rfl) (by omega) hn.2 (by decide) dL_law_1246 dL_law_1247 dL_law_1249 dL_law_1250 dL_law_1251 ?_
    refine la_arg (j := 2) X hS (lv_at hl 0 rfl) (lv_at hl 5 rfl) (by omega) hn.2 (by decide) dL_law_1252 dL_law_1253 dL_law_1255 dL_law_1256 dL_law_1257 ?_
    refine lv_aload_n X.1.1 X.1.2.1 dL_law_1258 rfl (lv_at hl 3 rfl) ?_
    refine la_callW (M2 := mL_envies) (n2 := 4) (As := [.ref (cw_a (cc_w K) 0), .int (xs (n + 1)), .int (xs (n + 2)), .ref qo]) (hh := [(0, 17, 20, 29)]) X hH hS (wr_envies_x1 h1) ⟨_, rfl⟩ (by decide +kernel) rfl gT_L_envies ⟨Nat.le_of_ble_eq_true rfl, Nat.le_of_ble_eq_true rfl⟩ hc hl.1 rfl (Nat.le_of_ble_eq_true rfl) dL_law_1259 (fun H1 locs1 hH1 hS1 => ?_)
    refine lv_istore (lv' := (6, .int 1) :: [(0, .ref b), (1, .ref (cw_a (cc_w K) 0)), (2, .ref (cw_a (cr_w K) 0)), (3, .ref qo), (4, .ref qd), (5, .int (nI n))]) X.1.1 X.1.2.1 dL_law_1262 hl (by decide) rfl (fun ls1 hl1 => ?_)
    refine lv_aload_n X.1.1 X.1.2.1 dL_law_1264 rfl (lv_at hl1 3 rfl) ?_
    refine la_arg (j := 1) X hS1 (lv_at hl1 1 rfl) (lv_at hl1 6 rfl) (by omega) hn.2 (by decide) dL_law_1265 dL_law_1266 dL_law_1268 dL_law_1269 dL_law_1270 ?_
    refine la_arg (j := 2) X hS1 (lv_at hl1 1 rfl) (lv_at hl1 6 rfl) (by omega) hn.2 (by decide) dL_law_1271 dL_law_1272 dL_law_1274 dL_law_1275 dL_law_1276 ?_
    refine la_callR (As := [.int (xs (n + 1)), .int (xs (n + 2))]) X hH1 hS1 h2 okX11_envies rfl rfl gT_X11_envies ⟨Nat.le_of_ble_eq_true rfl, Nat.le_of_ble_eq_true rfl⟩ hc hl1.1 rfl (Nat.le_of_ble_eq_true rfl) dL_law_1277 (fun H2 locs2 hH2 hS2 => ?_)
    refine lv_istore (lv' := (7, .int r) :: (6, .int 1) :: [(0, .ref b), (1, .ref (cw_a (cc_w K) 0)), (2, .ref (cw_a (cr_w K) 0)), (3, .ref qo), (4, .ref qd), (5, .int (nI n))]) X.1.1 X.1.2.1 dL_law_1280 hl1 (by decide) rfl (fun ls2 hl2 => ?_)
    refine lv_aload_n X.1.1 X.1.2.1 dL_law_1282 rfl (lv_at hl2 4 rfl) ?_
    refine la_thrown X hH2 hS2 hc hl2.1 (Nat.le_of_ble_eq_true rfl) dL_law_1283 (fun H3 locs3 hH3 hS3 => ?_)
    refine lv_iload X.1.1 X.1.2.1 dL_law_1286 (lv_at hl2 1 rfl) ?_
    refine lv_icmp_eq (tgt := 1293) X.1.1 X.1.2.1 dL_law_1288 (by decide) (fun _ => ?_) (fun y => absurd h3 y)
    refine lv_iload X.1.1 X.1.2.1 dL_law_1293 (lv_at hl2 1 rfl) ?_
    have hg : W p K.1 e room_1 s m #[.ref b] below meth c H3 locs3 (cells + 1) (slots + 6) Q (F0 m 1317 ls2 []) := lv_goto (tgt := 2884) X.1.1 X.1.2.1 dL_law_1317 (by decide) (kk _ _ _ _ _ _ _ hH3 hS3 h4 (la_lv (la_lv hl2)))
    exact lv_if_ne (tgt := 1317) X.1.1 X.1.2.1 dL_law_1295 (by decide) (fun _ => hg) (fun y => absurd y (by decide))
theorem lc_20 (X : la_X K p s m meth c b L xs qo qd cl cd) (F : la_F K) (hc : cells + 1 ≤ 1088 ∧ slots + 6 ≤ 17909) (hn : n + 6 ≤ L ∧ L ≤ 3072) (kk : la_T K p e s m below meth c b qo qd cl cd Q n (cells + 1) (slots + 6) 2884) : la_T K p e s m below meth c b qo qd cl cd Q n cells slots 1320 := by
  intro H locs ls I J f g hH hS hR hl
  rcases ca_isMild (K := K) F.1 F.2.1 hR (x := xs (n + 1)) (y := xs (n + 2)) with ⟨r, I2, J2, h1, h2, h3, h4⟩ | ⟨r, I2, J2, h1, h2, h3, h4⟩ | ⟨r, I2, J2, h1, h2, h3, h4⟩
  · refine lv_aload_n X.1.1 X.1.2.1 dL_law_1320 rfl (lv_at hl 1 rfl) ?_
    refine la_arg (j := 1) X hS (lv_at hl 0 rfl) (lv_at hl 5 rfl) (by omega) hn.2 (by decide) dL_law_1321 dL_law_1322 dL_law_1324 dL_law_1325 dL_law_1326 ?_
    refine la_arg (j := 2) X hS (lv_at hl 0 rfl) (lv_at hl 5 rfl) (by omega) hn.2 (by decide) dL_law_1327 dL_law_1328 dL_law_1330 dL_law_1331 dL_law_1332 ?_
    refine lv_aload_n X.1.1 X.1.2.1 dL_law_1333 rfl (lv_at hl 3 rfl) ?_
    refine la_callW (M2 := mL_isMild) (n2 := 4) (As := [.ref (cw_a (cc_w K) 0), .int (xs (n + 1)), .int (xs (n + 2)), .ref qo]) (hh := [(0, 17, 20, 29), (0, 17, 24, 13)]) X hH hS (wr_isMild_ok h1) ⟨_, rfl⟩ (by decide +kernel) rfl gT_L_isMild ⟨Nat.le_of_ble_eq_true rfl, Nat.le_of_ble_eq_true rfl⟩ hc hl.1 rfl (Nat.le_of_ble_eq_true rfl) dL_law_1334 (fun H1 locs1 hH1 hS1 => ?_)
    refine lv_istore (lv' := (6, .int 0) :: [(0, .ref b), (1, .ref (cw_a (cc_w K) 0)), (2, .ref (cw_a (cr_w K) 0)), (3, .ref qo), (4, .ref qd), (5, .int (nI n))]) X.1.1 X.1.2.1 dL_law_1337 hl (by decide) rfl (fun ls1 hl1 => ?_)
    refine lv_aload_n X.1.1 X.1.2.1 dL_law_1339 rfl (lv_at hl1 3 rfl) ?_
    refine la_arg (j := 1) X hS1 (lv_at hl1 1 rfl) (lv_at hl1 6 rfl) (by omega) hn.2 (by decide) dL_law_1340 dL_law_1341 dL_law_1343 dL_law_1344 dL_law_1345 ?_
    refine la_arg (j := 2) X hS1 (lv_at hl1 1 rfl) (lv_at hl1 6 rfl) (by omega) hn.2 (by decide) dL_law_1346 dL_law_1347 dL_law_1349 dL_law_1350 dL_law_1351 ?_
    refine la_callR (As := [.int (xs (n + 1)), .int (xs (n + 2))]) X hH1 hS1 h2 okX11_isMild rfl rfl gT_X11_isMild ⟨Nat.le_of_ble_eq_true rfl, Nat.le_of_ble_eq_true rfl⟩ hc hl1.1 rfl (Nat.le_of_ble_eq_true rfl) dL_law_1352 (fun H2 locs2 hH2 hS2 => ?_)
    refine lv_istore (lv' := (7, .int r) :: (6, .int 0) :: [(0, .ref b), (1, .ref (cw_a (cc_w K) 0)), (2, .ref (cw_a (cr_w K) 0)), (3, .ref qo), (4, .ref qd), (5, .int (nI n))]) X.1.1 X.1.2.1 dL_law_1355 hl1 (by decide) rfl (fun ls2 hl2 => ?_)
    refine lv_aload_n X.1.1 X.1.2.1 dL_law_1357 rfl (lv_at hl2 4 rfl) ?_
    refine la_thrown X hH2 hS2 hc hl2.1 (Nat.le_of_ble_eq_true rfl) dL_law_1358 (fun H3 locs3 hH3 hS3 => ?_)
    refine lv_iload X.1.1 X.1.2.1 dL_law_1361 (lv_at hl2 1 rfl) ?_
    refine lv_icmp_eq (tgt := 1368) X.1.1 X.1.2.1 dL_law_1363 (by decide) (fun _ => ?_) (fun y => absurd h3 y)
    refine lv_iload X.1.1 X.1.2.1 dL_law_1368 (lv_at hl2 1 rfl) ?_
    have hg : W p K.1 e room_1 s m #[.ref b] below meth c H3 locs3 (cells + 1) (slots + 6) Q (F0 m 1392 ls2 []) := lv_goto (tgt := 2884) X.1.1 X.1.2.1 dL_law_1392 (by decide) (kk _ _ _ _ _ _ _ hH3 hS3 h4 (la_lv (la_lv hl2)))
    refine lv_if_ne (tgt := 1392) X.1.1 X.1.2.1 dL_law_1370 (by decide) (fun y => absurd rfl y) (fun _ => ?_)
    refine lv_aload_n X.1.1 X.1.2.1 dL_law_1373 rfl (lv_at hl2 5 rfl) ?_
    refine lv_iconst (v := 0) X.1.1 X.1.2.1 dL_law_1374 (by decide) ?_
    refine va_lald X.1.1 X.1.2.1 X.2.2.2.2.2.2.1 hH3.2.2.1 0 0 rfl rfl (vp_in_nI (n := 0) (N := 1) (by omega) (by omega)) dL_law_1375 ?_
    refine lv_iload X.1.1 X.1.2.1 dL_law_1376 (lv_at hl2 0 rfl) ?_
    refine lv_if_eq (tgt := 1385) X.1.1 X.1.2.1 dL_law_1378 (by decide) (fun y => ?_) (fun y => ?_)
    · refine lv_lconst (v := 0) X.1.1 X.1.2.1 dL_law_1385 (by decide) ?_
      refine W.lcmp X.1.1 X.1.2.1 dL_law_1386 ?_
      exact lv_if_eq (tgt := 1392) X.1.1 X.1.2.1 dL_law_1387 (by decide) (fun _ => hg) (fun z => absurd (la_cmp_if_0 y) z)
    · refine lv_lconst (v := 1) X.1.1 X.1.2.1 dL_law_1381 (by decide) ?_
      refine lv_goto (tgt := 1386) X.1.1 X.1.2.1 dL_law_1382 (by decide) ?_
      refine W.lcmp X.1.1 X.1.2.1 dL_law_1386 ?_
      exact lv_if_eq (tgt := 1392) X.1.1 X.1.2.1 dL_law_1387 (by decide) (fun _ => hg) (fun z => absurd (la_cmp_if_1 y) z)
  · refine lv_aload_n X.1.1 X.1.2.1 dL_law_1320 rfl (lv_at hl 1 rfl) ?_
    refine la_arg (j := 1) X hS (lv_at hl 0 rfl) (lv_at hl 5 rfl) (by omega) hn.2 (by decide) dL_law_1321 dL_law_1322 dL_law_1324 dL_law_1325 dL_law_1326 ?_
    refine la_arg (j := 2) X hS (lv_at hl 0 rfl) (lv_at hl 5 rfl) (by omega) hn.2 (by decide) dL_law_1327 dL_law_1328 dL_law_1330 dL_law_1331 dL_law_1332 ?_
    refine lv_aload_n X.1.1 X.1.2.1 dL_law_1333 rfl (lv_at hl 3 rfl) ?_
    refine la_callW (M2 := mL_isMild) (n2 := 4) (As := [.ref (cw_a (cc_w K) 0), .int (xs (n + 1)), .int (xs (n + 2)), .ref qo]) (hh := [(0, 17, 20, 29), (0, 17, 24, 13)]) X hH hS (wr_isMild_x1 h1) ⟨_, rfl⟩ (by decide +kernel) rfl gT_L_isMild ⟨Nat.le_of_ble_eq_true rfl, Nat.le_of_ble_eq_true rfl⟩ hc hl.1 rfl (Nat.le_of_ble_eq_true rfl) dL_law_1334 (fun H1 locs1 hH1 hS1 => ?_)
    refine lv_istore (lv' := (6, .int 1) :: [(0, .ref b), (1, .ref (cw_a (cc_w K) 0)), (2, .ref (cw_a (cr_w K) 0)), (3, .ref qo), (4, .ref qd), (5, .int (nI n))]) X.1.1 X.1.2.1 dL_law_1337 hl (by decide) rfl (fun ls1 hl1 => ?_)
    refine lv_aload_n X.1.1 X.1.2.1 dL_law_1339 rfl (lv_at hl1 3 rfl) ?_
    refine la_arg (j := 1) X hS1 (lv_at hl1 1 rfl) (lv_at hl1 6 rfl) (by omega) hn.2 (by decide) dL_law_1340 dL_law_1341 dL_law_1343 dL_law_1344 dL_law_1345 ?_
    refine la_arg (j := 2) X hS1 (lv_at hl1 1 rfl) (lv_at hl1 6 rfl) (by omega) hn.2 (by decide) dL_law_1346 dL_law_1347 dL_law_1349 dL_law_1350 dL_law_1351 ?_
    refine la_callR (As := [.int (xs (n + 1)), .int (xs (n + 2))]) X hH1 hS1 h2 okX11_isMild rfl rfl gT_X11_isMild ⟨Nat.le_of_ble_eq_true rfl, Nat.le_of_ble_eq_true rfl⟩ hc hl1.1 rfl (Nat.le_of_ble_eq_true rfl) dL_law_1352 (fun H2 locs2 hH2 hS2 => ?_)
    refine lv_istore (lv' := (7, .int r) :: (6, .int 1) :: [(0, .ref b), (1, .ref (cw_a (cc_w K) 0)), (2, .ref (cw_a (cr_w K) 0)), (3, .ref qo), (4, .ref qd), (5, .int (nI n))]) X.1.1 X.1.2.1 dL_law_1355 hl1 (by decide) rfl (fun ls2 hl2 => ?_)
    refine lv_aload_n X.1.1 X.1.2.1 dL_law_1357 rfl (lv_at hl2 4 rfl) ?_
    refine la_thrown X hH2 hS2 hc hl2.1 (Nat.le_of_ble_eq_true rfl) dL_law_1358 (fun H3 locs3 hH3 hS3 => ?_)
    refine lv_iload X.1.1 X.1.2.1 dL_law_1361 (lv_at hl2 1 rfl) ?_
    refine lv_icmp_eq (tgt := 1368) X.1.1 X.1.2.1 dL_law_1363 (by decide) (fun _ => ?_) (fun y => absurd h3 y)
    refine lv_iload X.1.1 X.1.2.1 dL_law_1368 (lv_at hl2 1 rfl) ?_
    have hg : W p K.1 e room_1 s m #[.ref b] below meth c H3 locs3 (cells + 1) (slots + 6) Q (F0 m 1392 ls2 []) := lv_goto (tgt := 2884) X.1.1 X.1.2.1 dL_law_1392 (by decide) (kk _ _ _ _ _ _ _ hH3 hS3 h4 (la_lv (la_lv hl2)))
    exact lv_if_ne (tgt := 1392) X.1.1 X.1.2.1 dL_law_1370 (by decide) (fun _ => hg) (fun y => absurd y (by decide))
  · refine lv_aload_n X.1.1 X.1.2.1 dL_law_1320 rfl (lv_at hl 1 rfl) ?_
    refine la_arg (j := 1) X hS (lv_at hl 0 rfl) (lv_at hl 5 rfl) (by omega) hn.2 (by decide) dL_law_1321 dL_law_1322 dL_law_1324 dL_law_1325 dL_law_1326 ?_
    refine la_arg (j := 2) X hS (lv_at hl 0 rfl) (lv_at hl 5 rfl) (by omega) hn.2 (by decide) dL_law_1327 dL_law_1328 dL_law_1330 dL_law_1331 dL_law_1332 ?_
    refine lv_aload_n X.1.1 X.1.2.1 dL_law_1333 rfl (lv_at hl 3 rfl) ?_
    refine la_callW (M2 := mL_isMild) (n2 := 4) (As := [.ref (cw_a (cc_w K) 0), .int (xs (n + 1)), .int (xs (n + 2)), .ref qo]) (hh := [(0, 17, 20, 29), (0, 17, 24, 13)]) X hH hS (wr_isMild_x2 h1) ⟨_, rfl⟩ (by decide +kernel) rfl gT_L_isMild ⟨Nat.le_of_ble_eq_true rfl, Nat.le_of_ble_eq_true rfl⟩ hc hl.1 rfl (Nat.le_of_ble_eq_true rfl) dL_law_1334 (fun H1 locs1 hH1 hS1 => ?_)
    refine lv_istore (lv' := (6, .int 2) :: [(0, .ref b), (1, .ref (cw_a (cc_w K) 0)), (2, .ref (cw_a (cr_w K) 0)), (3, .ref qo), (4, .ref qd), (5, .int (nI n))]) X.1.1 X.1.2.1 dL_law_1337 hl (by decide) rfl (fun ls1 hl1 => ?_)
    refine lv_aload_n X.1.1 X.1.2.1 dL_law_1339 rfl (lv_at hl1 3 rfl) ?_
    refine la_arg (j := 1) X hS1 (lv_at hl1 1 rfl) (lv_at hl1 6 rfl) (by omega) hn.2 (by decide) dL_law_1340 dL_law_1341 dL_law_1343 dL_law_1344 dL_law_1345 ?_
    refine la_arg (j := 2) X hS1 (lv_at hl1 1 rfl) (lv_at hl1 6 rfl) (by omega) hn.2 (by decide) dL_law_1346 dL_law_1347 dL_law_1349 dL_law_1350 dL_law_1351 ?_
    refine la_callR (As := [.int (xs (n + 1)), .int (xs (n + 2))]) X hH1 hS1 h2 okX11_isMild rfl rfl gT_X11_isMild ⟨Nat.le_of_ble_eq_true rfl, Nat.le_of_ble_eq_true rfl⟩ hc hl1.1 rfl (Nat.le_of_ble_eq_true rfl) dL_law_1352 (fun H2 locs2 hH2 hS2 => ?_)
    refine lv_istore (lv' := (7, .int r) :: (6, .int 2) :: [(0, .ref b), (1, .ref (cw_a (cc_w K) 0)), (2, .ref (cw_a (cr_w K) 0)), (3, .ref qo), (4, .ref qd), (5, .int (nI n))]) X.1.1 X.1.2.1 dL_law_1355 hl1 (by decide) rfl (fun ls2 hl2 => ?_)
    refine lv_aload_n X.1.1 X.1.2.1 dL_law_1357 rfl (lv_at hl2 4 rfl) ?_
    refine la_thrown X hH2 hS2 hc hl2.1 (Nat.le_of_ble_eq_true rfl) dL_law_1358 (fun H3 locs3 hH3 hS3 => ?_)
    refine lv_iload X.1.1 X.1.2.1 dL_law_1361 (lv_at hl2 1 rfl) ?_
    refine lv_icmp_eq (tgt := 1368) X.1.1 X.1.2.1 dL_law_1363 (by decide) (fun _ => ?_) (fun y => absurd h3 y)
    refine lv_iload X.1.1 X.1.2.1 dL_law_1368 (lv_at hl2 1 rfl) ?_
    have hg : W p K.1 e room_1 s m #[.ref b] below meth c H3 locs3 (cells + 1) (slots + 6) Q (F0 m 1392 ls2 []) := lv_goto (tgt := 2884) X.1.1 X.1.2.1 dL_law_1392 (by decide) (kk _ _ _ _ _ _ _ hH3 hS3 h4 (la_lv (la_lv hl2)))
    exact lv_if_ne (tgt := 1392) X.1.1 X.1.2.1 dL_law_1370 (by decide) (fun _ => hg) (fun y => absurd y (by decide))
theorem lc_21 (X : la_X K p s m meth c b L xs qo qd cl cd) (F : la_F K) (hc : cells + 1 ≤ 1088 ∧ slots + 6 ≤ 17909) (hn : n + 6 ≤ L ∧ L ≤ 3072) (kk : la_T K p e s m below meth c b qo qd cl cd Q n (cells + 1) (slots + 6) 2884) : la_T K p e s m below meth c b qo qd cl cd Q n cells slots 1395 := by
  intro H locs ls I J f g hH hS hR hl
  obtain ⟨r, I2, J2, h1, h2, h3, h4⟩ := ca_envyCount (K := K) hR
  refine W.widen (k := cells + 1) (n := slots + 6) (by omega) (by omega) ?_
  refine lv_aload_n X.1.1 X.1.2.1 dL_law_1395 rfl (lv_at hl 1 rfl) ?_
  refine la_callC (As := []) X hH hS h1 okX10_envyCount rfl rfl gT_X10_envyCount ⟨Nat.le_of_ble_eq_true rfl, Nat.le_of_ble_eq_true rfl⟩ hc hl.1 rfl (Nat.le_of_ble_eq_true rfl) dL_law_1396 (fun H1 locs1 hH1 hS1 => ?_)
  refine lv_aload_n X.1.1 X.1.2.1 dL_law_1399 rfl (lv_at hl 2 rfl) ?_
  refine la_callR (As := []) X hH1 hS1 h2 okX11_envyCount rfl rfl gT_X11_envyCount ⟨Nat.le_of_ble_eq_true rfl, Nat.le_of_ble_eq_true rfl⟩ hc hl.1 rfl (Nat.le_of_ble_eq_true rfl) dL_law_1400 (fun H2 locs2 hH2 hS2 => ?_)
  exact lv_icmp_eq (tgt := 2884) X.1.1 X.1.2.1 dL_law_1403 (by decide) (fun _ => kk _ _ _ _ _ _ _ hH2 hS2 h4 hl) (fun y => absurd rfl y)
theorem lc_22 (X : la_X K p s m meth c b L xs qo qd cl cd) (F : la_F K) (hc : cells + 1 ≤ 1088 ∧ slots + 6 ≤ 17909) (hn : n + 6 ≤ L ∧ L ≤ 3072) (kk : la_T K p e s m below meth c b qo qd cl cd Q n (cells + 1) (slots + 6) 2884) : la_T K p e s m below meth c b qo qd cl cd Q n cells slots 1408 := by
  intro H locs ls I J f g hH hS hR hl
  obtain ⟨r, I2, J2, h1, h2, h3, h4⟩ := ca_strongEnvyCount (K := K) hR
  refine W.widen (k := cells + 1) (n := slots + 6) (by omega) (by omega) ?_
  refine lv_aload_n X.1.1 X.1.2.1 dL_law_1408 rfl (lv_at hl 1 rfl) ?_
  refine la_callC (As := []) X hH hS h1 okX10_strongEnvyCount rfl rfl gT_X10_strongEnvyCount ⟨Nat.le_of_ble_eq_true rfl, Nat.le_of_ble_eq_true rfl⟩ hc hl.1 rfl (Nat.le_of_ble_eq_true rfl) dL_law_1409 (fun H1 locs1 hH1 hS1 => ?_)
  refine lv_aload_n X.1.1 X.1.2.1 dL_law_1412 rfl (lv_at hl 2 rfl) ?_
  refine la_callR (As := []) X hH1 hS1 h2 okX11_strongEnvyCount rfl rfl gT_X11_strongEnvyCount ⟨Nat.le_of_ble_eq_true rfl, Nat.le_of_ble_eq_true rfl⟩ hc hl.1 rfl (Nat.le_of_ble_eq_true rfl) dL_law_1413 (fun H2 locs2 hH2 hS2 => ?_)
  exact lv_icmp_eq (tgt := 2884) X.1.1 X.1.2.1 dL_law_1416 (by decide) (fun _ => kk _ _ _ _ _ _ _ hH2 hS2 h4 hl) (fun y => absurd rfl y)
theorem lc_23 (X : la_X K p s m meth c b L xs qo qd cl cd) (F : la_F K) (hc : cells + 1 ≤ 1088 ∧ slots + 6 ≤ 17909) (hn : n + 6 ≤ L ∧ L ≤ 3072) (kk : la_T K p e s m below meth c b qo qd cl cd Q n (cells + 1) (slots + 6) 2884) : la_T K p e s m below meth c b qo qd cl cd Q n cells slots 1421 := by
  intro H locs ls I J f g hH hS hR hl
  obtain ⟨r, I2, J2, h1, h2, h3, h4⟩ := ca_mostEnvied (K := K) hR
  refine W.widen (k := cells + 1) (n := slots + 6) (by omega) (by omega) ?_
  refine lv_aload_n X.1.1 X.1.2.1 dL_law_1421 rfl (lv_at hl 1 rfl) ?_
  refine la_callC (As := []) X hH hS h1 okX10_mostEnvied rfl rfl gT_X10_mostEnvied ⟨Nat.le_of_ble_eq_true rfl, Nat.le_of_ble_eq_true rfl⟩ hc hl.1 rfl (Nat.le_of_ble_eq_true rfl) dL_law_1422 (fun H1 locs1 hH1 hS1 => ?_)
  refine lv_aload_n X.1.1 X.1.2.1 dL_law_1425 rfl (lv_at hl 2 rfl) ?_
  refine la_callR (As := []) X hH1 hS1 h2 okX11_mostEnvied rfl rfl gT_X11_mostEnvied ⟨Nat.le_of_ble_eq_true rfl, Nat.le_of_ble_eq_true rfl⟩ hc hl.1 rfl (Nat.le_of_ble_eq_true rfl) dL_law_1426 (fun H2 locs2 hH2 hS2 => ?_)
  exact lv_icmp_eq (tgt := 2884) X.1.1 X.1.2.1 dL_law_1429 (by decide) (fun _ => kk _ _ _ _ _ _ _ hH2 hS2 h4 hl) (fun y => absurd rfl y)
theorem lc_24 (X : la_X K p s m meth c b L xs qo qd cl cd) (F : la_F K) (hc : cells + 1 ≤ 1088 ∧ slots + 6 ≤ 17909) (hn : n + 6 ≤ L ∧ L ≤ 3072) (kk : la_T K p e s m below meth c b qo qd cl cd Q n (cells + 1) (slots + 6) 2884) : la_T K p e s m below meth c b qo qd cl cd Q n cells slots 1434 := by
  intro H locs ls I J f g hH hS hR hl
  rcases ca_isSatisfied (K := K) F.1 F.2.1 hR (x := xs (n + 1)) with ⟨r, I2, J2, h1, h2, h3, h4⟩ | ⟨r, I2, J2, h1, h2, h3, h4⟩
  · refine lv_aload_n X.1.1 X.1.2.1 dL_law_1434 rfl (lv_at hl 1 rfl) ?_
    refine la_arg (j := 1) X hS (lv_at hl 0 rfl) (lv_at hl 5 rfl) (by omega) hn.2 (by decide) dL_law_1435 dL_law_1436 dL_law_1438 dL_law_1439 dL_law_1440 ?_
    refine lv_aload_n X.1.1 X.1.2.1 dL_law_1441 rfl (lv_at hl 3 rfl) ?_
    refine la_callW (M2 := mL_isSatisfied) (n2 := 3) (As := [.ref (cw_a (cc_w K) 0), .int (xs (n + 1)), .ref qo]) (hh := [(0, 16, 19, 29)]) X hH hS (wr_isSatisfied_ok h1) ⟨_, rfl⟩ (by decide +kernel) rfl gT_L_isSatisfied ⟨Nat.le_of_ble_eq_true rfl, Nat.le_of_ble_eq_true rfl⟩ hc hl.1 rfl (Nat.le_of_ble_eq_true rfl) dL_law_1442 (fun H1 locs1 hH1 hS1 => ?_)
    refine lv_istore (lv' := (6, .int 0) :: [(0, .ref b), (1, .ref (cw_a (cc_w K) 0)), (2, .ref (cw_a (cr_w K) 0)), (3, .ref qo), (4, .ref qd), (5, .int (nI n))]) X.1.1 X.1.2.1 dL_law_1445 hl (by decide) rfl (fun ls1 hl1 => ?_)
    refine lv_aload_n X.1.1 X.1.2.1 dL_law_1447 rfl (lv_at hl1 3 rfl) ?_
    refine la_arg (j := 1) X hS1 (lv_at hl1 1 rfl) (lv_at hl1 6 rfl) (by omega) hn.2 (by decide) dL_law_1448 dL_law_1449 dL_law_1451 dL_law_1452 dL_law_1453 ?_
    refine la_callR (As := [.int (xs (n + 1))]) X hH1 hS1 h2 okX11_isSatisfied rfl rfl gT_X11_isSatisfied ⟨Nat.le_of_ble_eq_true rfl, Nat.le_of_ble_eq_true rfl⟩ hc hl1.1 rfl (Nat.le_of_ble_eq_true rfl) dL_law_1454 (fun H2 locs2 hH2 hS2 => ?_)
    refine lv_istore (lv' := (7, .int r) :: (6, .int 0) :: [(0, .ref b), (1, .ref (cw_a (cc_w K) 0)), (2, .ref (cw_a (cr_w K) 0)), (3, .ref qo), (4, .ref qd), (5, .int (nI n))]) X.1.1 X.1.2.1 dL_law_1457 hl1 (by decide) rfl (fun ls2 hl2 => ?_)
    refine lv_aload_n X.1.1 X.1.2.1 dL_law_1459 rfl (lv_at hl2 4 rfl) ?_
    refine la_thrown X hH2 hS2 hc hl2.1 (Nat.le_of_ble_eq_true rfl) dL_law_1460 (fun H3 locs3 hH3 hS3 => ?_)
    refine lv_iload X.1.1 X.1.2.1 dL_law_1463 (lv_at hl2 1 rfl) ?_
    refine lv_icmp_eq (tgt := 1470) X.1.1 X.1.2.1 dL_law_1465 (by decide) (fun _ => ?_) (fun y => absurd h3 y)
    refine lv_iload X.1.1 X.1.2.1 dL_law_1470 (lv_at hl2 1 rfl) ?_
    have hg : W p K.1 e room_1 s m #[.ref b] below meth c H3 locs3 (cells + 1) (slots + 6) Q (F0 m 1494 ls2 []) := lv_goto (tgt := 2884) X.1.1 X.1.2.1 dL_law_1494 (by decide) (kk _ _ _ _ _ _ _ hH3 hS3 h4 (la_lv (la_lv hl2)))
    refine lv_if_ne (tgt := 1494) X.1.1 X.1.2.1 dL_law_1472 (by decide) (fun y => absurd rfl y) (fun _ => ?_)
    refine lv_aload_n X.1.1 X.1.2.1 dL_law_1475 rfl (lv_at hl2 5 rfl) ?_
    refine lv_iconst (v := 0) X.1.1 X.1.2.1 dL_law_1476 (by decide) ?_
    refine va_lald X.1.1 X.1.2.1 X.2.2.2.2.2.2.1 hH3.2.2.1 0 0 rfl rfl (vp_in_nI (n := 0) (N := 1) (by omega) (by omega)) dL_law_1477 ?_
    refine lv_iload X.1.1 X.1.2.1 dL_law_1478 (lv_at hl2 0 rfl) ?_
    refine lv_if_eq (tgt := 1487) X.1.1 X.1.2.1 dL_law_1480 (by decide) (fun y => ?_) (fun y => ?_)
    · refine lv_lconst (v := 0) X.1.1 X.1.2.1 dL_law_1487 (by decide) ?_
      refine W.lcmp X.1.1 X.1.2.1 dL_law_1488 ?_
      exact lv_if_eq (tgt := 1494) X.1.1 X.1.2.1 dL_law_1489 (by decide) (fun _ => hg) (fun z => absurd (la_cmp_if_0 y) z)
    · refine lv_lconst (v := 1) X.1.1 X.1.2.1 dL_law_1483 (by decide) ?_
      refine lv_goto (tgt := 1488) X.1.1 X.1.2.1 dL_law_1484 (by decide) ?_
      refine W.lcmp X.1.1 X.1.2.1 dL_law_1488 ?_
      exact lv_if_eq (tgt := 1494) X.1.1 X.1.2.1 dL_law_1489 (by decide) (fun _ => hg) (fun z => absurd (la_cmp_if_1 y) z)
  · refine lv_aload_n X.1.1 X.1.2.1 dL_law_1434 rfl (lv_at hl 1 rfl) ?_
    refine la_arg (j := 1) X hS (lv_at hl 0 rfl) (lv_at hl 5 rfl) (by omega) hn.2 (by decide) dL_law_1435 dL_law_1436 dL_law_1438 dL_law_1439 dL_law_1440 ?_
    refine lv_aload_n X.1.1 X.1.2.1 dL_law_1441 rfl (lv_at hl 3 rfl) ?_
    refine la_callW (M2 := mL_isSatisfied) (n2 := 3) (As := [.ref (cw_a (cc_w K) 0), .int (xs (n + 1)), .ref qo]) (hh := [(0, 16, 19, 29)]) X hH hS (wr_isSatisfied_x1 h1) ⟨_, rfl⟩ (by decide +kernel) rfl gT_L_isSatisfied ⟨Nat.le_of_ble_eq_true rfl, Nat.le_of_ble_eq_true rfl⟩ hc hl.1 rfl (Nat.le_of_ble_eq_true rfl) dL_law_1442 (fun H1 locs1 hH1 hS1 => ?_)
    refine lv_istore (lv' := (6, .int 1) :: [(0, .ref b), (1, .ref (cw_a (cc_w K) 0)), (2, .ref (cw_a (cr_w K) 0)), (3, .ref qo), (4, .ref qd), (5, .int (nI n))]) X.1.1 X.1.2.1 dL_law_1445 hl (by decide) rfl (fun ls1 hl1 => ?_)
    refine lv_aload_n X.1.1 X.1.2.1 dL_law_1447 rfl (lv_at hl1 3 rfl) ?_
    refine la_arg (j := 1) X hS1 (lv_at hl1 1 rfl) (lv_at hl1 6 rfl) (by omega) hn.2 (by decide) dL_law_1448 dL_law_1449 dL_law_1451 dL_law_1452 dL_law_1453 ?_
    refine la_callR (As := [.int (xs (n + 1))]) X hH1 hS1 h2 okX11_isSatisfied rfl rfl gT_X11_isSatisfied ⟨Nat.le_of_ble_eq_true rfl, Nat.le_of_ble_eq_true rfl⟩ hc hl1.1 rfl (Nat.le_of_ble_eq_true rfl) dL_law_1454 (fun H2 locs2 hH2 hS2 => ?_)
    refine lv_istore (lv' := (7, .int r) :: (6, .int 1) :: [(0, .ref b), (1, .ref (cw_a (cc_w K) 0)), (2, .ref (cw_a (cr_w K) 0)), (3, .ref qo), (4, .ref qd), (5, .int (nI n))]) X.1.1 X.1.2.1 dL_law_1457 hl1 (by decide) rfl (fun ls2 hl2 => ?_)
    refine lv_aload_n X.1.1 X.1.2.1 dL_law_1459 rfl (lv_at hl2 4 rfl) ?_
    refine la_thrown X hH2 hS2 hc hl2.1 (Nat.le_of_ble_eq_true rfl) dL_law_1460 (fun H3 locs3 hH3 hS3 => ?_)
    refine lv_iload X.1.1 X.1.2.1 dL_law_1463 (lv_at hl2 1 rfl) ?_
    refine lv_icmp_eq (tgt := 1470) X.1.1 X.1.2.1 dL_law_1465 (by decide) (fun _ => ?_) (fun y => absurd h3 y)
    refine lv_iload X.1.1 X.1.2.1 dL_law_1470 (lv_at hl2 1 rfl) ?_
    have hg : W p K.1 e room_1 s m #[.ref b] below meth c H3 locs3 (cells + 1) (slots + 6) Q (F0 m 1494 ls2 []) := lv_goto (tgt := 2884) X.1.1 X.1.2.1 dL_law_1494 (by decide) (kk _ _ _ _ _ _ _ hH3 hS3 h4 (la_lv (la_lv hl2)))
    exact lv_if_ne (tgt := 1494) X.1.1 X.1.2.1 dL_law_1472 (by decide) (fun _ => hg) (fun y => absurd y (by decide))
theorem lc_25 (X : la_X K p s m meth c b L xs qo qd cl cd) (F : la_F K) (hc : cells + 1 ≤ 1088 ∧ slots + 6 ≤ 17909) (hn : n + 6 ≤ L ∧ L ≤ 3072) (kk : la_T K p e s m below meth c b qo qd cl cd Q n (cells + 1) (slots + 6) 2884) : la_T K p e s m below meth c b qo qd cl cd Q n cells slots 1497 := by
  intro H locs ls I J f g hH hS hR hl
  obtain ⟨r, I2, J2, h1, h2, h3, h4⟩ := ca_satisfiedCount (K := K) hR
  refine W.widen (k := cells + 1) (n := slots + 6) (by omega) (by omega) ?_
  refine lv_aload_n X.1.1 X.1.2.1 dL_law_1497 rfl (lv_at hl 1 rfl) ?_
  refine la_callC (As := []) X hH hS h1 okX10_satisfiedCount rfl rfl gT_X10_satisfiedCount ⟨Nat.le_of_ble_eq_true rfl, Nat.le_of_ble_eq_true rfl⟩ hc hl.1 rfl (Nat.le_of_ble_eq_true rfl) dL_law_1498 (fun H1 locs1 hH1 hS1 => ?_)
  refine lv_aload_n X.1.1 X.1.2.1 dL_law_1501 rfl (lv_at hl 2 rfl) ?_
  refine la_callR (As := []) X hH1 hS1 h2 okX11_satisfiedCount rfl rfl gT_X11_satisfiedCount ⟨Nat.le_of_ble_eq_true rfl, Nat.le_of_ble_eq_true rfl⟩ hc hl.1 rfl (Nat.le_of_ble_eq_true rfl) dL_law_1502 (fun H2 locs2 hH2 hS2 => ?_)
  exact lv_icmp_eq (tgt := 2884) X.1.1 X.1.2.1 dL_law_1505 (by decide) (fun _ => kk _ _ _ _ _ _ _ hH2 hS2 h4 hl) (fun y => absurd rfl y)
theorem lc_26 (X : la_X K p s m meth c b L xs qo qd cl cd) (F : la_F K) (hc : cells + 1 ≤ 1088 ∧ slots + 6 ≤ 17909) (hn : n + 6 ≤ L ∧ L ≤ 3072) (kk : la_T K p e s m below meth c b qo qd cl cd Q n (cells + 1) (slots + 6) 2884) : la_T K p e s m below meth c b qo qd cl cd Q n cells slots 1510 := by
  intro H locs ls I J f g hH hS hR hl
  rcases ca_envyCycleLength (K := K) F.1 F.2.1 hR (x := xs (n + 1)) with ⟨r, I2, J2, h1, h2, h3, h4⟩ | ⟨r, I2, J2, h1, h2, h3, h4⟩
  · refine lv_aload_n X.1.1 X.1.2.1 dL_law_1510 rfl (lv_at hl 1 rfl) ?_
    refine la_arg (j := 1) X hS (lv_at hl 0 rfl) (lv_at hl 5 rfl) (by omega) hn.2 (by decide) dL_law_1511 dL_law_1512 dL_law_1514 dL_law_1515 dL_law_1516 ?_
    refine lv_aload_n X.1.1 X.1.2.1 dL_law_1517 rfl (lv_at hl 3 rfl) ?_
    refine la_callW (M2 := mL_envyCycleLength) (n2 := 3) (As := [.ref (cw_a (cc_w K) 0), .int (xs (n + 1)), .ref qo]) (hh := [(0, 9, 12, 29)]) X hH hS (wr_envyCycleLength_ok h1) ⟨_, rfl⟩ (by decide +kernel) rfl gT_L_envyCycleLength ⟨Nat.le_of_ble_eq_true rfl, Nat.le_of_ble_eq_true rfl⟩ hc hl.1 rfl (Nat.le_of_ble_eq_true rfl) dL_law_1518 (fun H1 locs1 hH1 hS1 => ?_)
    refine lv_istore (lv' := (6, .int 0) :: [(0, .ref b), (1, .ref (cw_a (cc_w K) 0)), (2, .ref (cw_a (cr_w K) 0)), (3, .ref qo), (4, .ref qd), (5, .int (nI n))]) X.1.1 X.1.2.1 dL_law_1521 hl (by decide) rfl (fun ls1 hl1 => ?_)
    refine lv_aload_n X.1.1 X.1.2.1 dL_law_1523 rfl (lv_at hl1 3 rfl) ?_
    refine la_arg (j := 1) X hS1 (lv_at hl1 1 rfl) (lv_at hl1 6 rfl) (by omega) hn.2 (by decide) dL_law_1524 dL_law_1525 dL_law_1527 dL_law_1528 dL_law_1529 ?_
    refine la_callR (As := [.int (xs (n + 1))]) X hH1 hS1 h2 okX11_envyCycleLength rfl rfl gT_X11_envyCycleLength ⟨Nat.le_of_ble_eq_true rfl, Nat.le_of_ble_eq_true rfl⟩ hc hl1.1 rfl (Nat.le_of_ble_eq_true rfl) dL_law_1530 (fun H2 locs2 hH2 hS2 => ?_)
    refine lv_istore (lv' := (7, .int r) :: (6, .int 0) :: [(0, .ref b), (1, .ref (cw_a (cc_w K) 0)), (2, .ref (cw_a (cr_w K) 0)), (3, .ref qo), (4, .ref qd), (5, .int (nI n))]) X.1.1 X.1.2.1 dL_law_1533 hl1 (by decide) rfl (fun ls2 hl2 => ?_)
    refine lv_aload_n X.1.1 X.1.2.1 dL_law_1535 rfl (lv_at hl2 4 rfl) ?_
    refine la_thrown X hH2 hS2 hc hl2.1 (Nat.le_of_ble_eq_true rfl) dL_law_1536 (fun H3 locs3 hH3 hS3 => ?_)
    refine lv_iload X.1.1 X.1.2.1 dL_law_1539 (lv_at hl2 1 rfl) ?_
    refine lv_icmp_eq (tgt := 1546) X.1.1 X.1.2.1 dL_law_1541 (by decide) (fun _ => ?_) (fun y => absurd h3 y)
    refine lv_iload X.1.1 X.1.2.1 dL_law_1546 (lv_at hl2 1 rfl) ?_
    have hg : W p K.1 e room_1 s m #[.ref b] below meth c H3 locs3 (cells + 1) (slots + 6) Q (F0 m 1563 ls2 []) := lv_goto (tgt := 2884) X.1.1 X.1.2.1 dL_law_1563 (by decide) (kk _ _ _ _ _ _ _ hH3 hS3 h4 (la_lv (la_lv hl2)))
    refine lv_if_ne (tgt := 1563) X.1.1 X.1.2.1 dL_law_1548 (by decide) (fun y => absurd rfl y) (fun _ => ?_)
    refine lv_aload_n X.1.1 X.1.2.1 dL_law_1551 rfl (lv_at hl2 5 rfl) ?_
    refine lv_iconst (v := 0) X.1.1 X.1.2.1 dL_law_1552 (by decide) ?_
    refine va_lald X.1.1 X.1.2.1 X.2.2.2.2.2.2.1 hH3.2.2.1 0 0 rfl rfl (vp_in_nI (n := 0) (N := 1) (by omega) (by omega)) dL_law_1553 ?_
    refine lv_iload X.1.1 X.1.2.1 dL_law_1554 (lv_at hl2 0 rfl) ?_
    refine lv_i2l (v := r.toInt64) X.1.1 X.1.2.1 dL_law_1556 rfl ?_
    refine W.lcmp X.1.1 X.1.2.1 dL_law_1557 ?_
    exact lv_if_eq (tgt := 1563) X.1.1 X.1.2.1 dL_law_1558 (by decide) (fun _ => hg) (fun y => absurd (la_cmp _) y)
  · refine lv_aload_n X.1.1 X.1.2.1 dL_law_1510 rfl (lv_at hl 1 rfl) ?_
    refine la_arg (j := 1) X hS (lv_at hl 0 rfl) (lv_at hl 5 rfl) (by omega) hn.2 (by decide) dL_law_1511 dL_law_1512 dL_law_1514 dL_law_1515 dL_law_1516 ?_
    refine lv_aload_n X.1.1 X.1.2.1 dL_law_1517 rfl (lv_at hl 3 rfl) ?_
    refine la_callW (M2 := mL_envyCycleLength) (n2 := 3) (As := [.ref (cw_a (cc_w K) 0), .int (xs (n + 1)), .ref qo]) (hh := [(0, 9, 12, 29)]) X hH hS (wr_envyCycleLength_x1 h1) ⟨_, rfl⟩ (by decide +kernel) rfl gT_L_envyCycleLength ⟨Nat.le_of_ble_eq_true rfl, Nat.le_of_ble_eq_true rfl⟩ hc hl.1 rfl (Nat.le_of_ble_eq_true rfl) dL_law_1518 (fun H1 locs1 hH1 hS1 => ?_)
    refine lv_istore (lv' := (6, .int 1) :: [(0, .ref b), (1, .ref (cw_a (cc_w K) 0)), (2, .ref (cw_a (cr_w K) 0)), (3, .ref qo), (4, .ref qd), (5, .int (nI n))]) X.1.1 X.1.2.1 dL_law_1521 hl (by decide) rfl (fun ls1 hl1 => ?_)
    refine lv_aload_n X.1.1 X.1.2.1 dL_law_1523 rfl (lv_at hl1 3 rfl) ?_
    refine la_arg (j := 1) X hS1 (lv_at hl1 1 rfl) (lv_at hl1 6 rfl) (by omega) hn.2 (by decide) dL_law_1524 dL_law_1525 dL_law_1527 dL_law_1528 dL_law_1529 ?_
    refine la_callR (As := [.int (xs (n + 1))]) X hH1 hS1 h2 okX11_envyCycleLength rfl rfl gT_X11_envyCycleLength ⟨Nat.le_of_ble_eq_true rfl, Nat.le_of_ble_eq_true rfl⟩ hc hl1.1 rfl (Nat.le_of_ble_eq_true rfl) dL_law_1530 (fun H2 locs2 hH2 hS2 => ?_)
    refine lv_istore (lv' := (7, .int r) :: (6, .int 1) :: [(0, .ref b), (1, .ref (cw_a (cc_w K) 0)), (2, .ref (cw_a (cr_w K) 0)), (3, .ref qo), (4, .ref qd), (5, .int (nI n))]) X.1.1 X.1.2.1 dL_law_1533 hl1 (by decide) rfl (fun ls2 hl2 => ?_)
    refine lv_aload_n X.1.1 X.1.2.1 dL_law_1535 rfl (lv_at hl2 4 rfl) ?_
    refine la_thrown X hH2 hS2 hc hl2.1 (Nat.le_of_ble_eq_true rfl) dL_law_1536 (fun H3 locs3 hH3 hS3 => ?_)
    refine lv_iload X.1.1 X.1.2.1 dL_law_1539 (lv_at hl2 1 rfl) ?_
    refine lv_icmp_eq (tgt := 1546) X.1.1 X.1.2.1 dL_law_1541 (by decide) (fun _ => ?_) (fun y => absurd h3 y)
    refine lv_iload X.1.1 X.1.2.1 dL_law_1546 (lv_at hl2 1 rfl) ?_
    have hg : W p K.1 e room_1 s m #[.ref b] below meth c H3 locs3 (cells + 1) (slots + 6) Q (F0 m 1563 ls2 []) := lv_goto (tgt := 2884) X.1.1 X.1.2.1 dL_law_1563 (by decide) (kk _ _ _ _ _ _ _ hH3 hS3 h4 (la_lv (la_lv hl2)))
    exact lv_if_ne (tgt := 1563) X.1.1 X.1.2.1 dL_law_1548 (by decide) (fun _ => hg) (fun y => absurd y (by decide))
theorem lc_27 (X : la_X K p s m meth c b L xs qo qd cl cd) (F : la_F K) (hc : cells + 1 ≤ 1088 ∧ slots + 6 ≤ 17909) (hn : n + 6 ≤ L ∧ L ≤ 3072) (kk : la_T K p e s m below meth c b qo qd cl cd Q n (cells + 1) (slots + 6) 2884) : la_T K p e s m below meth c b qo qd cl cd Q n cells slots 1566 := by
  intro H locs ls I J f g hH hS hR hl
  rcases ca_envyCycleMember (K := K) F.1 F.2.1 hR (x := xs (n + 1)) (y := xs (n + 2)) with ⟨r, I2, J2, h1, h2, h3, h4⟩ | ⟨r, I2, J2, h1, h2, h3, h4⟩ | ⟨r, I2, J2, h1, h2, h3, h4⟩
  · refine lv_aload_n X.1.1 X.1.2.1 dL_law_1566 rfl (lv_at hl 1 rfl) ?_
    refine la_arg (j := 1) X hS (lv_at hl 0 rfl) (lv_at hl 5 rfl) (by omega) hn.2 (by decide) dL_law_1567 dL_law_1568 dL_law_1570 dL_law_1571 dL_law_1572 ?_
    refine la_arg (j := 2) X hS (lv_at hl 0 rfl) (lv_at hl 5 rfl) (by omega) hn.2 (by decide) dL_law_1573 dL_law_1574 dL_law_1576 dL_law_1577 dL_law_1578 ?_
    refine lv_aload_n X.1.1 X.1.2.1 dL_law_1579 rfl (lv_at hl 3 rfl) ?_
    refine la_callW (M2 := mL_envyCycleMember) (n2 := 4) (As := [.ref (cw_a (cc_w K) 0), .int (xs (n + 1)), .int (xs (n + 2)), .ref qo]) (hh := [(0, 10, 13, 29), (0, 10, 17, 34)]) X hH hS (wr_envyCycleMember_ok h1) (nse_head (by decide +kernel)) (by decide +kernel) rfl gT_L_envyCycleMember ⟨Nat.le_of_ble_eq_true rfl, Nat.le_of_ble_eq_true rfl⟩ hc hl.1 rfl (Nat.le_of_ble_eq_true rfl) dL_law_1580 (fun H1 locs1 hH1 hS1 => ?_)
    refine lv_istore (lv' := (6, .int 0) :: [(0, .ref b), (1, .ref (cw_a (cc_w K) 0)), (2, .ref (cw_a (cr_w K) 0)), (3, .ref qo), (4, .ref qd), (5, .int (nI n))]) X.1.1 X.1.2.1 dL_law_1583 hl (by decide) rfl (fun ls1 hl1 => ?_)
    refine lv_aload_n X.1.1 X.1.2.1 dL_law_1585 rfl (lv_at hl1 3 rfl) ?_
    refine la_arg (j := 1) X hS1 (lv_at hl1 1 rfl) (lv_at hl1 6 rfl) (by omega) hn.2 (by decide) dL_law_1586 dL_law_1587 dL_law_1589 dL_law_1590 dL_law_1591 ?_
    refine la_arg (j := 2) X hS1 (lv_at hl1 1 rfl) (lv_at hl1 6 rfl) (by omega) hn.2 (by decide) dL_law_1592 dL_law_1593 dL_law_1595 dL_law_1596 dL_law_1597 ?_
    refine la_callR (As := [.int (xs (n + 1)), .int (xs (n + 2))]) X hH1 hS1 h2 okX11_envyCycleMember rfl rfl gT_X11_envyCycleMember ⟨Nat.le_of_ble_eq_true rfl, Nat.le_of_ble_eq_true rfl⟩ hc hl1.1 rfl (Nat.le_of_ble_eq_true rfl) dL_law_1598 (fun H2 locs2 hH2 hS2 => ?_)
    refine lv_istore (lv' := (7, .int r) :: (6, .int 0) :: [(0, .ref b), (1, .ref (cw_a (cc_w K) 0)), (2, .ref (cw_a (cr_w K) 0)), (3, .ref qo), (4, .ref qd), (5, .int (nI n))]) X.1.1 X.1.2.1 dL_law_1601 hl1 (by decide) rfl (fun ls2 hl2 => ?_)
    refine lv_aload_n X.1.1 X.1.2.1 dL_law_1603 rfl (lv_at hl2 4 rfl) ?_
    refine la_thrown X hH2 hS2 hc hl2.1 (Nat.le_of_ble_eq_true rfl) dL_law_1604 (fun H3 locs3 hH3 hS3 => ?_)
    refine lv_iload X.1.1 X.1.2.1 dL_law_1607 (lv_at hl2 1 rfl) ?_
    refine lv_icmp_eq (tgt := 1614) X.1.1 X.1.2.1 dL_law_1609 (by decide) (fun _ => ?_) (fun y => absurd h3 y)
    refine lv_iload X.1.1 X.1.2.1 dL_law_1614 (lv_at hl2 1 rfl) ?_
    have hg : W p K.1 e room_1 s m #[.ref b] below meth c H3 locs3 (cells + 1) (slots + 6) Q (F0 m 1631 ls2 []) := lv_goto (tgt := 2884) X.1.1 X.1.2.1 dL_law_1631 (by decide) (kk _ _ _ _ _ _ _ hH3 hS3 h4 (la_lv (la_lv hl2)))
    refine lv_if_ne (tgt := 1631) X.1.1 X.1.2.1 dL_law_1616 (by decide) (fun y => absurd rfl y) (fun _ => ?_)
    refine lv_aload_n X.1.1 X.1.2.1 dL_law_1619 rfl (lv_at hl2 5 rfl) ?_
    refine lv_iconst (v := 0) X.1.1 X.1.2.1 dL_law_1620 (by decide) ?_
    refine va_lald X.1.1 X.1.2.1 X.2.2.2.2.2.2.1 hH3.2.2.1 0 0 rfl rfl (vp_in_nI (n := 0) (N := 1) (by omega) (by omega)) dL_law_1621 ?_
    refine lv_iload X.1.1 X.1.2.1 dL_law_1622 (lv_at hl2 0 rfl) ?_
    refine lv_i2l (v := r.toInt64) X.1.1 X.1.2.1 dL_law_1624 rfl ?_
    refine W.lcmp X.1.1 X.1.2.1 dL_law_1625 ?_
    exact lv_if_eq (tgt := 1631) X.1.1 X.1.2.1 dL_law_1626 (by decide) (fun _ => hg) (fun y => absurd (la_cmp _) y)
  · refine lv_aload_n X.1.1 X.1.2.1 dL_law_1566 rfl (lv_at hl 1 rfl) ?_
    refine la_arg (j := 1) X hS (lv_at hl 0 rfl) (lv_at hl 5 rfl) (by omega) hn.2 (by decide) dL_law_1567 dL_law_1568 dL_law_1570 dL_law_1571 dL_law_1572 ?_
    refine la_arg (j := 2) X hS (lv_at hl 0 rfl) (lv_at hl 5 rfl) (by omega) hn.2 (by decide) dL_law_1573 dL_law_1574 dL_law_1576 dL_law_1577 dL_law_1578 ?_
    refine lv_aload_n X.1.1 X.1.2.1 dL_law_1579 rfl (lv_at hl 3 rfl) ?_
    refine la_callW (M2 := mL_envyCycleMember) (n2 := 4) (As := [.ref (cw_a (cc_w K) 0), .int (xs (n + 1)), .int (xs (n + 2)), .ref qo]) (hh := [(0, 10, 13, 29), (0, 10, 17, 34)]) X hH hS (wr_envyCycleMember_x1 h1) (nse_head (by decide +kernel)) (by decide +kernel) rfl gT_L_envyCycleMember ⟨Nat.le_of_ble_eq_true rfl, Nat.le_of_ble_eq_true rfl⟩ hc hl.1 rfl (Nat.le_of_ble_eq_true rfl) dL_law_1580 (fun H1 locs1 hH1 hS1 => ?_)
    refine lv_istore (lv' := (6, .int 1) :: [(0, .ref b), (1, .ref (cw_a (cc_w K) 0)), (2, .ref (cw_a (cr_w K) 0)), (3, .ref qo), (4, .ref qd), (5, .int (nI n))]) X.1.1 X.1.2.1 dL_law_1583 hl (by decide) rfl (fun ls1 hl1 => ?_)
    refine lv_aload_n X.1.1 X.1.2.1 dL_law_1585 rfl (lv_at hl1 3 rfl) ?_
    refine la_arg (j := 1) X hS1 (lv_at hl1 1 rfl) (lv_at hl1 6 rfl) (by omega) hn.2 (by decide) dL_law_1586 dL_law_1587 dL_law_1589 dL_law_1590 dL_law_1591 ?_
    refine la_arg (j := 2) X hS1 (lv_at hl1 1 rfl) (lv_at hl1 6 rfl) (by omega) hn.2 (by decide) dL_law_1592 dL_law_1593 dL_law_1595 dL_law_1596 dL_law_1597 ?_
    refine la_callR (As := [.int (xs (n + 1)), .int (xs (n + 2))]) X hH1 hS1 h2 okX11_envyCycleMember rfl rfl gT_X11_envyCycleMember ⟨Nat.le_of_ble_eq_true rfl, Nat.le_of_ble_eq_true rfl⟩ hc hl1.1 rfl (Nat.le_of_ble_eq_true rfl) dL_law_1598 (fun H2 locs2 hH2 hS2 => ?_)
    refine lv_istore (lv' := (7, .int r) :: (6, .int 1) :: [(0, .ref b), (1, .ref (cw_a (cc_w K) 0)), (2, .ref (cw_a (cr_w K) 0)), (3, .ref qo), (4, .ref qd), (5, .int (nI n))]) X.1.1 X.1.2.1 dL_law_1601 hl1 (by decide) rfl (fun ls2 hl2 => ?_)
    refine lv_aload_n X.1.1 X.1.2.1 dL_law_1603 rfl (lv_at hl2 4 rfl) ?_
    refine la_thrown X hH2 hS2 hc hl2.1 (Nat.le_of_ble_eq_true rfl) dL_law_1604 (fun H3 locs3 hH3 hS3 => ?_)
    refine lv_iload X.1.1 X.1.2.1 dL_law_1607 (lv_at hl2 1 rfl) ?_
    refine lv_icmp_eq (tgt := 1614) X.1.1 X.1.2.1 dL_law_1609 (by decide) (fun _ => ?_) (fun y => absurd h3 y)
    refine lv_iload X.1.1 X.1.2.1 dL_law_1614 (lv_at hl2 1 rfl) ?_
    have hg : W p K.1 e room_1 s m #[.ref b] below meth c H3 locs3 (cells + 1) (slots + 6) Q (F0 m 1631 ls2 []) := lv_goto (tgt := 2884) X.1.1 X.1.2.1 dL_law_1631 (by decide) (kk _ _ _ _ _ _ _ hH3 hS3 h4 (la_lv (la_lv hl2)))
    exact lv_if_ne (tgt := 1631) X.1.1 X.1.2.1 dL_law_1616 (by decide) (fun _ => hg) (fun y => absurd y (by decide))
  · refine lv_aload_n X.1.1 X.1.2.1 dL_law_1566 rfl (lv_at hl 1 rfl) ?_
    refine la_arg (j := 1) X hS (lv_at hl 0 rfl) (lv_at hl 5 rfl) (by omega) hn.2 (by decide) dL_law_1567 dL_law_1568 dL_law_1570 dL_law_1571 dL_law_1572 ?_
    refine la_arg (j := 2) X hS (lv_at hl 0 rfl) (lv_at hl 5 rfl) (by omega) hn.2 (by decide) dL_law_1573 dL_law_1574 dL_law_1576 dL_law_1577 dL_law_1578 ?_
    refine lv_aload_n X.1.1 X.1.2.1 dL_law_1579 rfl (lv_at hl 3 rfl) ?_
    refine la_callW (M2 := mL_envyCycleMember) (n2 := 4) (As := [.ref (cw_a (cc_w K) 0), .int (xs (n + 1)), .int (xs (n + 2)), .ref qo]) (hh := [(0, 10, 13, 29), (0, 10, 17, 34)]) X hH hS (wr_envyCycleMember_x2 h1) (nse_head (by decide +kernel)) (by decide +kernel) rfl gT_L_envyCycleMember ⟨Nat.le_of_ble_eq_true rfl, Nat.le_of_ble_eq_true rfl⟩ hc hl.1 rfl (Nat.le_of_ble_eq_true rfl) dL_law_1580 (fun H1 locs1 hH1 hS1 => ?_)
    refine lv_istore (lv' := (6, .int 2) :: [(0, .ref b), (1, .ref (cw_a (cc_w K) 0)), (2, .ref (cw_a (cr_w K) 0)), (3, .ref qo), (4, .ref qd), (5, .int (nI n))]) X.1.1 X.1.2.1 dL_law_1583 hl (by decide) rfl (fun ls1 hl1 => ?_)
    refine lv_aload_n X.1.1 X.1.2.1 dL_law_1585 rfl (lv_at hl1 3 rfl) ?_
    refine la_arg (j := 1) X hS1 (lv_at hl1 1 rfl) (lv_at hl1 6 rfl) (by omega) hn.2 (by decide) dL_law_1586 dL_law_1587 dL_law_1589 dL_law_1590 dL_law_1591 ?_
    refine la_arg (j := 2) X hS1 (lv_at hl1 1 rfl) (lv_at hl1 6 rfl) (by omega) hn.2 (by decide) dL_law_1592 dL_law_1593 dL_law_1595 dL_law_1596 dL_law_1597 ?_
    refine la_callR (As := [.int (xs (n + 1)), .int (xs (n + 2))]) X hH1 hS1 h2 okX11_envyCycleMember rfl rfl gT_X11_envyCycleMember ⟨Nat.le_of_ble_eq_true rfl, Nat.le_of_ble_eq_true rfl⟩ hc hl1.1 rfl (Nat.le_of_ble_eq_true rfl) dL_law_1598 (fun H2 locs2 hH2 hS2 => ?_)
    refine lv_istore (lv' := (7, .int r) :: (6, .int 2) :: [(0, .ref b), (1, .ref (cw_a (cc_w K) 0)), (2, .ref (cw_a (cr_w K) 0)), (3, .ref qo), (4, .ref qd), (5, .int (nI n))]) X.1.1 X.1.2.1 dL_law_1601 hl1 (by decide) rfl (fun ls2 hl2 => ?_)
    refine lv_aload_n X.1.1 X.1.2.1 dL_law_1603 rfl (lv_at hl2 4 rfl) ?_
    refine la_thrown X hH2 hS2 hc hl2.1 (Nat.le_of_ble_eq_true rfl) dL_law_1604 (fun H3 locs3 hH3 hS3 => ?_)
    refine lv_iload X.1.1 X.1.2.1 dL_law_1607 (lv_at hl2 1 rfl) ?_
    refine lv_icmp_eq (tgt := 1614) X.1.1 X.1.2.1 dL_law_1609 (by decide) (fun _ => ?_) (fun y => absurd h3 y)
    refine lv_iload X.1.1 X.1.2.1 dL_law_1614 (lv_at hl2 1 rfl) ?_
    have hg : W p K.1 e room_1 s m #[.ref b] below meth c H3 locs3 (cells + 1) (slots + 6) Q (F0 m 1631 ls2 []) := lv_goto (tgt := 2884) X.1.1 X.1.2.1 dL_law_1631 (by decide) (kk _ _ _ _ _ _ _ hH3 hS3 h4 (la_lv (la_lv hl2)))
    exact lv_if_ne (tgt := 1631) X.1.1 X.1.2.1 dL_law_1616 (by decide) (fun _ => hg) (fun y => absurd y (by decide))
theorem lc_28 (X : la_X K p s m meth c b L xs qo qd cl cd) (F : la_F K) (hc : cells + 1 ≤ 1088 ∧ slots + 6 ≤ 17909) (hn : n + 6 ≤ L ∧ L ≤ 3072) (kk : la_T K p e s m below meth c b qo qd cl cd Q n (cells + 1) (slots + 6) 2884) : la_T K p e s m below meth c b qo qd cl cd Q n cells slots 1634 := by
  intro H locs ls I J f g hH hS hR hl
  rcases ca_wouldSwap (K := K) F.1 F.2.1 hR (x := xs (n + 1)) (y := xs (n + 2)) with ⟨r, I2, J2, h1, h2, h3, h4⟩ | ⟨r, I2, J2, h1, h2, h3, h4⟩
  · refine lv_aload_n X.1.1 X.1.2.1 dL_law_1634 rfl (lv_at hl 1 rfl) ?_
    refine la_arg (j := 1) X hS (lv_at hl 0 rfl) (lv_at hl 5 rfl) (by omega) hn.2 (by decide) dL_law_1635 dL_law_1636 dL_law_1638 dL_law_1639 dL_law_1640 ?_
    refine la_arg (j := 2) X hS (lv_at hl 0 rfl) (lv_at hl 5 rfl) (by omega) hn.2 (by decide) dL_law_1641 dL_law_1642 dL_law_1644 dL_law_1645 dL_law_1646 ?_
    refine lv_aload_n X.1.1 X.1.2.1 dL_law_1647 rfl (lv_at hl 3 rfl) ?_
    refine la_callW (M2 := mL_wouldSwap) (n2 := 4) (As := [.ref (cw_a (cc_w K) 0), .int (xs (n + 1)), .int (xs (n + 2)), .ref qo]) (hh := [(0, 17, 20, 29)]) X hH hS (wr_wouldSwap_ok h1) ⟨_, rfl⟩ (by decide +kernel) rfl gT_L_wouldSwap ⟨Nat.le_of_ble_eq_true rfl, Nat.le_of_ble_eq_true rfl⟩ hc hl.1 rfl (Nat.le_of_ble_eq_true rfl) dL_law_1648 (fun H1 locs1 hH1 hS1 => ?_)
    refine lv_istore (lv' := (6, .int 0) :: [(0, .ref b), (1, .ref (cw_a (cc_w K) 0)), (2, .ref (cw_a (cr_w K) 0)), (3, .ref qo), (4, .ref qd), (5, .int (nI n))]) X.1.1 X.1.2.1 dL_law_1651 hl (by decide) rfl (fun ls1 hl1 => ?_)
    refine lv_aload_n X.1.1 X.1.2.1 dL_law_1653 rfl (lv_at hl1 3 rfl) ?_
    refine la_arg (j := 1) X hS1 (lv_at hl1 1 rfl) (lv_at hl1 6 rfl) (by omega) hn.2 (by decide) dL_law_1654 dL_law_1655 dL_law_1657 dL_law_1658 dL_law_1659 ?_
    refine la_arg (j := 2) X hS1 (lv_at hl1 1 rfl) (lv_at hl1 6 rfl) (by omega) hn.2 (by decide) dL_law_1660 dL_law_1661 dL_law_1663 dL_law_1664 dL_law_1665 ?_
    refine la_callR (As := [.int (xs (n + 1)), .int (xs (n + 2))]) X hH1 hS1 h2 okX11_wouldSwap rfl rfl gT_X11_wouldSwap ⟨Nat.le_of_ble_eq_true rfl, Nat.le_of_ble_eq_true rfl⟩ hc hl1.1 rfl (Nat.le_of_ble_eq_true rfl) dL_law_1666 (fun H2 locs2 hH2 hS2 => ?_)
    refine lv_istore (lv' := (7, .int r) :: (6, .int 0) :: [(0, .ref b), (1, .ref (cw_a (cc_w K) 0)), (2, .ref (cw_a (cr_w K) 0)), (3, .ref qo), (4, .ref qd), (5, .int (nI n))]) X.1.1 X.1.2.1 dL_law_1669 hl1 (by decide) rfl (fun ls2 hl2 => ?_)
    refine lv_aload_n X.1.1 X.1.2.1 dL_law_1671 rfl (lv_at hl2 4 rfl) ?_
    refine la_thrown X hH2 hS2 hc hl2.1 (Nat.le_of_ble_eq_true rfl) dL_law_1672 (fun H3 locs3 hH3 hS3 => ?_)
    refine lv_iload X.1.1 X.1.2.1 dL_law_1675 (lv_at hl2 1 rfl) ?_
    refine lv_icmp_eq (tgt := 1682) X.1.1 X.1.2.1 dL_law_1677 (by decide) (fun _ => ?_) (fun y => absurd h3 y)
    refine lv_iload X.1.1 X.1.2.1 dL_law_1682 (lv_at hl2 1 rfl) ?_
    have hg : W p K.1 e room_1 s m #[.ref b] below meth c H3 locs3 (cells + 1) (slots + 6) Q (F0 m 1706 ls2 []) := lv_goto (tgt := 2884) X.1.1 X.1.2.1 dL_law_1706 (by decide) (kk _ _ _ _ _ _ _ hH3 hS3 h4 (la_lv (la_lv hl2)))
    refine lv_if_ne (tgt := 1706) X.1.1 X.1.2.1 dL_law_1684 (by decide) (fun y => absurd rfl y) (fun _ => ?_)
    refine lv_aload_n X.1.1 X.1.2.1 dL_law_1687 rfl (lv_at hl2 5 rfl) ?_
    refine lv_iconst (v := 0) X.1.1 X.1.2.1 dL_law_1688 (by decide) ?_
    refine va_lald X.1.1 X.1.2.1 X.2.2.2.2.2.2.1 hH3.2.2.1 0 0 rfl rfl (vp_in_nI (n := 0) (N := 1) (by omega) (by omega)) dL_law_1689 ?_
    refine lv_iload X.1.1 X.1.2.1 dL_law_1690 (lv_at hl2 0 rfl) ?_
    refine lv_if_eq (tgt := 1699) X.1.1 X.1.2.1 dL_law_1692 (by decide) (fun y => ?_) (fun y => ?_)
    · refine lv_lconst (v := 0) X.1.1 X.1.2.1 dL_law_1699 (by decide) ?_
      refine W.lcmp X.1.1 X.1.2.1 dL_law_1700 ?_
      exact lv_if_eq (tgt := 1706) X.1.1 X.1.2.1 dL_law_1701 (by decide) (fun _ => hg) (fun z => absurd (la_cmp_if_0 y) z)
    · refine lv_lconst (v := 1) X.1.1 X.1.2.1 dL_law_1695 (by decide) ?_
      refine lv_goto (tgt := 1700) X.1.1 X.1.2.1 dL_law_1696 (by decide) ?_
      refine W.lcmp X.1.1 X.1.2.1 dL_law_1700 ?_
      exact lv_if_eq (tgt := 1706) X.1.1 X.1.2.1 dL_law_1701 (by decide) (fun _ => hg) (fun z => absurd (la_cmp_if_1 y) z)
  · refine lv_aload_n X.1.1 X.1.2.1 dL_law_1634 rfl (lv_at hl 1 rfl) ?_
    refine la_arg (j := 1) X hS (lv_at hl 0 rfl) (lv_at hl 5 rfl) (by omega) hn.2 (by decide) dL_law_1635 dL_law_1636 dL_law_1638 dL_law_1639 dL_law_1640 ?_
    refine la_arg (j := 2) X hS (lv_at hl 0 rfl) (lv_at hl 5 rfl) (by omega) hn.2 (by decide) dL_law_1641 dL_law_1642 dL_law_1644 dL_law_1645 dL_law_1646 ?_
    refine lv_aload_n X.1.1 X.1.2.1 dL_law_1647 rfl (lv_at hl 3 rfl) ?_
    refine la_callW (M2 := mL_wouldSwap) (n2 := 4) (As := [.ref (cw_a (cc_w K) 0), .int (xs (n + 1)), .int (xs (n + 2)), .ref qo]) (hh := [(0, 17, 20, 29)]) X hH hS (wr_wouldSwap_x1 h1) ⟨_, rfl⟩ (by decide +kernel) rfl gT_L_wouldSwap ⟨Nat.le_of_ble_eq_true rfl, Nat.le_of_ble_eq_true rfl⟩ hc hl.1 rfl (Nat.le_of_ble_eq_true rfl) dL_law_1648 (fun H1 locs1 hH1 hS1 => ?_)
    refine lv_istore (lv' := (6, .int 1) :: [(0, .ref b), (1, .ref (cw_a (cc_w K) 0)), (2, .ref (cw_a (cr_w K) 0)), (3, .ref qo), (4, .ref qd), (5, .int (nI n))]) X.1.1 X.1.2.1 dL_law_1651 hl (by decide) rfl (fun ls1 hl1 => ?_)
    refine lv_aload_n X.1.1 X.1.2.1 dL_law_1653 rfl (lv_at hl1 3 rfl) ?_
    refine la_arg (j := 1) X hS1 (lv_at hl1 1 rfl) (lv_at hl1 6 rfl) (by omega) hn.2 (by decide) dL_law_1654 dL_law_1655 dL_law_1657 dL_law_1658 dL_law_1659 ?_
    refine la_arg (j := 2) X hS1 (lv_at hl1 1 rfl) (lv_at hl1 6 rfl) (by omega) hn.2 (by decide) dL_law_1660 dL_law_1661 dL_law_1663 dL_law_1664 dL_law_1665 ?_
    refine la_callR (As := [.int (xs (n + 1)), .int (xs (n + 2))]) X hH1 hS1 h2 okX11_wouldSwap rfl rfl gT_X11_wouldSwap ⟨Nat.le_of_ble_eq_true rfl, Nat.le_of_ble_eq_true rfl⟩ hc hl1.1 rfl (Nat.le_of_ble_eq_true rfl) dL_law_1666 (fun H2 locs2 hH2 hS2 => ?_)
    refine lv_istore (lv' := (7, .int r) :: (6, .int 1) :: [(0, .ref b), (1, .ref (cw_a (cc_w K) 0)), (2, .ref (cw_a (cr_w K) 0)), (3, .ref qo), (4, .ref qd), (5, .int (nI n))]) X.1.1 X.1.2.1 dL_law_1669 hl1 (by decide) rfl (fun ls2 hl2 => ?_)
    refine lv_aload_n X.1.1 X.1.2.1 dL_law_1671 rfl (lv_at hl2 4 rfl) ?_
    refine la_thrown X hH2 hS2 hc hl2.1 (Nat.le_of_ble_eq_true rfl) dL_law_1672 (fun H3 locs3 hH3 hS3 => ?_)
    refine lv_iload X.1.1 X.1.2.1 dL_law_1675 (lv_at hl2 1 rfl) ?_
    refine lv_icmp_eq (tgt := 1682) X.1.1 X.1.2.1 dL_law_1677 (by decide) (fun _ => ?_) (fun y => absurd h3 y)
    refine lv_iload X.1.1 X.1.2.1 dL_law_1682 (lv_at hl2 1 rfl) ?_
    have hg : W p K.1 e room_1 s m #[.ref b] below meth c H3 locs3 (cells + 1) (slots + 6) Q (F0 m 1706 ls2 []) := lv_goto (tgt := 2884) X.1.1 X.1.2.1 dL_law_1706 (by decide) (kk _ _ _ _ _ _ _ hH3 hS3 h4 (la_lv (la_lv hl2)))
    exact lv_if_ne (tgt := 1706) X.1.1 X.1.2.1 dL_law_1684 (by decide) (fun _ => hg) (fun y => absurd y (by decide))
theorem lc_29 (X : la_X K p s m meth c b L xs qo qd cl cd) (F : la_F K) (hc : cells + 1 ≤ 1088 ∧ slots + 6 ≤ 17909) (hn : n + 6 ≤ L ∧ L ≤ 3072) (kk : la_T K p e s m below meth c b qo qd cl cd Q n (cells + 1) (slots + 6) 2884) : la_T K p e s m below meth c b qo qd cl cd Q n cells slots 1709 := by
  intro H locs ls I J f g hH hS hR hl
  obtain ⟨r, I2, J2, h1, h2, h3, h4⟩ := ca_totalWelfare (K := K) hR
  refine W.widen (k := cells + 1) (n := slots + 6) (by omega) (by omega) ?_
  refine lv_aload_n X.1.1 X.1.2.1 dL_law_1709 rfl (lv_at hl 1 rfl) ?_
  refine la_callC (As := []) X hH hS h1 okX10_totalWelfare rfl rfl gT_X10_totalWelfare ⟨Nat.le_of_ble_eq_true rfl, Nat.le_of_ble_eq_true rfl⟩ hc hl.1 rfl (Nat.le_of_ble_eq_true rfl) dL_law_1710 (fun H1 locs1 hH1 hS1 => ?_)
  refine lv_aload_n X.1.1 X.1.2.1 dL_law_1713 rfl (lv_at hl 2 rfl) ?_
  refine la_callR (As := []) X hH1 hS1 h2 okX11_totalWelfare rfl rfl gT_X11_totalWelfare ⟨Nat.le_of_ble_eq_true rfl, Nat.le_of_ble_eq_true rfl⟩ hc hl.1 rfl (Nat.le_of_ble_eq_true rfl) dL_law_1714 (fun H2 locs2 hH2 hS2 => ?_)
  exact lv_icmp_eq (tgt := 2884) X.1.1 X.1.2.1 dL_law_1717 (by decide) (fun _ => kk _ _ _ _ _ _ _ hH2 hS2 h4 hl) (fun y => absurd rfl y)
theorem lc_30 (X : la_X K p s m meth c b L xs qo qd cl cd) (F : la_F K) (hc : cells + 1 ≤ 1088 ∧ slots + 6 ≤ 17909) (hn : n + 6 ≤ L ∧ L ≤ 3072) (kk : la_T K p e s m below meth c b qo qd cl cd Q n (cells + 1) (slots + 6) 2884) : la_T K p e s m below meth c b qo qd cl cd Q n cells slots 1722 := by
  intro H locs ls I J f g hH hS hR hl
  obtain ⟨r, I2, J2, h1, h2, h3, h4⟩ := ca_leastWelfare (K := K) hR
  refine W.widen (k := cells + 1) (n := slots + 6) (by omega) (by omega) ?_
  refine lv_aload_n X.1.1 X.1.2.1 dL_law_1722 rfl (lv_at hl 1 rfl) ?_
  refine la_callC (As := []) X hH hS h1 okX10_leastWelfare rfl rfl gT_X10_leastWelfare ⟨Nat.le_of_ble_eq_true rfl, Nat.le_of_ble_eq_true rfl⟩ hc hl.1 rfl (Nat.le_of_ble_eq_true rfl) dL_law_1723 (fun H1 locs1 hH1 hS1 => ?_)
  refine lv_aload_n X.1.1 X.1.2.1 dL_law_1726 rfl (lv_at hl 2 rfl) ?_
  refine la_callR (As := []) X hH1 hS1 h2 okX11_leastWelfare rfl rfl gT_X11_leastWelfare ⟨Nat.le_of_ble_eq_true rfl, Nat.le_of_ble_eq_true rfl⟩ hc hl.1 rfl (Nat.le_of_ble_eq_true rfl) dL_law_1727 (fun H2 locs2 hH2 hS2 => ?_)
  exact lv_icmp_eq (tgt := 2884) X.1.1 X.1.2.1 dL_law_1730 (by decide) (fun _ => kk _ _ _ _ _ _ _ hH2 hS2 h4 hl) (fun y => absurd rfl y)
theorem lc_31 (X : la_X K p s m meth c b L xs qo qd cl cd) (F : la_F K) (hc : cells + 1 ≤ 1088 ∧ slots + 6 ≤ 17909) (hn : n + 6 ≤ L ∧ L ≤ 3072) (kk : la_T K p e s m below meth c b qo qd cl cd Q n (cells + 1) (slots + 6) 2884) : la_T K p e s m below meth c b qo qd cl cd Q n cells slots 1735 := by
  intro H locs ls I J f g hH hS hR hl
  obtain ⟨r, I2, J2, h1, h2, h3, h4⟩ := ca_welfareProduct (K := K) hR
  refine W.widen (k := cells + 1) (n := slots + 6) (by omega) (by omega) ?_
  refine lv_aload_n X.1.1 X.1.2.1 dL_law_1735 rfl (lv_at hl 1 rfl) ?_
  refine la_callC (As := []) X hH hS h1 okX10_welfareProduct rfl rfl gT_X10_welfareProduct ⟨Nat.le_of_ble_eq_true rfl, Nat.le_of_ble_eq_true rfl⟩ hc hl.1 rfl (Nat.le_of_ble_eq_true rfl) dL_law_1736 (fun H1 locs1 hH1 hS1 => ?_)
  refine lv_aload_n X.1.1 X.1.2.1 dL_law_1739 rfl (lv_at hl 2 rfl) ?_
  refine la_callR (As := []) X hH1 hS1 h2 okX11_welfareProduct rfl rfl gT_X11_welfareProduct ⟨Nat.le_of_ble_eq_true rfl, Nat.le_of_ble_eq_true rfl⟩ hc hl.1 rfl (Nat.le_of_ble_eq_true rfl) dL_law_1740 (fun H2 locs2 hH2 hS2 => ?_)
  refine W.lcmp X.1.1 X.1.2.1 dL_law_1743 ?_
  exact lv_if_eq (tgt := 2884) X.1.1 X.1.2.1 dL_law_1744 (by decide) (fun _ => kk _ _ _ _ _ _ _ hH2 hS2 h4 hl) (fun y => absurd (la_cmp r) y)
theorem lc_32 (X : la_X K p s m meth c b L xs qo qd cl cd) (F : la_F K) (hc : cells + 1 ≤ 1088 ∧ slots + 6 ≤ 17909) (hn : n + 6 ≤ L ∧ L ≤ 3072) (kk : la_T K p e s m below meth c b qo qd cl cd Q n (cells + 1) (slots + 6) 2884) : la_T K p e s m below meth c b qo qd cl cd Q n cells slots 1749 := by
  intro H locs ls I J f g hH hS hR hl
  obtain ⟨r, I2, J2, h1, h2, h3, h4⟩ := ca_greatestTotalWelfare (K := K) hR
  refine W.widen (k := cells + 1) (n := slots + 6) (by omega) (by omega) ?_
  refine lv_aload_n X.1.1 X.1.2.1 dL_law_1749 rfl (lv_at hl 1 rfl) ?_
  refine la_callC (As := []) X hH hS h1 okX10_greatestTotalWelfare rfl rfl gT_X10_greatestTotalWelfare ⟨Nat.le_of_ble_eq_true rfl, Nat.le_of_ble_eq_true rfl⟩ hc hl.1 rfl (Nat.le_of_ble_eq_true rfl) dL_law_1750 (fun H1 locs1 hH1 hS1 => ?_)
  refine lv_aload_n X.1.1 X.1.2.1 dL_law_1753 rfl (lv_at hl 2 rfl) ?_
  refine la_callR (As := []) X hH1 hS1 h2 okX11_greatestTotalWelfare rfl rfl gT_X11_greatestTotalWelfare ⟨Nat.le_of_ble_eq_true rfl, Nat.le_of_ble_eq_true rfl⟩ hc hl.1 rfl (Nat.le_of_ble_eq_true rfl) dL_law_1754 (fun H2 locs2 hH2 hS2 => ?_)
  exact lv_icmp_eq (tgt := 2884) X.1.1 X.1.2.1 dL_law_1757 (by decide) (fun _ => kk _ _ _ _ _ _ _ hH2 hS2 h4 hl) (fun y => absurd rfl y)
theorem lc_33 (X : la_X K p s m meth c b L xs qo qd cl cd) (F : la_F K) (hc : cells + 1 ≤ 1088 ∧ slots + 6 ≤ 17909) (hn : n + 6 ≤ L ∧ L ≤ 3072) (kk : la_T K p e s m below meth c b qo qd cl cd Q n (cells + 1) (slots + 6) 2884) : la_T K p e s m below meth c b qo qd cl cd Q n cells slots 1762 := by
  intro H locs ls I J f g hH hS hR hl
  obtain ⟨r, I2, J2, h1, h2, h3, h4⟩ := ca_greatestContiguousWelfare (K := K) hR
  refine W.widen (k := cells + 1) (n := slots + 6) (by omega) (by omega) ?_
  refine lv_aload_n X.1.1 X.1.2.1 dL_law_1762 rfl (lv_at hl 1 rfl) ?_
  refine la_callC (As := []) X hH hS h1 okX10_greatestContiguousWelfare rfl rfl gT_X10_greatestContiguousWelfare ⟨Nat.le_of_ble_eq_true rfl, Nat.le_of_ble_eq_true rfl⟩ hc hl.1 rfl (Nat.le_of_ble_eq_true rfl) dL_law_1763 (fun H1 locs1 hH1 hS1 => ?_)
  refine lv_aload_n X.1.1 X.1.2.1 dL_law_1766 rfl (lv_at hl 2 rfl) ?_
  refine la_callR (As := []) X hH1 hS1 h2 okX11_greatestContiguousWelfare rfl rfl gT_X11_greatestContiguousWelfare ⟨Nat.le_of_ble_eq_true rfl, Nat.le_of_ble_eq_true rfl⟩ hc hl.1 rfl (Nat.le_of_ble_eq_true rfl) dL_law_1767 (fun H2 locs2 hH2 hS2 => ?_)
  exact lv_icmp_eq (tgt := 2884) X.1.1 X.1.2.1 dL_law_1770 (by decide) (fun _ => kk _ _ _ _ _ _ _ hH2 hS2 h4 hl) (fun y => absurd rfl y)
theorem lc_34 (X : la_X K p s m meth c b L xs qo qd cl cd) (F : la_F K) (hc : cells + 1 ≤ 1088 ∧ slots + 6 ≤ 17909) (hn : n + 6 ≤ L ∧ L ≤ 3072) (kk : la_T K p e s m below meth c b qo qd cl cd Q n (cells + 1) (slots + 6) 2884) : la_T K p e s m below meth c b qo qd cl cd Q n cells slots 1775 := by
  intro H locs ls I J f g hH hS hR hl
  obtain ⟨r, I2, J2, h1, h2, h3, h4⟩ := ca_bestLeastWelfare (K := K) hR
  refine W.widen (k := cells + 1) (n := slots + 6) (by omega) (by omega) ?_
  refine lv_aload_n X.1.1 X.1.2.1 dL_law_1775 rfl (lv_at hl 1 rfl) ?_
  refine la_callC (As := []) X hH hS h1 okX10_bestLeastWelfare rfl rfl gT_X10_bestLeastWelfare ⟨Nat.le_of_ble_eq_true rfl, Nat.le_of_ble_eq_true rfl⟩ hc hl.1 rfl (Nat.le_of_ble_eq_true rfl) dL_law_1776 (fun H1 locs1 hH1 hS1 => ?_)
  refine lv_aload_n X.1.1 X.1.2.1 dL_law_1779 rfl (lv_at hl 2 rfl) ?_
  refine la_callR (As := []) X hH1 hS1 h2 okX11_bestLeastWelfare rfl rfl gT_X11_bestLeastWelfare ⟨Nat.le_of_ble_eq_true rfl, Nat.le_of_ble_eq_true rfl⟩ hc hl.1 rfl (Nat.le_of_ble_eq_true rfl) dL_law_1780 (fun H2 locs2 hH2 hS2 => ?_)
  exact lv_icmp_eq (tgt := 2884) X.1.1 X.1.2.1 dL_law_1783 (by decide) (fun _ => kk _ _ _ _ _ _ _ hH2 hS2 h4 hl) (fun y => absurd rfl y)
theorem lc_35 (X : la_X K p s m meth c b L xs qo qd cl cd) (F : la_F K) (hc : cells + 1 ≤ 1088 ∧ slots + 6 ≤ 17909) (hn : n + 6 ≤ L ∧ L ≤ 3072) (kk : la_T K p e s m below meth c b qo qd cl cd Q n (cells + 1) (slots + 6) 2884) : la_T K p e s m below meth c b qo qd cl cd Q n cells slots 1788 := by
  intro H locs ls I J f g hH hS hR hl
  obtain ⟨r, I2, J2, h1, h2, h3, h4⟩ := ca_cutCount (K := K) hR
  refine W.widen (k := cells + 1) (n := slots + 6) (by omega) (by omega) ?_
  refine lv_aload_n X.1.1 X.1.2.1 dL_law_1788 rfl (lv_at hl 1 rfl) ?_
  refine la_callC (As := []) X hH hS h1 okX10_cutCount rfl rfl gT_X10_cutCount ⟨Nat.le_of_ble_eq_true rfl, Nat.le_of_ble_eq_true rfl⟩ hc hl.1 rfl (Nat.le_of_ble_eq_true rfl) dL_law_1789 (fun H1 locs1 hH1 hS1 => ?_)
  refine lv_aload_n X.1.1 X.1.2.1 dL_law_1792 rfl (lv_at hl 2 rfl) ?_
  refine la_callR (As := []) X hH1 hS1 h2 okX11_cutCount rfl rfl gT_X11_cutCount ⟨Nat.le_of_ble_eq_true rfl, Nat.le_of_ble_eq_true rfl⟩ hc hl.1 rfl (Nat.le_of_ble_eq_true rfl) dL_law_1793 (fun H2 locs2 hH2 hS2 => ?_)
  exact lv_icmp_eq (tgt := 2884) X.1.1 X.1.2.1 dL_law_1796 (by decide) (fun _ => kk _ _ _ _ _ _ _ hH2 hS2 h4 hl) (fun y => absurd rfl y)
theorem lc_36 (X : la_X K p s m meth c b L xs qo qd cl cd) (F : la_F K) (hc : cells + 1 ≤ 1088 ∧ slots + 6 ≤ 17909) (hn : n + 6 ≤ L ∧ L ≤ 3072) (kk : la_T K p e s m below meth c b qo qd cl cd Q n (cells + 1) (slots + 6) 2884) : la_T K p e s m below meth c b qo qd cl cd Q n cells slots 1801 := by
  intro H locs ls I J f g hH hS hR hl
  rcases ca_satisfaction (K := K) F.1 F.2.1 hR (x := xs (n + 1)) with ⟨r, I2, J2, h1, h2, h3, h4, h5⟩ | ⟨r, I2, J2, h1, h2, h3, h4⟩
  · refine lv_aload_n X.1.1 X.1.2.1 dL_law_1801 rfl (lv_at hl 1 rfl) ?_
    refine la_arg (j := 1) X hS (lv_at hl 0 rfl) (lv_at hl 5 rfl) (by omega) hn.2 (by decide) dL_law_1802 dL_law_1803 dL_law_1805 dL_law_1806 dL_law_1807 ?_
    refine lv_aload X.1.1 X.1.2.1 dL_law_1808 (lv_at hl 4 rfl) ?_
    have hy := la_fr h5
    obtain ⟨f2, hf2, hwr⟩ := wr_satisfaction_ok (cl := cd) (f := g) (qo := qd) hy.1 h1
    refine la_callD (M2 := mL_satisfaction) (n2 := 3) (As := [.ref (cw_a (cc_w K) 0), .int (xs (n + 1)), .ref qd]) (hh := [(0, 9, 12, 29)]) X hH hS hwr ⟨_, rfl⟩ (by decide +kernel) rfl gT_L_satisfaction ⟨Nat.le_of_ble_eq_true rfl, Nat.le_of_ble_eq_true rfl⟩ hc hl.1 rfl (Nat.le_of_ble_eq_true rfl) dL_law_1810 (fun H1 locs1 hH1 hS1 => ?_)
    refine lv_istore (lv' := (6, .int 0) :: [(0, .ref b), (1, .ref (cw_a (cc_w K) 0)), (2, .ref (cw_a (cr_w K) 0)), (3, .ref qo), (4, .ref qd), (5, .int (nI n))]) X.1.1 X.1.2.1 dL_law_1813 hl (by decide) rfl (fun ls1 hl1 => ?_)
    refine lv_aload_n X.1.1 X.1.2.1 dL_law_1815 rfl (lv_at hl1 3 rfl) ?_
    refine la_arg (j := 1) X hS1 (lv_at hl1 1 rfl) (lv_at hl1 6 rfl) (by omega) hn.2 (by decide) dL_law_1816 dL_law_1817 dL_law_1819 dL_law_1820 dL_law_1821 ?_
    refine la_callR (As := [.int (xs (n + 1))]) X hH1 hS1 h2 okX11_satisfaction rfl rfl gT_X11_satisfaction ⟨Nat.le_of_ble_eq_true rfl, Nat.le_of_ble_eq_true rfl⟩ hc hl1.1 rfl (Nat.le_of_ble_eq_true rfl) dL_law_1822 (fun H2 locs2 hH2 hS2 => ?_)
    refine lv_fstore (lv' := (7, .float r) :: (6, .int 0) :: [(0, .ref b), (1, .ref (cw_a (cc_w K) 0)), (2, .ref (cw_a (cr_w K) 0)), (3, .ref qo), (4, .ref qd), (5, .int (nI n))]) X.1.1 X.1.2.1 dL_law_1825 hl1 (by decide) rfl (fun ls2 hl2 => ?_)
    refine lv_aload_n X.1.1 X.1.2.1 dL_law_1827 rfl (lv_at hl2 4 rfl) ?_
    refine la_thrown X hH2 hS2 hc hl2.1 (Nat.le_of_ble_eq_true rfl) dL_law_1828 (fun H3 locs3 hH3 hS3 => ?_)
    refine lv_iload X.1.1 X.1.2.1 dL_law_1831 (lv_at hl2 1 rfl) ?_
    refine lv_icmp_eq (tgt := 1838) X.1.1 X.1.2.1 dL_law_1833 (by decide) (fun _ => ?_) (fun y => absurd h3 y)
    refine lv_iload X.1.1 X.1.2.1 dL_law_1838 (lv_at hl2 1 rfl) ?_
    have hg : W p K.1 e room_1 s m #[.ref b] below meth c H3 locs3 (cells + 1) (slots + 6) Q (F0 m 1876 ls2 []) := lv_goto (tgt := 2884) X.1.1 X.1.2.1 dL_law_1876 (by decide) (kk _ _ _ _ _ _ _ hH3 hS3 h4 (la_lv (la_lv hl2)))
    refine lv_if_ne (tgt := 1876) X.1.1 X.1.2.1 dL_law_1840 (by decide) (fun y => absurd rfl y) (fun _ => ?_)
    refine lv_aload X.1.1 X.1.2.1 dL_law_1843 (lv_at hl2 6 rfl) ?_
    refine lv_iconst (v := 0) X.1.1 X.1.2.1 dL_law_1845 (by decide) ?_
    refine va_dald X.1.1 X.1.2.1 X.2.2.2.2.2.2.2.1 hH3.2.2.2 0 0 rfl rfl (vp_in_nI (n := 0) (N := 1) (by omega) (by omega)) dL_law_1846 ?_
    refine lv_fload X.1.1 X.1.2.1 dL_law_1847 (lv_at hl2 0 rfl) ?_
    refine lv_f2d X.1.1 X.1.2.1 dL_law_1849 hy.1 ?_
    refine lv_dcmp X.1.1 X.1.2.1 dL_law_1850 ?_
    exact lv_if_eq (tgt := 1876) X.1.1 X.1.2.1 dL_law_1851 (by decide) (fun _ => hg) (fun y => absurd (la_dcmp hf2 hy) y)
  · refine lv_aload_n X.1.1 X.1.2.1 dL_law_1801 rfl (lv_at hl 1 rfl) ?_
    refine la_arg (j := 1) X hS (lv_at hl 0 rfl) (lv_at hl 5 rfl) (by omega) hn.2 (by decide) dL_law_1802 dL_law_1803 dL_law_1805 dL_law_1806 dL_law_1807 ?_
    refine lv_aload X.1.1 X.1.2.1 dL_law_1808 (lv_at hl 4 rfl) ?_
    refine la_callD (M2 := mL_satisfaction) (n2 := 3) (As := [.ref (cw_a (cc_w K) 0), .int (xs (n + 1)), .ref qd]) (hh := [(0, 9, 12, 29)]) X hH hS (wr_satisfaction_x1 h1) ⟨_, rfl⟩ (by decide +kernel) rfl gT_L_satisfaction ⟨Nat.le_of_ble_eq_true rfl, Nat.le_of_ble_eq_true rfl⟩ hc hl.1 rfl (Nat.le_of_ble_eq_true rfl) dL_law_1810 (fun H1 locs1 hH1 hS1 => ?_)
    refine lv_istore (lv' := (6, .int 1) :: [(0, .ref b), (1, .ref (cw_a (cc_w K) 0)), (2, .ref (cw_a (cr_w K) 0)), (3, .ref qo), (4, .ref qd), (5, .int (nI n))]) X.1.1 X.1.2.1 dL_law_1813 hl (by decide) rfl (fun ls1 hl1 => ?_)
    refine lv_aload_n X.1.1 X.1.2.1 dL_law_1815 rfl (lv_at hl1 3 rfl) ?_
    refine la_arg (j := 1) X hS1 (lv_at hl1 1 rfl) (lv_at hl1 6 rfl) (by omega) hn.2 (by decide) dL_law_1816 dL_law_1817 dL_law_1819 dL_law_1820 dL_law_1821 ?_
    refine la_callR (As := [.int (xs (n + 1))]) X hH1 hS1 h2 okX11_satisfaction rfl rfl gT_X11_satisfaction ⟨Nat.le_of_ble_eq_true rfl, Nat.le_of_ble_eq_true rfl⟩ hc hl1.1 rfl (Nat.le_of_ble_eq_true rfl) dL_law_1822 (fun H2 locs2 hH2 hS2 => ?_)
    refine lv_fstore (lv' := (7, .float r) :: (6, .int 1) :: [(0, .ref b), (1, .ref (cw_a (cc_w K) 0)), (2, .ref (cw_a (cr_w K) 0)), (3, .ref qo), (4, .ref qd), (5, .int (nI n))]) X.1.1 X.1.2.1 dL_law_1825 hl1 (by decide) rfl (fun ls2 hl2 => ?_)
    refine lv_aload_n X.1.1 X.1.2.1 dL_law_1827 rfl (lv_at hl2 4 rfl) ?_
    refine la_thrown X hH2 hS2 hc hl2.1 (Nat.le_of_ble_eq_true rfl) dL_law_1828 (fun H3 locs3 hH3 hS3 => ?_)
    refine lv_iload X.1.1 X.1.2.1 dL_law_1831 (lv_at hl2 1 rfl) ?_
    refine lv_icmp_eq (tgt := 1838) X.1.1 X.1.2.1 dL_law_1833 (by decide) (fun _ => ?_) (fun y => absurd h3 y)
    refine lv_iload X.1.1 X.1.2.1 dL_law_1838 (lv_at hl2 1 rfl) ?_
    have hg : W p K.1 e room_1 s m #[.ref b] below meth c H3 locs3 (cells + 1) (slots + 6) Q (F0 m 1876 ls2 []) := lv_goto (tgt := 2884) X.1.1 X.1.2.1 dL_law_1876 (by decide) (kk _ _ _ _ _ _ _ hH3 hS3 h4 (la_lv (la_lv hl2)))
    exact lv_if_ne (tgt := 1876) X.1.1 X.1.2.1 dL_law_1840 (by decide) (fun _ => hg) (fun y => absurd y (by decide))
theorem lc_37 (X : la_X K p s m meth c b L xs qo qd cl cd) (F : la_F K) (hc : cells + 1 ≤ 1088 ∧ slots + 6 ≤ 17909) (hn : n + 6 ≤ L ∧ L ≤ 3072) (kk : la_T K p e s m below meth c b qo qd cl cd Q n (cells + 1) (slots + 6) 2884) : la_T K p e s m below meth c b qo qd cl cd Q n cells slots 1879 := by
  intro H locs ls I J f g hH hS hR hl
  obtain ⟨r, I2, J2, h1, h2, h3, h4⟩ := ca_meanPieces (K := K) hR
  refine W.widen (k := cells + 1) (n := slots + 6) (by omega) (by omega) ?_
  refine lv_aload_n X.1.1 X.1.2.1 dL_law_1879 rfl (lv_at hl 1 rfl) ?_
  refine la_callC (As := []) X hH hS h1 okX10_meanPieces rfl rfl gT_X10_meanPieces ⟨Nat.le_of_ble_eq_true rfl, Nat.le_of_ble_eq_true rfl⟩ hc hl.1 rfl (Nat.le_of_ble_eq_true rfl) dL_law_1880 (fun H1 locs1 hH1 hS1 => ?_)
  refine lv_dstore (lv' := (6, .double r) :: [(0, .ref b), (1, .ref (cw_a (cc_w K) 0)), (2, .ref (cw_a (cr_w K) 0)), (3, .ref qo), (4, .ref qd), (5, .int (nI n))]) X.1.1 X.1.2.1 dL_law_1883 hl (by decide) rfl (fun ls1 hl1 => ?_)
  refine lv_aload_n X.1.1 X.1.2.1 dL_law_1885 rfl (lv_at hl1 3 rfl) ?_
  refine la_callR (As := []) X hH1 hS1 h2 okX11_meanPieces rfl rfl gT_X11_meanPieces ⟨Nat.le_of_ble_eq_true rfl, Nat.le_of_ble_eq_true rfl⟩ hc hl1.1 rfl (Nat.le_of_ble_eq_true rfl) dL_law_1886 (fun H2 locs2 hH2 hS2 => ?_)
  refine lv_dstore (lv' := (8, .double r) :: (6, .double r) :: [(0, .ref b), (1, .ref (cw_a (cc_w K) 0)), (2, .ref (cw_a (cr_w K) 0)), (3, .ref qo), (4, .ref qd), (5, .int (nI n))]) X.1.1 X.1.2.1 dL_law_1889 hl1 (by decide) rfl (fun ls2 hl2 => ?_)
  have hg : W p K.1 e room_1 s m #[.ref b] below meth c H2 locs2 (cells + 1) (slots + 6) Q (F0 m 1917 ls2 []) := lv_goto (tgt := 2884) X.1.1 X.1.2.1 dL_law_1917 (by decide) (kk _ _ _ _ _ _ _ hH2 hS2 h4 (la_lv (la_lv hl2)))
  refine lv_dload X.1.1 X.1.2.1 dL_law_1891 (lv_at hl2 1 rfl) ?_
  refine lv_dload X.1.1 X.1.2.1 dL_law_1893 (lv_at hl2 0 rfl) ?_
  refine lv_dcmp X.1.1 X.1.2.1 dL_law_1895 ?_
  refine lv_if_eq (tgt := 1917) X.1.1 X.1.2.1 dL_law_1896 (by decide) (fun _ => hg) (fun y => ?_)
  refine lv_dload X.1.1 X.1.2.1 dL_law_1899 (lv_at hl2 1 rfl) ?_
  refine lv_dload X.1.1 X.1.2.1 dL_law_1901 (lv_at hl2 1 rfl) ?_
  refine lv_dcmp X.1.1 X.1.2.1 dL_law_1903 ?_
  refine lv_if_eq (tgt := 1915) X.1.1 X.1.2.1 dL_law_1904 (by decide) (fun z => absurd z y) (fun _ => ?_)
  refine lv_dload X.1.1 X.1.2.1 dL_law_1907 (lv_at hl2 0 rfl) ?_
  refine lv_dload X.1.1 X.1.2.1 dL_law_1909 (lv_at hl2 0 rfl) ?_
  refine lv_dcmp X.1.1 X.1.2.1 dL_law_1911 ?_
  exact lv_if_ne (tgt := 1917) X.1.1 X.1.2.1 dL_law_1912 (by decide) (fun _ => hg) (fun z => absurd z y)
theorem lc_38 (X : la_X K p s m meth c b L xs qo qd cl cd) (F : la_F K) (hc : cells + 1 ≤ 1088 ∧ slots + 6 ≤ 17909) (hn : n + 6 ≤ L ∧ L ≤ 3072) (kk : la_T K p e s m below meth c b qo qd cl cd Q n (cells + 1) (slots + 6) 2884) : la_T K p e s m below meth c b qo qd cl cd Q n cells slots 1920 := by
  intro H locs ls I J f g hH hS hR hl
  obtain ⟨r, I2, J2, h1, h2, h3, h4⟩ := ca_inconsistencies (K := K) hR
  refine W.widen (k := cells + 1) (n := slots + 6) (by omega) (by omega) ?_
  refine lv_aload_n X.1.1 X.1.2.1 dL_law_1920 rfl (lv_at hl 1 rfl) ?_
  refine la_callC (As := []) X hH hS h1 okX10_inconsistencies rfl rfl gT_X10_inconsistencies ⟨Nat.le_of_ble_eq_true rfl, Nat.le_of_ble_eq_true rfl⟩ hc hl.1 rfl (Nat.le_of_ble_eq_true rfl) dL_law_1921 (fun H1 locs1 hH1 hS1 => ?_)
  refine lv_aload_n X.1.1 X.1.2.1 dL_law_1924 rfl (lv_at hl 2 rfl) ?_
  refine la_callR (As := []) X hH1 hS1 h2 okX11_inconsistencies rfl rfl gT_X11_inconsistencies ⟨Nat.le_of_ble_eq_true rfl, Nat.le_of_ble_eq_true rfl⟩ hc hl.1 rfl (Nat.le_of_ble_eq_true rfl) dL_law_1925 (fun H2 locs2 hH2 hS2 => ?_)
  exact lv_icmp_eq (tgt := 2884) X.1.1 X.1.2.1 dL_law_1928 (by decide) (fun _ => kk _ _ _ _ _ _ _ hH2 hS2 h4 hl) (fun y => absurd rfl y)
theorem lc_39 (X : la_X K p s m meth c b L xs qo qd cl cd) (F : la_F K) (hc : cells + 1 ≤ 1088 ∧ slots + 6 ≤ 17909) (hn : n + 6 ≤ L ∧ L ≤ 3072) (kk : la_T K p e s m below meth c b qo qd cl cd Q n (cells + 1) (slots + 6) 2884) : la_T K p e s m below meth c b qo qd cl cd Q n cells slots 1933 := by
  intro H locs ls I J f g hH hS hR hl
  rcases ca_cutFor (K := K) F.1 F.2.1 hR (x := xs (n + 1)) with ⟨r, I2, J2, h1, h2, h3, h4⟩ | ⟨r, I2, J2, h1, h2, h3, h4⟩
  · refine lv_aload_n X.1.1 X.1.2.1 dL_law_1933 rfl (lv_at hl 1 rfl) ?_
    refine la_arg (j := 1) X hS (lv_at hl 0 rfl) (lv_at hl 5 rfl) (by omega) hn.2 (by decide) dL_law_1934 dL_law_1935 dL_law_1937 dL_law_1938 dL_law_1939 ?_
    refine lv_aload_n X.1.1 X.1.2.1 dL_law_1940 rfl (lv_at hl 3 rfl) ?_
    refine la_callW (M2 := mL_cutFor) (n2 := 3) (As := [.ref (cw_a (cc_w K) 0), .int (xs (n + 1)), .ref qo]) (hh := [(0, 9, 12, 29)]) X hH hS (wr_cutFor_ok h1) ⟨_, rfl⟩ (by decide +kernel) rfl gT_L_cutFor ⟨Nat.le_of_ble_eq_true rfl, Nat.le_of_ble_eq_true rfl⟩ hc hl.1 rfl (Nat.le_of_ble_eq_true rfl) dL_law_1941 (fun H1 locs1 hH1 hS1 => ?_)
    refine lv_istore (lv' := (6, .int 0) :: [(0, .ref b), (1, .ref (cw_a (cc_w K) 0)), (2, .ref (cw_a (cr_w K) 0)), (3, .ref qo), (4, .ref qd), (5, .int (nI n))]) X.1.1 X.1.2.1 dL_law_1944 hl (by decide) rfl (fun ls1 hl1 => ?_)
    refine lv_aload_n X.1.1 X.1.2.1 dL_law_1946 rfl (lv_at hl1 3 rfl) ?_
    refine la_arg (j := 1) X hS1 (lv_at hl1 1 rfl) (lv_at hl1 6 rfl) (by omega) hn.2 (by decide) dL_law_1947 dL_law_1948 dL_law_1950 dL_law_1951 dL_law_1952 ?_
    refine la_callR (As := [.int (xs (n + 1))]) X hH1 hS1 h2 okX11_cutFor rfl rfl gT_X11_cutFor ⟨Nat.le_of_ble_eq_true rfl, Nat.le_of_ble_eq_true rfl⟩ hc hl1.1 rfl (Nat.le_of_ble_eq_true rfl) dL_law_1953 (fun H2 locs2 hH2 hS2 => ?_)
    refine lv_istore (lv' := (7, .int r) :: (6, .int 0) :: [(0, .ref b), (1, .ref (cw_a (cc_w K) 0)), (2, .ref (cw_a (cr_w K) 0)), (3, .ref qo), (4, .ref qd), (5, .int (nI n))]) X.1.1 X.1.2.1 dL_law_1956 hl1 (by decide) rfl (fun ls2 hl2 => ?_)
    refine lv_aload_n X.1.1 X.1.2.1 dL_law_1958 rfl (lv_at hl2 4 rfl) ?_
    refine la_thrown X hH2 hS2 hc hl2.1 (Nat.le_of_ble_eq_true rfl) dL_law_1959 (fun H3 locs3 hH3 hS3 => ?_)
    refine lv_iload X.1.1 X.1.2.1 dL_law_1962 (lv_at hl2 1 rfl) ?_
    refine lv_icmp_eq (tgt := 1969) X.1.1 X.1.2.1 dL_law_1964 (by decide) (fun _ => ?_) (fun y => absurd h3 y)
    refine lv_iload X.1.1 X.1.2.1 dL_law_1969 (lv_at hl2 1 rfl) ?_
    have hg : W p K.1 e room_1 s m #[.ref b] below meth c H3 locs3 (cells + 1) (slots + 6) Q (F0 m 1986 ls2 []) := lv_goto (tgt := 2884) X.1.1 X.1.2.1 dL_law_1986 (by decide) (kk _ _ _ _ _ _ _ hH3 hS3 h4 (la_lv (la_lv hl2)))
    refine lv_if_ne (tgt := 1986) X.1.1 X.1.2.1 dL_law_1971 (by decide) (fun y => absurd rfl y) (fun _ => ?_)
    refine lv_aload_n X.1.1 X.1.2.1 dL_law_1974 rfl (lv_at hl2 5 rfl) ?_
    refine lv_iconst (v := 0) X.1.1 X.1.2.1 dL_law_1975 (by decide) ?_
    refine va_lald X.1.1 X.1.2.1 X.2.2.2.2.2.2.1 hH3.2.2.1 0 0 rfl rfl (vp_in_nI (n := 0) (N := 1) (by omega) (by omega)) dL_law_1976 ?_
    refine lv_iload X.1.1 X.1.2.1 dL_law_1977 (lv_at hl2 0 rfl) ?_
    refine lv_i2l (v := r.toInt64) X.1.1 X.1.2.1 dL_law_1979 rfl ?_
    refine W.lcmp X.1.1 X.1.2.1 dL_law_1980 ?_
    exact lv_if_eq (tgt := 1986) X.1.1 X.1.2.1 dL_law_1981 (by decide) (fun _ => hg) (fun y => absurd (la_cmp _) y)
  · refine lv_aload_n X.1.1 X.1.2.1 dL_law_1933 rfl (lv_at hl 1 rfl) ?_
    refine la_arg (j := 1) X hS (lv_at hl 0 rfl) (lv_at hl 5 rfl) (by omega) hn.2 (by decide) dL_law_1934 dL_law_1935 dL_law_1937 dL_law_1938 dL_law_1939 ?_
    refine lv_aload_n X.1.1 X.1.2.1 dL_law_1940 rfl (lv_at hl 3 rfl) ?_
    refine la_callW (M2 := mL_cutFor) (n2 := 3) (As := [.ref (cw_a (cc_w K) 0), .int (xs (n + 1)), .ref qo]) (hh := [(0, 9, 12, 29)]) X hH hS (wr_cutFor_x1 h1) ⟨_, rfl⟩ (by decide +kernel) rfl gT_L_cutFor ⟨Nat.le_of_ble_eq_true rfl, Nat.le_of_ble_eq_true rfl⟩ hc hl.1 rfl (Nat.le_of_ble_eq_true rfl) dL_law_1941 (fun H1 locs1 hH1 hS1 => ?_)
    refine lv_istore (lv' := (6, .int 1) :: [(0, .ref b), (1, .ref (cw_a (cc_w K) 0)), (2, .ref (cw_a (cr_w K) 0)), (3, .ref qo), (4, .ref qd), (5, .int (nI n))]) X.1.1 X.1.2.1 dL_law_1944 hl (by decide) rfl (fun ls1 hl1 => ?_)
    refine lv_aload_n X.1.1 X.1.2.1 dL_law_1946 rfl (lv_at hl1 3 rfl) ?_
    refine la_arg (j := 1) X hS1 (lv_at hl1 1 rfl) (lv_at hl1 6 rfl) (by omega) hn.2 (by decide) dL_law_1947 dL_law_1948 dL_law_1950 dL_law_1951 dL_law_1952 ?_
    refine la_callR (As := [.int (xs (n + 1))]) X hH1 hS1 h2 okX11_cutFor rfl rfl gT_X11_cutFor ⟨Nat.le_of_ble_eq_true rfl, Nat.le_of_ble_eq_true rfl⟩ hc hl1.1 rfl (Nat.le_of_ble_eq_true rfl) dL_law_1953 (fun H2 locs2 hH2 hS2 => ?_)
    refine lv_istore (lv' := (7, .int r) :: (6, .int 1) :: [(0, .ref b), (1, .ref (cw_a (cc_w K) 0)), (2, .ref (cw_a (cr_w K) 0)), (3, .ref qo), (4, .ref qd), (5, .int (nI n))]) X.1.1 X.1.2.1 dL_law_1956 hl1 (by decide) rfl (fun ls2 hl2 => ?_)
    refine lv_aload_n X.1.1 X.1.2.1 dL_law_1958 rfl (lv_at hl2 4 rfl) ?_
    refine la_thrown X hH2 hS2 hc hl2.1 (Nat.le_of_ble_eq_true rfl) dL_law_1959 (fun H3 locs3 hH3 hS3 => ?_)
    refine lv_iload X.1.1 X.1.2.1 dL_law_1962 (lv_at hl2 1 rfl) ?_
    refine lv_icmp_eq (tgt := 1969) X.1.1 X.1.2.1 dL_law_1964 (by decide) (fun _ => ?_) (fun y => absurd h3 y)
    refine lv_iload X.1.1 X.1.2.1 dL_law_1969 (lv_at hl2 1 rfl) ?_
    have hg : W p K.1 e room_1 s m #[.ref b] below meth c H3 locs3 (cells + 1) (slots + 6) Q (F0 m 1986 ls2 []) := lv_goto (tgt := 2884) X.1.1 X.1.2.1 dL_law_1986 (by decide) (kk _ _ _ _ _ _ _ hH3 hS3 h4 (la_lv (la_lv hl2)))
    exact lv_if_ne (tgt := 1986) X.1.1 X.1.2.1 dL_law_1971 (by decide) (fun _ => hg) (fun y => absurd y (by decide))
theorem lc_40 (X : la_X K p s m meth c b L xs qo qd cl cd) (F : la_F K) (hc : cells + 1 ≤ 1088 ∧ slots + 6 ≤ 17909) (hn : n + 6 ≤ L ∧ L ≤ 3072) (kk : la_T K p e s m below meth c b qo qd cl cd Q n (cells + 1) (slots + 6) 2884) : la_T K p e s m below meth c b qo qd cl cd Q n cells slots 1989 := by
  intro H locs ls I J f g hH hS hR hl
  rcases ca_welfareByKnife (K := K) F.1 F.2.1 hR (x := xs (n + 1)) with ⟨r, I2, J2, h1, h2, h3, h4⟩ | ⟨r, I2, J2, h1, h2, h3, h4⟩
  · refine lv_aload_n X.1.1 X.1.2.1 dL_law_1989 rfl (lv_at hl 1 rfl) ?_
    refine la_arg (j := 1) X hS (lv_at hl 0 rfl) (lv_at hl 5 rfl) (by omega) hn.2 (by decide) dL_law_1990 dL_law_1991 dL_law_1993 dL_law_1994 dL_law_1995 ?_
    refine lv_aload_n X.1.1 X.1.2.1 dL_law_1996 rfl (lv_at hl 3 rfl) ?_
    refine la_callW (M2 := mL_welfareByKnife) (n2 := 3) (As := [.ref (cw_a (cc_w K) 0), .int (xs (n + 1)), .ref qo]) (hh := [(0, 9, 12, 29)]) X hH hS (wr_welfareByKnife_ok h1) ⟨_, rfl⟩ (by decide +kernel) rfl gT_L_welfareByKnife ⟨Nat.le_of_ble_eq_true rfl, Nat.le_of_ble_eq_true rfl⟩ hc hl.1 rfl (Nat.le_of_ble_eq_true rfl) dL_law_1997 (fun H1 locs1 hH1 hS1 => ?_)
    refine lv_istore (lv' := (6, .int 0) :: [(0, .ref b), (1, .ref (cw_a (cc_w K) 0)), (2, .ref (cw_a (cr_w K) 0)), (3, .ref qo), (4, .ref qd), (5, .int (nI n))]) X.1.1 X.1.2.1 dL_law_2000 hl (by decide) rfl (fun ls1 hl1 => ?_)
    refine lv_aload_n X.1.1 X.1.2.1 dL_law_2002 rfl (lv_at hl1 3 rfl) ?_
    refine la_arg (j := 1) X hS1 (lv_at hl1 1 rfl) (lv_at hl1 6 rfl) (by omega) hn.2 (by decide) dL_law_2003 dL_law_2004 dL_law_2006 dL_law_2007 dL_law_2008 ?_
    refine la_callR (As := [.int (xs (n + 1))]) X hH1 hS1 h2 okX11_welfareByKnife rfl rfl gT_X11_welfareByKnife ⟨Nat.le_of_ble_eq_true rfl, Nat.le_of_ble_eq_true rfl⟩ hc hl1.1 rfl (Nat.le_of_ble_eq_true rfl) dL_law_2009 (fun H2 locs2 hH2 hS2 => ?_)
    refine lv_istore (lv' := (7, .int r) :: (6, .int 0) :: [(0, .ref b), (1, .ref (cw_a (cc_w K) 0)), (2, .ref (cw_a (cr_w K) 0)), (3, .ref qo), (4, .ref qd), (5, .int (nI n))]) X.1.1 X.1.2.1 dL_law_2012 hl1 (by decide) rfl (fun ls2 hl2 => ?_)
    refine lv_aload_n X.1.1 X.1.2.1 dL_law_2014 rfl (lv_at hl2 4 rfl) ?_
    refine la_thrown X hH2 hS2 hc hl2.1 (Nat.le_of_ble_eq_true rfl) dL_law_2015 (fun H3 locs3 hH3 hS3 => ?_)
    refine lv_iload X.1.1 X.1.2.1 dL_law_2018 (lv_at hl2 1 rfl) ?_
    refine lv_icmp_eq (tgt := 2025) X.1.1 X.1.2.1 dL_law_2020 (by decide) (fun _ => ?_) (fun y => absurd h3 y)
    refine lv_iload X.1.1 X.1.2.1 dL_law_2025 (lv_at hl2 1 rfl) ?_
    have hg : W p K.1 e room_1 s m #[.ref b] below meth c H3 locs3 (cells + 1) (slots + 6) Q (F0 m 2042 ls2 []) := lv_goto (tgt := 2884) X.1.1 X.1.2.1 dL_law_2042 (by decide) (kk _ _ _ _ _ _ _ hH3 hS3 h4 (la_lv (la_lv hl2)))
    refine lv_if_ne (tgt := 2042) X.1.1 X.1.2.1 dL_law_2027 (by decide) (fun y => absurd rfl y) (fun _ => ?_)
    refine lv_aload_n X.1.1 X.1.2.1 dL_law_2030 rfl (lv_at hl2 5 rfl) ?_
    refine lv_iconst (v := 0) X.1.1 X.1.2.1 dL_law_2031 (by decide) ?_
    refine va_lald X.1.1 X.1.2.1 X.2.2.2.2.2.2.1 hH3.2.2.1 0 0 rfl rfl (vp_in_nI (n := 0) (N := 1) (by omega) (by omega)) dL_law_2032 ?_
    refine lv_iload X.1.1 X.1.2.1 dL_law_2033 (lv_at hl2 0 rfl) ?_
    refine lv_i2l (v := r.toInt64) X.1.1 X.1.2.1 dL_law_2035 rfl ?_
    refine W.lcmp X.1.1 X.1.2.1 dL_law_2036 ?_
    exact lv_if_eq (tgt := 2042) X.1.1 X.1.2.1 dL_law_2037 (by decide) (fun _ => hg) (fun y => absurd (la_cmp _) y)
  · refine lv_aload_n X.1.1 X.1.2.1 dL_law_1989 rfl (lv_at hl 1 rfl) ?_
    refine la_arg (j := 1) X hS (lv_at hl 0 rfl) (lv_at hl 5 rfl) (by omega) hn.2 (by decide) dL_law_1990 dL_law_1991 dL_law_1993 dL_law_1994 dL_law_1995 ?_
    refine lv_aload_n X.1.1 X.1.2.1 dL_law_1996 rfl (lv_at hl 3 rfl) ?_
    refine la_callW (M2 := mL_welfareByKnife) (n2 := 3) (As := [.ref (cw_a (cc_w K) 0), .int (xs (n + 1)), .ref qo]) (hh := [(0, 9, 12, 29)]) X hH hS (wr_welfareByKnife_x1 h1) ⟨_, rfl⟩ (by decide +kernel) rfl gT_L_welfareByKnife ⟨Nat.le_of_ble_eq_true rfl, Nat.le_of_ble_eq_true rfl⟩ hc hl.1 rfl (Nat.le_of_ble_eq_true rfl) dL_law_1997 (fun H1 locs1 hH1 hS1 => ?_)
    refine lv_istore (lv' := (6, .int 1) :: [(0, .ref b), (1, .ref (cw_a (cc_w K) 0)), (2, .ref (cw_a (cr_w K) 0)), (3, .ref qo), (4, .ref qd), (5, .int (nI n))]) X.1.1 X.1.2.1 dL_law_2000 hl (by decide) rfl (fun ls1 hl1 => ?_)
    refine lv_aload_n X.1.1 X.1.2.1 dL_law_2002 rfl (lv_at hl1 3 rfl) ?_
    refine la_arg (j := 1) X hS1 (lv_at hl1 1 rfl) (lv_at hl1 6 rfl) (by omega) hn.2 (by decide) dL_law_2003 dL_law_2004 dL_law_2006 dL_law_2007 dL_law_2008 ?_
    refine la_callR (As := [.int (xs (n + 1))]) X hH1 hS1 h2 okX11_welfareByKnife rfl rfl gT_X11_welfareByKnife ⟨Nat.le_of_ble_eq_true rfl, Nat.le_of_ble_eq_true rfl⟩ hc hl1.1 rfl (Nat.le_of_ble_eq_true rfl) dL_law_2009 (fun H2 locs2 hH2 hS2 => ?_)
    refine lv_istore (lv' := (7, .int r) :: (6, .int 1) :: [(0, .ref b), (1, .ref (cw_a (cc_w K) 0)), (2, .ref (cw_a (cr_w K) 0)), (3, .ref qo), (4, .ref qd), (5, .int (nI n))]) X.1.1 X.1.2.1 dL_law_2012 hl1 (by decide) rfl (fun ls2 hl2 => ?_)
    refine lv_aload_n X.1.1 X.1.2.1 dL_law_2014 rfl (lv_at hl2 4 rfl) ?_
    refine la_thrown X hH2 hS2 hc hl2.1 (Nat.le_of_ble_eq_true rfl) dL_law_2015 (fun H3 locs3 hH3 hS3 => ?_)
    refine lv_iload X.1.1 X.1.2.1 dL_law_2018 (lv_at hl2 1 rfl) ?_
    refine lv_icmp_eq (tgt := 2025) X.1.1 X.1.2.1 dL_law_2020 (by decide) (fun _ => ?_) (fun y => absurd h3 y)
    refine lv_iload X.1.1 X.1.2.1 dL_law_2025 (lv_at hl2 1 rfl) ?_
    have hg : W p K.1 e room_1 s m #[.ref b] below meth c H3 locs3 (cells + 1) (slots + 6) Q (F0 m 2042 ls2 []) := lv_goto (tgt := 2884) X.1.1 X.1.2.1 dL_law_2042 (by decide) (kk _ _ _ _ _ _ _ hH3 hS3 h4 (la_lv (la_lv hl2)))
    exact lv_if_ne (tgt := 2042) X.1.1 X.1.2.1 dL_law_2027 (by decide) (fun _ => hg) (fun y => absurd y (by decide))
theorem lc_41 (X : la_X K p s m meth c b L xs qo qd cl cd) (F : la_F K) (hc : cells + 1 ≤ 1088 ∧ slots + 6 ≤ 17909) (hn : n + 6 ≤ L ∧ L ≤ 3072) (kk : la_T K p e s m below meth c b qo qd cl cd Q n (cells + 1) (slots + 6) 2884) : la_T K p e s m below meth c b qo qd cl cd Q n cells slots 2045 := by
  intro H locs ls I J f g hH hS hR hl
  rcases ca_welfareByRobin (K := K) F.1 F.2.1 hR (x := xs (n + 1)) (y := xs (n + 2)) with ⟨r, I2, J2, h1, h2, h3, h4⟩ | ⟨r, I2, J2, h1, h2, h3, h4⟩
  · refine lv_aload_n X.1.1 X.1.2.1 dL_law_2045 rfl (lv_at hl 1 rfl) ?_
    refine la_arg (j := 1) X hS (lv_at hl 0 rfl) (lv_at hl 5 rfl) (by omega) hn.2 (by decide) dL_law_2046 dL_law_2047 dL_law_2049 dL_law_2050 dL_law_2051 ?_
    refine la_arg (j := 2) X hS (lv_at hl 0 rfl) (lv_at hl 5 rfl) (by omega) hn.2 (by decide) dL_law_2052 dL_law_2053 dL_law_2055 dL_law_2056 dL_law_2057 ?_
    refine lv_aload_n X.1.1 X.1.2.1 dL_law_2058 rfl (lv_at hl 3 rfl) ?_
    refine la_callW (M2 := mL_welfareByRobin) (n2 := 4) (As := [.ref (cw_a (cc_w K) 0), .int (xs (n + 1)), .int (xs (n + 2)), .ref qo]) (hh := [(0, 10, 13, 29)]) X hH hS (wr_welfareByRobin_ok h1) ⟨_, rfl⟩ (by decide +kernel) rfl gT_L_welfareByRobin ⟨Nat.le_of_ble_eq_true rfl, Nat.le_of_ble_eq_true rfl⟩ hc hl.1 rfl (Nat.le_of_ble_eq_true rfl) dL_law_2059 (fun H1 locs1 hH1 hS1 => ?_)
    refine lv_istore (lv' := (6, .int 0) :: [(0, .ref b), (1, .ref (cw_a (cc_w K) 0)), (2, .ref (cw_a (cr_w K) 0)), (3, .ref qo), (4, .ref qd), (5, .int (nI n))]) X.1.1 X.1.2.1 dL_law_2062 hl (by decide) rfl (fun ls1 hl1 => ?_)
    refine lv_aload_n X.1.1 X.1.2.1 dL_law_2064 rfl (lv_at hl1 3 rfl) ?_
    refine la_arg (j := 1) X hS1 (lv_at hl1 1 rfl) (lv_at hl1 6 rfl) (by omega) hn.2 (by decide) dL_law_2065 dL_law_2066 dL_law_2068 dL_law_2069 dL_law_2070 ?_
    refine la_arg (j := 2) X hS1 (lv_at hl1 1 rfl) (lv_at hl1 6 rfl) (by omega) hn.2 (by decide) dL_law_2071 dL_law_2072 dL_law_2074 dL_law_2075 dL_law_2076 ?_
    refine la_callR (As := [.int (xs (n + 1)), .int (xs (n + 2))]) X hH1 hS1 h2 okX11_welfareByRobin rfl rfl gT_X11_welfareByRobin ⟨Nat.le_of_ble_eq_true rfl, Nat.le_of_ble_eq_true rfl⟩ hc hl1.1 rfl (Nat.le_of_ble_eq_true rfl) dL_law_2077 (fun H2 locs2 hH2 hS2 => ?_)
    refine lv_istore (lv' := (7, .int r) :: (6, .int 0) :: [(0, .ref b), (1, .ref (cw_a (cc_w K) 0)), (2, .ref (cw_a (cr_w K) 0)), (3, .ref qo), (4, .ref qd), (5, .int (nI n))]) X.1.1 X.1.2.1 dL_law_2080 hl1 (by decide) rfl (fun ls2 hl2 => ?_)
    refine lv_aload_n X.1.1 X.1.2.1 dL_law_2082 rfl (lv_at hl2 4 rfl) ?_
    refine la_thrown X hH2 hS2 hc hl2.1 (Nat.le_of_ble_eq_true rfl) dL_law_2083 (fun H3 locs3 hH3 hS3 => ?_)
    refine lv_iload X.1.1 X.1.2.1 dL_law_2086 (lv_at hl2 1 rfl) ?_
    refine lv_icmp_eq (tgt := 2093) X.1.1 X.1.2.1 dL_law_2088 (by decide) (fun _ => ?_) (fun y => absurd h3 y)
    refine lv_iload X.1.1 X.1.2.1 dL_law_2093 (lv_at hl2 1 rfl) ?_
    have hg : W p K.1 e room_1 s m #[.ref b] below meth c H3 locs3 (cells + 1) (slots + 6) Q (F0 m 2110 ls2 []) := lv_goto (tgt := 2884) X.1.1 X.1.2.1 dL_law_2110 (by decide) (kk _ _ _ _ _ _ _ hH3 hS3 h4 (la_lv (la_lv hl2)))
    refine lv_if_ne (tgt := 2110) X.1.1 X.1.2.1 dL_law_2095 (by decide) (fun y => absurd rfl y) (fun _ => ?_)
    refine lv_aload_n X.1.1 X.1.2.1 dL_law_2098 rfl (lv_at hl2 5 rfl) ?_
    refine lv_iconst (v := 0) X.1.1 X.1.2.1 dL_law_2099 (by decide) ?_
    refine va_lald X.1.1 X.1.2.1 X.2.2.2.2.2.2.1 hH3.2.2.1 0 0 rfl rfl (vp_in_nI (n := 0) (N := 1) (by omega) (by omega)) dL_law_2100 ?_
    refine lv_iload X.1.1 X.1.2.1 dL_law_2101 (lv_at hl2 0 rfl) ?_
    refine lv_i2l (v := r.toInt64) X.1.1 X.1.2.1 dL_law_2103 rfl ?_
    refine W.lcmp X.1.1 X.1.2.1 dL_law_2104 ?_
    exact lv_if_eq (tgt := 2110) X.1.1 X.1.2.1 dL_law_2105 (by decide) (fun _ => hg) (fun y => absurd (la_cmp _) y)
  · refine lv_aload_n X.1.1 X.1.2.1 dL_law_2045 rfl (lv_at hl 1 rfl) ?_
    refine la_arg (j := 1) X hS (lv_at hl 0 rfl) (lv_at hl 5 rfl) (by omega) hn.2 (by decide) dL_law_2046 dL_law_2047 dL_law_2049 dL_law_2050 dL_law_2051 ?_
    refine la_arg (j := 2) X hS (lv_at hl 0 rfl) (lv_at hl 5 rfl) (by omega) hn.2 (by decide) dL_law_2052 dL_law_2053 dL_law_2055 dL_law_2056 dL_law_2057 ?_
    refine lv_aload_n X.1.1 X.1.2.1 dL_law_2058 rfl (lv_at hl 3 rfl) ?_
    refine la_callW (M2 := mL_welfareByRobin) (n2 := 4) (As := [.ref (cw_a (cc_w K) 0), .int (xs (n + 1)), .int (xs (n + 2)), .ref qo]) (hh := [(0, 10, 13, 29)]) X hH hS (wr_welfareByRobin_x1 h1) ⟨_, rfl⟩ (by decide +kernel) rfl gT_L_welfareByRobin ⟨Nat.le_of_ble_eq_true rfl, Nat.le_of_ble_eq_true rfl⟩ hc hl.1 rfl (Nat.le_of_ble_eq_true rfl) dL_law_2059 (fun H1 locs1 hH1 hS1 => ?_)
    refine lv_istore (lv' := (6, .int 1) :: [(0, .ref b), (1, .ref (cw_a (cc_w K) 0)), (2, .ref (cw_a (cr_w K) 0)), (3, .ref qo), (4, .ref qd), (5, .int (nI n))]) X.1.1 X.1.2.1 dL_law_2062 hl (by decide) rfl (fun ls1 hl1 => ?_)
    refine lv_aload_n X.1.1 X.1.2.1 dL_law_2064 rfl (lv_at hl1 3 rfl) ?_
    refine la_arg (j := 1) X hS1 (lv_at hl1 1 rfl) (lv_at hl1 6 rfl) (by omega) hn.2 (by decide) dL_law_2065 dL_law_2066 dL_law_2068 dL_law_2069 dL_law_2070 ?_
    refine la_arg (j := 2) X hS1 (lv_at hl1 1 rfl) (lv_at hl1 6 rfl) (by omega) hn.2 (by decide) dL_law_2071 dL_law_2072 dL_law_2074 dL_law_2075 dL_law_2076 ?_
    refine la_callR (As := [.int (xs (n + 1)), .int (xs (n + 2))]) X hH1 hS1 h2 okX11_welfareByRobin rfl rfl gT_X11_welfareByRobin ⟨Nat.le_of_ble_eq_true rfl, Nat.le_of_ble_eq_true rfl⟩ hc hl1.1 rfl (Nat.le_of_ble_eq_true rfl) dL_law_2077 (fun H2 locs2 hH2 hS2 => ?_)
    refine lv_istore (lv' := (7, .int r) :: (6, .int 1) :: [(0, .ref b), (1, .ref (cw_a (cc_w K) 0)), (2, .ref (cw_a (cr_w K) 0)), (3, .ref qo), (4, .ref qd), (5, .int (nI n))]) X.1.1 X.1.2.1 dL_law_2080 hl1 (by decide) rfl (fun ls2 hl2 => ?_)
    refine lv_aload_n X.1.1 X.1.2.1 dL_law_2082 rfl (lv_at hl2 4 rfl) ?_
    refine la_thrown X hH2 hS2 hc hl2.1 (Nat.le_of_ble_eq_true rfl) dL_law_2083 (fun H3 locs3 hH3 hS3 => ?_)
    refine lv_iload X.1.1 X.1.2.1 dL_law_2086 (lv_at hl2 1 rfl) ?_
    refine lv_icmp_eq (tgt := 2093) X.1.1 X.1.2.1 dL_law_2088 (by decide) (fun _ => ?_) (fun y => absurd h3 y)
    refine lv_iload X.1.1 X.1.2.1 dL_law_2093 (lv_at hl2 1 rfl) ?_
    have hg : W p K.1 e room_1 s m #[.ref b] below meth c H3 locs3 (cells + 1) (slots + 6) Q (F0 m 2110 ls2 []) := lv_goto (tgt := 2884) X.1.1 X.1.2.1 dL_law_2110 (by decide) (kk _ _ _ _ _ _ _ hH3 hS3 h4 (la_lv (la_lv hl2)))
    exact lv_if_ne (tgt := 2110) X.1.1 X.1.2.1 dL_law_2095 (by decide) (fun _ => hg) (fun y => absurd y (by decide))
theorem lc_42 (X : la_X K p s m meth c b L xs qo qd cl cd) (F : la_F K) (hc : cells + 1 ≤ 1088 ∧ slots + 6 ≤ 17909) (hn : n + 6 ≤ L ∧ L ≤ 3072) (kk : la_T K p e s m below meth c b qo qd cl cd Q n (cells + 1) (slots + 6) 2884) : la_T K p e s m below meth c b qo qd cl cd Q n cells slots 2113 := by
  intro H locs ls I J f g hH hS hR hl
  obtain ⟨r, I2, J2, h1, h2, h3, h4⟩ := ca_bestFirst (K := K) hR
  refine W.widen (k := cells + 1) (n := slots + 6) (by omega) (by omega) ?_
  refine lv_aload_n X.1.1 X.1.2.1 dL_law_2113 rfl (lv_at hl 1 rfl) ?_
  refine la_callC (As := []) X hH hS h1 okX10_bestFirst rfl rfl gT_X10_bestFirst ⟨Nat.le_of_ble_eq_true rfl, Nat.le_of_ble_eq_true rfl⟩ hc hl.1 rfl (Nat.le_of_ble_eq_true rfl) dL_law_2114 (fun H1 locs1 hH1 hS1 => ?_)
  refine lv_aload_n X.1.1 X.1.2.1 dL_law_2117 rfl (lv_at hl 2 rfl) ?_
  refine la_callR (As := []) X hH1 hS1 h2 okX11_bestFirst rfl rfl gT_X11_bestFirst ⟨Nat.le_of_ble_eq_true rfl, Nat.le_of_ble_eq_true rfl⟩ hc hl.1 rfl (Nat.le_of_ble_eq_true rfl) dL_law_2118 (fun H2 locs2 hH2 hS2 => ?_)
  exact lv_icmp_eq (tgt := 2884) X.1.1 X.1.2.1 dL_law_2121 (by decide) (fun _ => kk _ _ _ _ _ _ _ hH2 hS2 h4 hl) (fun y => absurd rfl y)
theorem lc_43 (X : la_X K p s m meth c b L xs qo qd cl cd) (F : la_F K) (hc : cells + 1 ≤ 1088 ∧ slots + 6 ≤ 17909) (hn : n + 6 ≤ L ∧ L ≤ 3072) (kk : la_T K p e s m below meth c b qo qd cl cd Q n (cells + 1) (slots + 6) 2884) : la_T K p e s m below meth c b qo qd cl cd Q n cells slots 2126 := by
  intro H locs ls I J f g hH hS hR hl
  rcases ca_give (K := K) F.1 F.2.1 hR (x := xs (n + 1)) (y := xs (n + 2)) (z := xs (n + 3)) with ⟨r, I2, J2, h1, h2, h3, h4⟩ | ⟨r, I2, J2, h1, h2, h3, h4⟩ | ⟨r, I2, J2, h1, h2, h3, h4⟩
  · refine lv_aload_n X.1.1 X.1.2.1 dL_law_2126 rfl (lv_at hl 1 rfl) ?_
    refine la_arg (j := 1) X hS (lv_at hl 0 rfl) (lv_at hl 5 rfl) (by omega) hn.2 (by decide) dL_law_2127 dL_law_2128 dL_law_2130 dL_law_2131 dL_law_2132 ?_
    refine la_arg (j := 2) X hS (lv_at hl 0 rfl) (lv_at hl 5 rfl) (by omega) hn.2 (by decide) dL_law_2133 dL_law_2134 dL_law_2136 dL_law_2137 dL_law_2138 ?_
    refine la_arg (j := 3) X hS (lv_at hl 0 rfl) (lv_at hl 5 rfl) (by omega) hn.2 (by decide) dL_law_2139 dL_law_2140 dL_law_2142 dL_law_2143 dL_law_2144 ?_
    refine lv_aload_n X.1.1 X.1.2.1 dL_law_2145 rfl (lv_at hl 3 rfl) ?_
    refine la_callW (M2 := mL_give) (n2 := 5) (As := [.ref (cw_a (cc_w K) 0), .int (xs (n + 1)), .int (xs (n + 2)), .int (xs (n + 3)), .ref qo]) (hh := [(0, 12, 15, 29), (0, 12, 19, 19)]) X hH hS (wr_give_ok h1) ⟨_, rfl⟩ (by decide +kernel) rfl gT_L_give ⟨Nat.le_of_ble_eq_true rfl, Nat.le_of_ble_eq_true rfl⟩ hc hl.1 rfl (Nat.le_of_ble_eq_true rfl) dL_law_2146 (fun H1 locs1 hH1 hS1 => ?_)
    refine lv_istore (lv' := (6, .int 0) :: [(0, .ref b), (1, .ref (cw_a (cc_w K) 0)), (2, .ref (cw_a (cr_w K) 0)), (3, .ref qo), (4, .ref qd), (5, .int (nI n))]) X.1.1 X.1.2.1 dL_law_2149 hl (by decide) rfl (fun ls1 hl1 => ?_)
    refine lv_aload_n X.1.1 X.1.2.1 dL_law_2151 rfl (lv_at hl1 3 rfl) ?_
    refine la_arg (j := 1) X hS1 (lv_at hl1 1 rfl) (lv_at hl1 6 rfl) (by omega) hn.2 (by decide) dL_law_2152 dL_law_2153 dL_law_2155 dL_law_2156 dL_law_2157 ?_
    refine la_arg (j := 2) X hS1 (lv_at hl1 1 rfl) (lv_at hl1 6 rfl) (by omega) hn.2 (by decide) dL_law_2158 dL_law_2159 dL_law_2161 dL_law_2162 dL_law_2163 ?_
    refine la_arg (j := 3) X hS1 (lv_at hl1 1 rfl) (lv_at hl1 6 rfl) (by omega) hn.2 (by decide) dL_law_2164 dL_law_2165 dL_law_2167 dL_law_2168 dL_law_2169 ?_
    refine la_callR (As := [.int (xs (n + 1)), .int (xs (n + 2)), .int (xs (n + 3))]) X hH1 hS1 h2 okX11_give rfl rfl gT_X11_give ⟨Nat.le_of_ble_eq_true rfl, Nat.le_of_ble_eq_true rfl⟩ hc hl1.1 rfl (Nat.le_of_ble_eq_true rfl) dL_law_2170 (fun H2 locs2 hH2 hS2 => ?_)
    refine lv_istore (lv' := (7, .int r) :: (6, .int 0) :: [(0, .ref b), (1, .ref (cw_a (cc_w K) 0)), (2, .ref (cw_a (cr_w K) 0)), (3, .ref qo), (4, .ref qd), (5, .int (nI n))]) X.1.1 X.1.2.1 dL_law_2173 hl1 (by decide) rfl (fun ls2 hl2 => ?_)
    refine lv_aload_n X.1.1 X.1.2.1 dL_law_2175 rfl (lv_at hl2 4 rfl) ?_
    refine la_thrown X hH2 hS2 hc hl2.1 (Nat.le_of_ble_eq_true rfl) dL_law_2176 (fun H3 locs3 hH3 hS3 => ?_)
    refine lv_iload X.1.1 X.1.2.1 dL_law_2179 (lv_at hl2 1 rfl) ?_
    refine lv_icmp_eq (tgt := 2186) X.1.1 X.1.2.1 dL_law_2181 (by decide) (fun _ => ?_) (fun y => absurd h3 y)
    refine lv_iload X.1.1 X.1.2.1 dL_law_2186 (lv_at hl2 1 rfl) ?_
    have hg : W p K.1 e room_1 s m #[.ref b] below meth c H3 locs3 (cells + 1) (slots + 6) Q (F0 m 2203 ls2 []) := lv_goto (tgt := 2884) X.1.1 X.1.2.1 dL_law_2203 (by decide) (kk _ _ _ _ _ _ _ hH3 hS3 h4 (la_lv (la_lv hl2)))
    refine lv_if_ne (tgt := 2203) X.1.1 X.1.2.1 dL_law_2188 (by decide) (fun y => absurd rfl y) (fun _ => ?_)
    refine lv_aload_n X.1.1 X.1.2.1 dL_law_2191 rfl (lv_at hl2 5 rfl) ?_
    refine lv_iconst (v := 0) X.1.1 X.1.2.1 dL_law_2192 (by decide) ?_
    refine va_lald X.1.1 X.1.2.1 X.2.2.2.2.2.2.1 hH3.2.2.1 0 0 rfl rfl (vp_in_nI (n := 0) (N := 1) (by omega) (by omega)) dL_law_2193 ?_
    refine lv_iload X.1.1 X.1.2.1 dL_law_2194 (lv_at hl2 0 rfl) ?_
    refine lv_i2l (v := r.toInt64) X.1.1 X.1.2.1 dL_law_2196 rfl ?_
    refine W.lcmp X.1.1 X.1.2.1 dL_law_2197 ?_
    exact lv_if_eq (tgt := 2203) X.1.1 X.1.2.1 dL_law_2198 (by decide) (fun _ => hg) (fun y => absurd (la_cmp _) y)
  · refine lv_aload_n X.1.1 X.1.2.1 dL_law_2126 rfl (lv_at hl 1 rfl) ?_
    refine la_arg (j := 1) X hS (lv_at hl 0 rfl) (lv_at hl 5 rfl) (by omega) hn.2 (by decide) dL_law_2127 dL_law_2128 dL_law_2130 dL_law_2131 dL_law_2132 ?_
    refine la_arg (j := 2) X hS (lv_at hl 0 rfl) (lv_at hl 5 rfl) (by omega) hn.2 (by decide) dL_law_2133 dL_law_2134 dL_law_2136 dL_law_2137 dL_law_2138 ?_
    refine la_arg (j := 3) X hS (lv_at hl 0 rfl) (lv_at hl 5 rfl) (by omega) hn.2 (by decide) dL_law_2139 dL_law_2140 dL_law_2142 dL_law_2143 dL_law_2144 ?_
    refine lv_aload_n X.1.1 X.1.2.1 dL_law_2145 rfl (lv_at hl 3 rfl) ?_
    refine la_callW (M2 := mL_give) (n2 := 5) (As := [.ref (cw_a (cc_w K) 0), .int (xs (n + 1)), .int (xs (n + 2)), .int (xs (n + 3)), .ref qo]) (hh := [(0, 12, 15, 29), (0, 12, 19, 19)]) X hH hS (wr_give_x1 h1) ⟨_, rfl⟩ (by decide +kernel) rfl gT_L_give ⟨Nat.le_of_ble_eq_true rfl, Nat.le_of_ble_eq_true rfl⟩ hc hl.1 rfl (Nat.le_of_ble_eq_true rfl) dL_law_2146 (fun H1 locs1 hH1 hS1 => ?_)
    refine lv_istore (lv' := (6, .int 1) :: [(0, .ref b), (1, .ref (cw_a (cc_w K) 0)), (2, .ref (cw_a (cr_w K) 0)), (3, .ref qo), (4, .ref qd), (5, .int (nI n))]) X.1.1 X.1.2.1 dL_law_2149 hl (by decide) rfl (fun ls1 hl1 => ?_)
    refine lv_aload_n X.1.1 X.1.2.1 dL_law_2151 rfl (lv_at hl1 3 rfl) ?_
    refine la_arg (j := 1) X hS1 (lv_at hl1 1 rfl) (lv_at hl1 6 rfl) (by omega) hn.2 (by decide) dL_law_2152 dL_law_2153 dL_law_2155 dL_law_2156 dL_law_2157 ?_
    refine la_arg (j := 2) X hS1 (lv_at hl1 1 rfl) (lv_at hl1 6 rfl) (by omega) hn.2 (by decide) dL_law_2158 dL_law_2159 dL_law_2161 dL_law_2162 dL_law_2163 ?_
    refine la_arg (j := 3) X hS1 (lv_at hl1 1 rfl) (lv_at hl1 6 rfl) (by omega) hn.2 (by decide) dL_law_2164 dL_law_2165 dL_law_2167 dL_law_2168 dL_law_2169 ?_
    refine la_callR (As := [.int (xs (n + 1)), .int (xs (n + 2)), .int (xs (n + 3))]) X hH1 hS1 h2 okX11_give rfl rfl gT_X11_give ⟨Nat.le_of_ble_eq_true rfl, Nat.le_of_ble_eq_true rfl⟩ hc hl1.1 rfl (Nat.le_of_ble_eq_true rfl) dL_law_2170 (fun H2 locs2 hH2 hS2 => ?_)
    refine lv_istore (lv' := (7, .int r) :: (6, .int 1) :: [(0, .ref b), (1, .ref (cw_a (cc_w K) 0)), (2, .ref (cw_a (cr_w K) 0)), (3, .ref qo), (4, .ref qd), (5, .int (nI n))]) X.1.1 X.1.2.1 dL_law_2173 hl1 (by decide) rfl (fun ls2 hl2 => ?_)
    refine lv_aload_n X.1.1 X.1.2.1 dL_law_2175 rfl (lv_at hl2 4 rfl) ?_
    refine la_thrown X hH2 hS2 hc hl2.1 (Nat.le_of_ble_eq_true rfl) dL_law_2176 (fun H3 locs3 hH3 hS3 => ?_)
    refine lv_iload X.1.1 X.1.2.1 dL_law_2179 (lv_at hl2 1 rfl) ?_
    refine lv_icmp_eq (tgt := 2186) X.1.1 X.1.2.1 dL_law_2181 (by decide) (fun _ => ?_) (fun y => absurd h3 y)
    refine lv_iload X.1.1 X.1.2.1 dL_law_2186 (lv_at hl2 1 rfl) ?_
    have hg : W p K.1 e room_1 s m #[.ref b] below meth c H3 locs3 (cells + 1) (slots + 6) Q (F0 m 2203 ls2 []) := lv_goto (tgt := 2884) X.1.1 X.1.2.1 dL_law_2203 (by decide) (kk _ _ _ _ _ _ _ hH3 hS3 h4 (la_lv (la_lv hl2)))
    exact lv_if_ne (tgt := 2203) X.1.1 X.1.2.1 dL_law_2188 (by decide) (fun _ => hg) (fun y => absurd y (by decide))
  · refine lv_aload_n X.1.1 X.1.2.1 dL_law_2126 rfl (lv_at hl 1 rfl) ?_
    refine la_arg (j := 1) X hS (lv_at hl 0 rfl) (lv_at hl 5 rfl) (by omega) hn.2 (by decide) dL_law_2127 dL_law_2128 dL_law_2130 dL_law_2131 dL_law_2132 ?_
    refine la_arg (j := 2) X hS (lv_at hl 0 rfl) (lv_at hl 5 rfl) (by omega) hn.2 (by decide) dL_law_2133 dL_law_2134 dL_law_2136 dL_law_2137 dL_law_2138 ?_
    refine la_arg (j := 3) X hS (lv_at hl 0 rfl) (lv_at hl 5 rfl) (by omega) hn.2 (by decide) dL_law_2139 dL_law_2140 dL_law_2142 dL_law_2143 dL_law_2144 ?_
    refine lv_aload_n X.1.1 X.1.2.1 dL_law_2145 rfl (lv_at hl 3 rfl) ?_
    refine la_callW (M2 := mL_give) (n2 := 5) (As := [.ref (cw_a (cc_w K) 0), .int (xs (n + 1)), .int (xs (n + 2)), .int (xs (n + 3)), .ref qo]) (hh := [(0, 12, 15, 29), (0, 12, 19, 19)]) X hH hS (wr_give_x2 h1) ⟨_, rfl⟩ (by decide +kernel) rfl gT_L_give ⟨Nat.le_of_ble_eq_true rfl, Nat.le_of_ble_eq_true rfl⟩ hc hl.1 rfl (Nat.le_of_ble_eq_true rfl) dL_law_2146 (fun H1 locs1 hH1 hS1 => ?_)
    refine lv_istore (lv' := (6, .int 2) :: [(0, .ref b), (1, .ref (cw_a (cc_w K) 0)), (2, .ref (cw_a (cr_w K) 0)), (3, .ref qo), (4, .ref qd), (5, .int (nI n))]) X.1.1 X.1.2.1 dL_law_2149 hl (by decide) rfl (fun ls1 hl1 => ?_)
    refine lv_aload_n X.1.1 X.1.2.1 dL_law_2151 rfl (lv_at hl1 3 rfl) ?_
    refine la_arg (j := 1) X hS1 (lv_at hl1 1 rfl) (lv_at hl1 6 rfl) (by omega) hn.2 (by decide) dL_law_2152 dL_law_2153 dL_law_2155 dL_law_2156 dL_law_2157 ?_
    refine la_arg (j := 2) X hS1 (lv_at hl1 1 rfl) (lv_at hl1 6 rfl) (by omega) hn.2 (by decide) dL_law_2158 dL_law_2159 dL_law_2161 dL_law_2162 dL_law_2163 ?_
    refine la_arg (j := 3) X hS1 (lv_at hl1 1 rfl) (lv_at hl1 6 rfl) (by omega) hn.2 (by decide) dL_law_2164 dL_law_2165 dL_law_2167 dL_law_2168 dL_law_2169 ?_
    refine la_callR (As := [.int (xs (n + 1)), .int (xs (n + 2)), .int (xs (n + 3))]) X hH1 hS1 h2 okX11_give rfl rfl gT_X11_give ⟨Nat.le_of_ble_eq_true rfl, Nat.le_of_ble_eq_true rfl⟩ hc hl1.1 rfl (Nat.le_of_ble_eq_true rfl) dL_law_2170 (fun H2 locs2 hH2 hS2 => ?_)
    refine lv_istore (lv' := (7, .int r) :: (6, .int 2) :: [(0, .ref b), (1, .ref (cw_a (cc_w K) 0)), (2, .ref (cw_a (cr_w K) 0)), (3, .ref qo), (4, .ref qd), (5, .int (nI n))]) X.1.1 X.1.2.1 dL_law_2173 hl1 (by decide) rfl (fun ls2 hl2 => ?_)
    refine lv_aload_n X.1.1 X.1.2.1 dL_law_2175 rfl (lv_at hl2 4 rfl) ?_
    refine la_thrown X hH2 hS2 hc hl2.1 (Nat.le_of_ble_eq_true rfl) dL_law_2176 (fun H3 locs3 hH3 hS3 => ?_)
    refine lv_iload X.1.1 X.1.2.1 dL_law_2179 (lv_at hl2 1 rfl) ?_
    refine lv_icmp_eq (tgt := 2186) X.1.1 X.1.2.1 dL_law_2181 (by decide) (fun _ => ?_) (fun y => absurd h3 y)
    refine lv_iload X.1.1 X.1.2.1 dL_law_2186 (lv_at hl2 1 rfl) ?_
    have hg : W p K.1 e room_1 s m #[.ref b] below meth c H3 locs3 (cells + 1) (slots + 6) Q (F0 m 2203 ls2 []) := lv_goto (tgt := 2884) X.1.1 X.1.2.1 dL_law_2203 (by decide) (kk _ _ _ _ _ _ _ hH3 hS3 h4 (la_lv (la_lv hl2)))
    exact lv_if_ne (tgt := 2203) X.1.1 X.1.2.1 dL_law_2188 (by decide) (fun _ => hg) (fun y => absurd y (by decide))
theorem lc_44 (X : la_X K p s m meth c b L xs qo qd cl cd) (F : la_F K) (hc : cells + 1 ≤ 1088 ∧ slots + 6 ≤ 17909) (hn : n + 6 ≤ L ∧ L ≤ 3072) (kk : la_T K p e s m below meth c b qo qd cl cd Q n (cells + 1) (slots + 6) 2884) : la_T K p e s m below meth c b qo qd cl cd Q n cells slots 2206 := by
  intro H locs ls I J f g hH hS hR hl
  rcases ca_release (K := K) F.1 F.2.1 hR (y := xs (n + 1)) (z := xs (n + 2)) with ⟨r, I2, J2, h1, h2, h3, h4⟩ | ⟨r, I2, J2, h1, h2, h3, h4⟩
  · refine lv_aload_n X.1.1 X.1.2.1 dL_law_2206 rfl (lv_at hl 1 rfl) ?_
    refine la_arg (j := 1) X hS (lv_at hl 0 rfl) (lv_at hl 5 rfl) (by omega) hn.2 (by decide) dL_law_2207 dL_law_2208 dL_law_2210 dL_law_2211 dL_law_2212 ?_
    refine la_arg (j := 2) X hS (lv_at hl 0 rfl) (lv_at hl 5 rfl) (by omega) hn.2 (by decide) dL_law_2213 dL_law_2214 dL_law_2216 dL_law_2217 dL_law_2218 ?_
    refine lv_aload_n X.1.1 X.1.2.1 dL_law_2219 rfl (lv_at hl 3 rfl) ?_
    refine la_callW (M2 := mL_release) (n2 := 4) (As := [.ref (cw_a (cc_w K) 0), .int (xs (n + 1)), .int (xs (n + 2)), .ref qo]) (hh := [(0, 10, 13, 19)]) X hH hS (wr_release_ok h1) ⟨_, rfl⟩ (by decide +kernel) rfl gT_L_release ⟨Nat.le_of_ble_eq_true rfl, Nat.le_of_ble_eq_true rfl⟩ hc hl.1 rfl (Nat.le_of_ble_eq_true rfl) dL_law_2220 (fun H1 locs1 hH1 hS1 => ?_)
    refine lv_istore (lv' := (6, .int 0) :: [(0, .ref b), (1, .ref (cw_a (cc_w K) 0)), (2, .ref (cw_a (cr_w K) 0)), (3, .ref qo), (4, .ref qd), (5, .int (nI n))]) X.1.1 X.1.2.1 dL_law_2223 hl (by decide) rfl (fun ls1 hl1 => ?_)
    refine lv_aload_n X.1.1 X.1.2.1 dL_law_2225 rfl (lv_at hl1 3 rfl) ?_
    refine la_arg (j := 1) X hS1 (lv_at hl1 1 rfl) (lv_at hl1 6 rfl) (by omega) hn.2 (by decide) dL_law_2226 dL_law_2227 dL_law_2229 dL_law_2230 dL_law_2231 ?_
    refine la_arg (j := 2) X hS1 (lv_at hl1 1 rfl) (lv_at hl1 6 rfl) (by omega) hn.2 (by decide) dL_law_2232 dL_law_2233 dL_law_2235 dL_law_2236 dL_law_2237 ?_
    refine la_callR (As := [.int (xs (n + 1)), .int (xs (n + 2))]) X hH1 hS1 h2 okX11_release rfl rfl gT_X11_release ⟨Nat.le_of_ble_eq_true rfl, Nat.le_of_ble_eq_true rfl⟩ hc hl1.1 rfl (Nat.le_of_ble_eq_true rfl) dL_law_2238 (fun H2 locs2 hH2 hS2 => ?_)
    refine lv_istore (lv' := (7, .int r) :: (6, .int 0) :: [(0, .ref b), (1, .ref (cw_a (cc_w K) 0)), (2, .ref (cw_a (cr_w K) 0)), (3, .ref qo), (4, .ref qd), (5, .int (nI n))]) X.1.1 X.1.2.1 dL_law_2241 hl1 (by decide) rfl (fun ls2 hl2 => ?_)
    refine lv_aload_n X.1.1 X.1.2.1 dL_law_2243 rfl (lv_at hl2 4 rfl) ?_
    refine la_thrown X hH2 hS2 hc hl2.1 (Nat.le_of_ble_eq_true rfl) dL_law_2244 (fun H3 locs3 hH3 hS3 => ?_)
    refine lv_iload X.1.1 X.1.2.1 dL_law_2247 (lv_at hl2 1 rfl) ?_
    refine lv_icmp_eq (tgt := 2254) X.1.1 X.1.2.1 dL_law_2249 (by decide) (fun _ => ?_) (fun y => absurd h3 y)
    refine lv_iload X.1.1 X.1.2.1 dL_law_2254 (lv_at hl2 1 rfl) ?_
    have hg : W p K.1 e room_1 s m #[.ref b] below meth c H3 locs3 (cells + 1) (slots + 6) Q (F0 m 2271 ls2 []) := lv_goto (tgt := 2884) X.1.1 X.1.2.1 dL_law_2271 (by decide) (kk _ _ _ _ _ _ _ hH3 hS3 h4 (la_lv (la_lv hl2)))
    refine lv_if_ne (tgt := 2271) X.1.1 X.1.2.1 dL_law_2256 (by decide) (fun y => absurd rfl y) (fun _ => ?_)
    refine lv_aload_n X.1.1 X.1.2.1 dL_law_2259 rfl (lv_at hl2 5 rfl) ?_
    refine lv_iconst (v := 0) X.1.1 X.1.2.1 dL_law_2260 (by decide) ?_
    refine va_lald X.1.1 X.1.2.1 X.2.2.2.2.2.2.1 hH3.2.2.1 0 0 rfl rfl (vp_in_nI (n := 0) (N := 1) (by omega) (by omega)) dL_law_2261 ?_
    refine lv_iload X.1.1 X.1.2.1 dL_law_2262 (lv_at hl2 0 rfl) ?_
    refine lv_i2l (v := r.toInt64) X.1.1 X.1.2.1 dL_law_2264 rfl ?_
    refine W.lcmp X.1.1 X.1.2.1 dL_law_2265 ?_
    exact lv_if_eq (tgt := 2271) X.1.1 X.1.2.1 dL_law_2266 (by decide) (fun _ => hg) (fun y => absurd (la_cmp _) y)
  · refine lv_aload_n X.1.1 X.1.2.1 dL_law_2206 rfl (lv_at hl 1 rfl) ?_
    refine la_arg (j := 1) X hS (lv_at hl 0 rfl) (lv_at hl 5 rfl) (by omega) hn.2 (by decide) dL_law_2207 dL_law_2208 dL_law_2210 dL_law_2211 dL_law_2212 ?_
    refine la_arg (j := 2) X hS (lv_at hl 0 rfl) (lv_at hl 5 rfl) (by omega) hn.2 (by decide) dL_law_2213 dL_law_2214 dL_law_2216 dL_law_2217 dL_law_2218 ?_
    refine lv_aload_n X.1.1 X.1.2.1 dL_law_2219 rfl (lv_at hl 3 rfl) ?_
    refine la_callW (M2 := mL_release) (n2 := 4) (As := [.ref (cw_a (cc_w K) 0), .int (xs (n + 1)), .int (xs (n + 2)), .ref qo]) (hh := [(0, 10, 13, 19)]) X hH hS (wr_release_x1 h1) ⟨_, rfl⟩ (by decide +kernel) rfl gT_L_release ⟨Nat.le_of_ble_eq_true rfl, Nat.le_of_ble_eq_true rfl⟩ hc hl.1 rfl (Nat.le_of_ble_eq_true rfl) dL_law_2220 (fun H1 locs1 hH1 hS1 => ?_)
    refine lv_istore (lv' := (6, .int 1) :: [(0, .ref b), (1, .ref (cw_a (cc_w K) 0)), (2, .ref (cw_a (cr_w K) 0)), (3, .ref qo), (4, .ref qd), (5, .int (nI n))]) X.1.1 X.1.2.1 dL_law_2223 hl (by decide) rfl (fun ls1 hl1 => ?_)
    refine lv_aload_n X.1.1 X.1.2.1 dL_law_2225 rfl (lv_at hl1 3 rfl) ?_
    refine la_arg (j := 1) X hS1 (lv_at hl1 1 rfl) (lv_at hl1 6 rfl) (by omega) hn.2 (by decide) dL_law_2226 dL_law_2227 dL_law_2229 dL_law_2230 dL_law_2231 ?_
    refine la_arg (j := 2) X hS1 (lv_at hl1 1 rfl) (lv_at hl1 6 rfl) (by omega) hn.2 (by decide) dL_law_2232 dL_law_2233 dL_law_2235 dL_law_2236 dL_law_2237 ?_
    refine la_callR (As := [.int (xs (n + 1)), .int (xs (n + 2))]) X hH1 hS1 h2 okX11_release rfl rfl gT_X11_release ⟨Nat.le_of_ble_eq_true rfl, Nat.le_of_ble_eq_true rfl⟩ hc hl1.1 rfl (Nat.le_of_ble_eq_true rfl) dL_law_2238 (fun H2 locs2 hH2 hS2 => ?_)
    refine lv_istore (lv' := (7, .int r) :: (6, .int 1) :: [(0, .ref b), (1, .ref (cw_a (cc_w K) 0)), (2, .ref (cw_a (cr_w K) 0)), (3, .ref qo), (4, .ref qd), (5, .int (nI n))]) X.1.1 X.1.2.1 dL_law_2241 hl1 (by decide) rfl (fun ls2 hl2 => ?_)
    refine lv_aload_n X.1.1 X.1.2.1 dL_law_2243 rfl (lv_at hl2 4 rfl) ?_
    refine la_thrown X hH2 hS2 hc hl2.1 (Nat.le_of_ble_eq_true rfl) dL_law_2244 (fun H3 locs3 hH3 hS3 => ?_)
    refine lv_iload X.1.1 X.1.2.1 dL_law_2247 (lv_at hl2 1 rfl) ?_
    refine lv_icmp_eq (tgt := 2254) X.1.1 X.1.2.1 dL_law_2249 (by decide) (fun _ => ?_) (fun y => absurd h3 y)
    refine lv_iload X.1.1 X.1.2.1 dL_law_2254 (lv_at hl2 1 rfl) ?_
    have hg : W p K.1 e room_1 s m #[.ref b] below meth c H3 locs3 (cells + 1) (slots + 6) Q (F0 m 2271 ls2 []) := lv_goto (tgt := 2884) X.1.1 X.1.2.1 dL_law_2271 (by decide) (kk _ _ _ _ _ _ _ hH3 hS3 h4 (la_lv (la_lv hl2)))
    exact lv_if_ne (tgt := 2271) X.1.1 X.1.2.1 dL_law_2256 (by decide) (fun _ => hg) (fun y => absurd y (by decide))
theorem lc_45 (X : la_X K p s m meth c b L xs qo qd cl cd) (F : la_F K) (hc : cells + 1 ≤ 1088 ∧ slots + 6 ≤ 17909) (hn : n + 6 ≤ L ∧ L ≤ 3072) (kk : la_T K p e s m below meth c b qo qd cl cd Q n (cells + 1) (slots + 6) 2884) : la_T K p e s m below meth c b qo qd cl cd Q n cells slots 2274 := by
  intro H locs ls I J f g hH hS hR hl
  rcases ca_swapShares (K := K) F.1 F.2.1 hR (x := xs (n + 1)) (y := xs (n + 2)) with ⟨r, I2, J2, h1, h2, h3, h4⟩ | ⟨r, I2, J2, h1, h2, h3, h4⟩ | ⟨r, I2, J2, h1, h2, h3, h4⟩
  · refine lv_aload_n X.1.1 X.1.2.1 dL_law_2274 rfl (lv_at hl 1 rfl) ?_
    refine la_arg (j := 1) X hS (lv_at hl 0 rfl) (lv_at hl 5 rfl) (by omega) hn.2 (by decide) dL_law_2275 dL_law_2276 dL_law_2278 dL_law_2279 dL_law_2280 ?_
    refine la_arg (j := 2) X hS (lv_at hl 0 rfl) (lv_at hl 5 rfl) (by omega) hn.2 (by decide) dL_law_2281 dL_law_2282 dL_law_2284 dL_law_2285 dL_law_2286 ?_
    refine lv_aload_n X.1.1 X.1.2.1 dL_law_2287 rfl (lv_at hl 3 rfl) ?_
    refine la_callW (M2 := mL_swapShares) (n2 := 4) (As := [.ref (cw_a (cc_w K) 0), .int (xs (n + 1)), .int (xs (n + 2)), .ref qo]) (hh := [(0, 10, 13, 29), (0, 10, 17, 13)]) X hH hS (wr_swapShares_ok h1) ⟨_, rfl⟩ (by decide +kernel) rfl gT_L_swapShares ⟨Nat.le_of_ble_eq_true rfl, Nat.le_of_ble_eq_true rfl⟩ hc hl.1 rfl (Nat.le_of_ble_eq_true rfl) dL_law_2288 (fun H1 locs1 hH1 hS1 => ?_)
    refine lv_istore (lv' := (6, .int 0) :: [(0, .ref b), (1, .ref (cw_a (cc_w K) 0)), (2, .ref (cw_a (cr_w K) 0)), (3, .ref qo), (4, .ref qd), (5, .int (nI n))]) X.1.1 X.1.2.1 dL_law_2291 hl (by decide) rfl (fun ls1 hl1 => ?_)
    refine lv_aload_n X.1.1 X.1.2.1 dL_law_2293 rfl (lv_at hl1 3 rfl) ?_
    refine la_arg (j := 1) X hS1 (lv_at hl1 1 rfl) (lv_at hl1 6 rfl) (by omega) hn.2 (by decide) dL_law_2294 dL_law_2295 dL_law_2297 dL_law_2298 dL_law_2299 ?_
    refine la_arg (j := 2) X hS1 (lv_at hl1 1 rfl) (lv_at hl1 6 rfl) (by omega) hn.2 (by decide) dL_law_2300 dL_law_2301 dL_law_2303 dL_law_2304 dL_law_2305 ?_
    refine la_callR (As := [.int (xs (n + 1)), .int (xs (n + 2))]) X hH1 hS1 h2 okX11_swapShares rfl rfl gT_X11_swapShares ⟨Nat.le_of_ble_eq_true rfl, Nat.le_of_ble_eq_true rfl⟩ hc hl1.1 rfl (Nat.le_of_ble_eq_true rfl) dL_law_2306 (fun H2 locs2 hH2 hS2 => ?_)
    refine lv_istore (lv' := (7, .int r) :: (6, .int 0) :: [(0, .ref b), (1, .ref (cw_a (cc_w K) 0)), (2, .ref (cw_a (cr_w K) 0)), (3, .ref qo), (4, .ref qd), (5, .int (nI n))]) X.1.1 X.1.2.1 dL_law_2309 hl1 (by decide) rfl (fun ls2 hl2 => ?_)
    refine lv_aload_n X.1.1 X.1.2.1 dL_law_2311 rfl (lv_at hl2 4 rfl) ?_
    refine la_thrown X hH2 hS2 hc hl2.1 (Nat.le_of_ble_eq_true rfl) dL_law_2312 (fun H3 locs3 hH3 hS3 => ?_)
    refine lv_iload X.1.1 X.1.2.1 dL_law_2315 (lv_at hl2 1 rfl) ?_
    refine lv_icmp_eq (tgt := 2322) X.1.1 X.1.2.1 dL_law_2317 (by decide) (fun _ => ?_) (fun y => absurd h3 y)
    refine lv_iload X.1.1 X.1.2.1 dL_law_2322 (lv_at hl2 1 rfl) ?_
    have hg : W p K.1 e room_1 s m #[.ref b] below meth c H3 locs3 (cells + 1) (slots + 6) Q (F0 m 2339 ls2 []) := lv_goto (tgt := 2884) X.1.1 X.1.2.1 dL_law_2339 (by decide) (kk _ _ _ _ _ _ _ hH3 hS3 h4 (la_lv (la_lv hl2)))
    refine lv_if_ne (tgt := 2339) X.1.1 X.1.2.1 dL_law_2324 (by decide) (fun y => absurd rfl y) (fun _ => ?_)
    refine lv_aload_n X.1.1 X.1.2.1 dL_law_2327 rfl (lv_at hl2 5 rfl) ?_
    refine lv_iconst (v := 0) X.1.1 X.1.2.1 dL_law_2328 (by decide) ?_
    refine va_lald X.1.1 X.1.2.1 X.2.2.2.2.2.2.1 hH3.2.2.1 0 0 rfl rfl (vp_in_nI (n := 0) (N := 1) (by omega) (by omega)) dL_law_2329 ?_
    refine lv_iload X.1.1 X.1.2.1 dL_law_2330 (lv_at hl2 0 rfl) ?_
    refine lv_i2l (v := r.toInt64) X.1.1 X.1.2.1 dL_law_2332 rfl ?_
    refine W.lcmp X.1.1 X.1.2.1 dL_law_2333 ?_
    exact lv_if_eq (tgt := 2339) X.1.1 X.1.2.1 dL_law_2334 (by decide) (fun _ => hg) (fun y => absurd (la_cmp _) y)
  · refine lv_aload_n X.1.1 X.1.2.1 dL_law_2274 rfl (lv_at hl 1 rfl) ?_
    refine la_arg (j := 1) X hS (lv_at hl 0 rfl) (lv_at hl 5 rfl) (by omega) hn.2 (by decide) dL_law_2275 dL_law_2276 dL_law_2278 dL_law_2279 dL_law_2280 ?_
    refine la_arg (j := 2) X hS (lv_at hl 0 rfl) (lv_at hl 5 rfl) (by omega) hn.2 (by decide) dL_law_2281 dL_law_2282 dL_law_2284 dL_law_2285 dL_law_2286 ?_
    refine lv_aload_n X.1.1 X.1.2.1 dL_law_2287 rfl (lv_at hl 3 rfl) ?_
    refine la_callW (M2 := mL_swapShares) (n2 := 4) (As := [.ref (cw_a (cc_w K) 0), .int (xs (n + 1)), .int (xs (n + 2)), .ref qo]) (hh := [(0, 10, 13, 29), (0, 10, 17, 13)]) X hH hS (wr_swapShares_x1 h1) ⟨_, rfl⟩ (by decide +kernel) rfl gT_L_swapShares ⟨Nat.le_of_ble_eq_true rfl, Nat.le_of_ble_eq_true rfl⟩ hc hl.1 rfl (Nat.le_of_ble_eq_true rfl) dL_law_2288 (fun H1 locs1 hH1 hS1 => ?_)
    refine lv_istore (lv' := (6, .int 1) :: [(0, .ref b), (1, .ref (cw_a (cc_w K) 0)), (2, .ref (cw_a (cr_w K) 0)), (3, .ref qo), (4, .ref qd), (5, .int (nI n))]) X.1.1 X.1.2.1 dL_law_2291 hl (by decide) rfl (fun ls1 hl1 => ?_)
    refine lv_aload_n X.1.1 X.1.2.1 dL_law_2293 rfl (lv_at hl1 3 rfl) ?_
    refine la_arg (j := 1) X hS1 (lv_at hl1 1 rfl) (lv_at hl1 6 rfl) (by omega) hn.2 (by decide) dL_law_2294 dL_law_2295 dL_law_2297 dL_law_2298 dL_law_2299 ?_
    refine la_arg (j := 2) X hS1 (lv_at hl1 1 rfl) (lv_at hl1 6 rfl) (by omega) hn.2 (by decide) dL_law_2300 dL_law_2301 dL_law_2303 dL_law_2304 dL_law_2305 ?_
    refine la_callR (As := [.int (xs (n + 1)), .int (xs (n + 2))]) X hH1 hS1 h2 okX11_swapShares rfl rfl gT_X11_swapShares ⟨Nat.le_of_ble_eq_true rfl, Nat.le_of_ble_eq_true rfl⟩ hc hl1.1 rfl (Nat.le_of_ble_eq_true rfl) dL_law_2306 (fun H2 locs2 hH2 hS2 => ?_)
    refine lv_istore (lv' := (7, .int r) :: (6, .int 1) :: [(0, .ref b), (1, .ref (cw_a (cc_w K) 0)), (2, .ref (cw_a (cr_w K) 0)), (3, .ref qo), (4, .ref qd), (5, .int (nI n))]) X.1.1 X.1.2.1 dL_law_2309 hl1 (by decide) rfl (fun ls2 hl2 => ?_)
    refine lv_aload_n X.1.1 X.1.2.1 dL_law_2311 rfl (lv_at hl2 4 rfl) ?_
    refine la_thrown X hH2 hS2 hc hl2.1 (Nat.le_of_ble_eq_true rfl) dL_law_2312 (fun H3 locs3 hH3 hS3 => ?_)
    refine lv_iload X.1.1 X.1.2.1 dL_law_2315 (lv_at hl2 1 rfl) ?_
    refine lv_icmp_eq (tgt := 2322) X.1.1 X.1.2.1 dL_law_2317 (by decide) (fun _ => ?_) (fun y => absurd h3 y)
    refine lv_iload X.1.1 X.1.2.1 dL_law_2322 (lv_at hl2 1 rfl) ?_
    have hg : W p K.1 e room_1 s m #[.ref b] below meth c H3 locs3 (cells + 1) (slots + 6) Q (F0 m 2339 ls2 []) := lv_goto (tgt := 2884) X.1.1 X.1.2.1 dL_law_2339 (by decide) (kk _ _ _ _ _ _ _ hH3 hS3 h4 (la_lv (la_lv hl2)))
    exact lv_if_ne (tgt := 2339) X.1.1 X.1.2.1 dL_law_2324 (by decide) (fun _ => hg) (fun y => absurd y (by decide))
  · refine lv_aload_n X.1.1 X.1.2.1 dL_law_2274 rfl (lv_at hl 1 rfl) ?_
    refine la_arg (j := 1) X hS (lv_at hl 0 rfl) (lv_at hl 5 rfl) (by omega) hn.2 (by decide) dL_law_2275 dL_law_2276 dL_law_2278 dL_law_2279 dL_law_2280 ?_
    refine la_arg (j := 2) X hS (lv_at hl 0 rfl) (lv_at hl 5 rfl) (by omega) hn.2 (by decide) dL_law_2281 dL_law_2282 dL_law_2284 dL_law_2285 dL_law_2286 ?_
    refine lv_aload_n X.1.1 X.1.2.1 dL_law_2287 rfl (lv_at hl 3 rfl) ?_
    refine la_callW (M2 := mL_swapShares) (n2 := 4) (As := [.ref (cw_a (cc_w K) 0), .int (xs (n + 1)), .int (xs (n + 2)), .ref qo]) (hh := [(0, 10, 13, 29), (0, 10, 17, 13)]) X hH hS (wr_swapShares_x2 h1) ⟨_, rfl⟩ (by decide +kernel) rfl gT_L_swapShares ⟨Nat.le_of_ble_eq_true rfl, Nat.le_of_ble_eq_true rfl⟩ hc hl.1 rfl (Nat.le_of_ble_eq_true rfl) dL_law_2288 (fun H1 locs1 hH1 hS1 => ?_)
    refine lv_istore (lv' := (6, .int 2) :: [(0, .ref b), (1, .ref (cw_a (cc_w K) 0)), (2, .ref (cw_a (cr_w K) 0)), (3, .ref qo), (4, .ref qd), (5, .int (nI n))]) X.1.1 X.1.2.1 dL_law_2291 hl (by decide) rfl (fun ls1 hl1 => ?_)
    refine lv_aload_n X.1.1 X.1.2.1 dL_law_2293 rfl (lv_at hl1 3 rfl) ?_
    refine la_arg (j := 1) X hS1 (lv_at hl1 1 rfl) (lv_at hl1 6 rfl) (by omega) hn.2 (by decide) dL_law_2294 dL_law_2295 dL_law_2297 dL_law_2298 dL_law_2299 ?_
    refine la_arg (j := 2) X hS1 (lv_at hl1 1 rfl) (lv_at hl1 6 rfl) (by omega) hn.2 (by decide) dL_law_2300 dL_law_2301 dL_law_2303 dL_law_2304 dL_law_2305 ?_
    refine la_callR (As := [.int (xs (n + 1)), .int (xs (n + 2))]) X hH1 hS1 h2 okX11_swapShares rfl rfl gT_X11_swapShares ⟨Nat.le_of_ble_eq_true rfl, Nat.le_of_ble_eq_true rfl⟩ hc hl1.1 rfl (Nat.le_of_ble_eq_true rfl) dL_law_2306 (fun H2 locs2 hH2 hS2 => ?_)
    refine lv_istore (lv' := (7, .int r) :: (6, .int 2) :: [(0, .ref b), (1, .ref (cw_a (cc_w K) 0)), (2, .ref (cw_a (cr_w K) 0)), (3, .ref qo), (4, .ref qd), (5, .int (nI n))]) X.1.1 X.1.2.1 dL_law_2309 hl1 (by decide) rfl (fun ls2 hl2 => ?_)
    refine lv_aload_n X.1.1 X.1.2.1 dL_law_2311 rfl (lv_at hl2 4 rfl) ?_
    refine la_thrown X hH2 hS2 hc hl2.1 (Nat.le_of_ble_eq_true rfl) dL_law_2312 (fun H3 locs3 hH3 hS3 => ?_)
    refine lv_iload X.1.1 X.1.2.1 dL_law_2315 (lv_at hl2 1 rfl) ?_
    refine lv_icmp_eq (tgt := 2322) X.1.1 X.1.2.1 dL_law_2317 (by decide) (fun _ => ?_) (fun y => absurd h3 y)
    refine lv_iload X.1.1 X.1.2.1 dL_law_2322 (lv_at hl2 1 rfl) ?_
    have hg : W p K.1 e room_1 s m #[.ref b] below meth c H3 locs3 (cells + 1) (slots + 6) Q (F0 m 2339 ls2 []) := lv_goto (tgt := 2884) X.1.1 X.1.2.1 dL_law_2339 (by decide) (kk _ _ _ _ _ _ _ hH3 hS3 h4 (la_lv (la_lv hl2)))
    exact lv_if_ne (tgt := 2339) X.1.1 X.1.2.1 dL_law_2324 (by decide) (fun _ => hg) (fun y => absurd y (by decide))
theorem lc_46 (X : la_X K p s m meth c b L xs qo qd cl cd) (F : la_F K) (hc : cells + 1 ≤ 1088 ∧ slots + 6 ≤ 17909) (hn : n + 6 ≤ L ∧ L ≤ 3072) (kk : la_T K p e s m below meth c b qo qd cl cd Q n (cells + 1) (slots + 6) 2884) : la_T K p e s m below meth c b qo qd cl cd Q n cells slots 2342 := by
  intro H locs ls I J f g hH hS hR hl
  rcases ca_setValue (K := K) F.1 F.2.1 hR (x := xs (n + 1)) (y := xs (n + 2)) (z := xs (n + 3)) with ⟨r, I2, J2, h1, h2, h3, h4⟩ | ⟨r, I2, J2, h1, h2, h3, h4⟩ | ⟨r, I2, J2, h1, h2, h3, h4⟩
  · refine lv_aload_n X.1.1 X.1.2.1 dL_law_2342 rfl (lv_at hl 1 rfl) ?_
    refine la_arg (j := 1) X hS (lv_at hl 0 rfl) (lv_at hl 5 rfl) (by omega) hn.2 (by decide) dL_law_2343 dL_law_2344 dL_law_2346 dL_law_2347 dL_law_2348 ?_
    refine la_arg (j := 2) X hS (lv_at hl 0 rfl) (lv_at hl 5 rfl) (by omega) hn.2 (by decide) dL_law_2349 dL_law_2350 dL_law_2352 dL_law_2353 dL_law_2354 ?_
    refine la_arg (j := 3) X hS (lv_at hl 0 rfl) (lv_at hl 5 rfl) (by omega) hn.2 (by decide) dL_law_2355 dL_law_2356 dL_law_2358 dL_law_2359 dL_law_2360 ?_
    refine lv_aload_n X.1.1 X.1.2.1 dL_law_2361 rfl (lv_at hl 3 rfl) ?_
    refine la_callW (M2 := mL_setValue) (n2 := 5) (As := [.ref (cw_a (cc_w K) 0), .int (xs (n + 1)), .int (xs (n + 2)), .int (xs (n + 3)), .ref qo]) (hh := [(0, 12, 15, 29), (0, 12, 19, 19)]) X hH hS (wr_setValue_ok h1) ⟨_, rfl⟩ (by decide +kernel) rfl gT_L_setValue ⟨Nat.le_of_ble_eq_true rfl, Nat.le_of_ble_eq_true rfl⟩ hc hl.1 rfl (Nat.le_of_ble_eq_true rfl) dL_law_2362 (fun H1 locs1 hH1 hS1 => ?_)
    refine lv_istore (lv' := (6, .int 0) :: [(0, .ref b), (1, .ref (cw_a (cc_w K) 0)), (2, .ref (cw_a (cr_w K) 0)), (3, .ref qo), (4, .ref qd), (5, .int (nI n))]) X.1.1 X.1.2.1 dL_law_2365 hl (by decide) rfl (fun ls1 hl1 => ?_)
    refine lv_aload_n X.1.1 X.1.2.1 dL_law_2367 rfl (lv_at hl1 3 rfl) ?_
    refine la_arg (j := 1) X hS1 (lv_at hl1 1 rfl) (lv_at hl1 6 rfl) (by omega) hn.2 (by decide) dL_law_2368 dL_law_2369 dL_law_2371 dL_law_2372 dL_law_2373 ?_
    refine la_arg (j := 2) X hS1 (lv_at hl1 1 rfl) (lv_at hl1 6 rfl) (by omega) hn.2 (by decide) dL_law_2374 dL_law_2375 dL_law_2377 dL_law_2378 dL_law_2379 ?_
    refine la_arg (j := 3) X hS1 (lv_at hl1 1 rfl) (lv_at hl1 6 rfl) (by omega) hn.2 (by decide) dL_law_2380 dL_law_2381 dL_law_2383 dL_law_2384 dL_law_2385 ?_
    refine la_callR (As := [.int (xs (n + 1)), .int (xs (n + 2)), .int (xs (n + 3))]) X hH1 hS1 h2 okX11_setValue rfl rfl gT_X11_setValue ⟨Nat.le_of_ble_eq_true rfl, Nat.le_of_ble_eq_true rfl⟩ hc hl1.1 rfl (Nat.le_of_ble_eq_true rfl) dL_law_2386 (fun H2 locs2 hH2 hS2 => ?_)
    refine lv_istore (lv' := (7, .int r) :: (6, .int 0) :: [(0, .ref b), (1, .ref (cw_a (cc_w K) 0)), (2, .ref (cw_a (cr_w K) 0)), (3, .ref qo), (4, .ref qd), (5, .int (nI n))]) X.1.1 X.1.2.1 dL_law_2389 hl1 (by decide) rfl (fun ls2 hl2 => ?_)
    refine lv_aload_n X.1.1 X.1.2.1 dL_law_2391 rfl (lv_at hl2 4 rfl) ?_
    refine la_thrown X hH2 hS2 hc hl2.1 (Nat.le_of_ble_eq_true rfl) dL_law_2392 (fun H3 locs3 hH3 hS3 => ?_)
    refine lv_iload X.1.1 X.1.2.1 dL_law_2395 (lv_at hl2 1 rfl) ?_
    refine lv_icmp_eq (tgt := 2402) X.1.1 X.1.2.1 dL_law_2397 (by decide) (fun _ => ?_) (fun y => absurd h3 y)
    refine lv_iload X.1.1 X.1.2.1 dL_law_2402 (lv_at hl2 1 rfl) ?_
    have hg : W p K.1 e room_1 s m #[.ref b] below meth c H3 locs3 (cells + 1) (slots + 6) Q (F0 m 2419 ls2 []) := lv_goto (tgt := 2884) X.1.1 X.1.2.1 dL_law_2419 (by decide) (kk _ _ _ _ _ _ _ hH3 hS3 h4 (la_lv (la_lv hl2)))
    refine lv_if_ne (tgt := 2419) X.1.1 X.1.2.1 dL_law_2404 (by decide) (fun y => absurd rfl y) (fun _ => ?_)
    refine lv_aload_n X.1.1 X.1.2.1 dL_law_2407 rfl (lv_at hl2 5 rfl) ?_
    refine lv_iconst (v := 0) X.1.1 X.1.2.1 dL_law_2408 (by decide) ?_
    refine va_lald X.1.1 X.1.2.1 X.2.2.2.2.2.2.1 hH3.2.2.1 0 0 rfl rfl (vp_in_nI (n := 0) (N := 1) (by omega) (by omega)) dL_law_2409 ?_
    refine lv_iload X.1.1 X.1.2.1 dL_law_2410 (lv_at hl2 0 rfl) ?_
    refine lv_i2l (v := r.toInt64) X.1.1 X.1.2.1 dL_law_2412 rfl ?_
    refine W.lcmp X.1.1 X.1.2.1 dL_law_2413 ?_
    exact lv_if_eq (tgt := 2419) X.1.1 X.1.2.1 dL_law_2414 (by decide) (fun _ => hg) (fun y => absurd (la_cmp _) y)
  · refine lv_aload_n X.1.1 X.1.2.1 dL_law_2342 rfl (lv_at hl 1 rfl) ?_
    refine la_arg (j := 1) X hS (lv_at hl 0 rfl) (lv_at hl 5 rfl) (by omega) hn.2 (by decide) dL_law_2343 dL_law_2344 dL_law_2346 dL_law_2347 dL_law_2348 ?_
    refine la_arg (j := 2) X hS (lv_at hl 0 rfl) (lv_at hl 5 rfl) (by omega) hn.2 (by decide) dL_law_2349 dL_law_2350 dL_law_2352 dL_law_2353 dL_law_2354 ?_
    refine la_arg (j := 3) X hS (lv_at hl 0 rfl) (lv_at hl 5 rfl) (by omega) hn.2 (by decide) dL_law_2355 dL_law_2356 dL_law_2358 dL_law_2359 dL_law_2360 ?_
    refine lv_aload_n X.1.1 X.1.2.1 dL_law_2361 rfl (lv_at hl 3 rfl) ?_
    refine la_callW (M2 := mL_setValue) (n2 := 5) (As := [.ref (cw_a (cc_w K) 0), .int (xs (n + 1)), .int (xs (n + 2)), .int (xs (n + 3)), .ref qo]) (hh := [(0, 12, 15, 29), (0, 12, 19, 19)]) X hH hS (wr_setValue_x1 h1) ⟨_, rfl⟩ (by decide +kernel) rfl gT_L_setValue ⟨Nat.le_of_ble_eq_true rfl, Nat.le_of_ble_eq_true rfl⟩ hc hl.1 rfl (Nat.le_of_ble_eq_true rfl) dL_law_2362 (fun H1 locs1 hH1 hS1 => ?_)
    refine lv_istore (lv' := (6, .int 1) :: [(0, .ref b), (1, .ref (cw_a (cc_w K) 0)), (2, .ref (cw_a (cr_w K) 0)), (3, .ref qo), (4, .ref qd), (5, .int (nI n))]) X.1.1 X.1.2.1 dL_law_2365 hl (by decide) rfl (fun ls1 hl1 => ?_)
    refine lv_aload_n X.1.1 X.1.2.1 dL_law_2367 rfl (lv_at hl1 3 rfl) ?_
    refine la_arg (j := 1) X hS1 (lv_at hl1 1 rfl) (lv_at hl1 6 rfl) (by omega) hn.2 (by decide) dL_law_2368 dL_law_2369 dL_law_2371 dL_law_2372 dL_law_2373 ?_
    refine la_arg (j := 2) X hS1 (lv_at hl1 1 rfl) (lv_at hl1 6 rfl) (by omega) hn.2 (by decide) dL_law_2374 dL_law_2375 dL_law_2377 dL_law_2378 dL_law_2379 ?_
    refine la_arg (j := 3) X hS1 (lv_at hl1 1 rfl) (lv_at hl1 6 rfl) (by omega) hn.2 (by decide) dL_law_2380 dL_law_2381 dL_law_2383 dL_law_2384 dL_law_2385 ?_
    refine la_callR (As := [.int (xs (n + 1)), .int (xs (n + 2)), .int (xs (n + 3))]) X hH1 hS1 h2 okX11_setValue rfl rfl gT_X11_setValue ⟨Nat.le_of_ble_eq_true rfl, Nat.le_of_ble_eq_true rfl⟩ hc hl1.1 rfl (Nat.le_of_ble_eq_true rfl) dL_law_2386 (fun H2 locs2 hH2 hS2 => ?_)
    refine lv_istore (lv' := (7, .int r) :: (6, .int 1) :: [(0, .ref b), (1, .ref (cw_a (cc_w K) 0)), (2, .ref (cw_a (cr_w K) 0)), (3, .ref qo), (4, .ref qd), (5, .int (nI n))]) X.1.1 X.1.2.1 dL_law_2389 hl1 (by decide) rfl (fun ls2 hl2 => ?_)
    refine lv_aload_n X.1.1 X.1.2.1 dL_law_2391 rfl (lv_at hl2 4 rfl) ?_
    refine la_thrown X hH2 hS2 hc hl2.1 (Nat.le_of_ble_eq_true rfl) dL_law_2392 (fun H3 locs3 hH3 hS3 => ?_)
    refine lv_iload X.1.1 X.1.2.1 dL_law_2395 (lv_at hl2 1 rfl) ?_
    refine lv_icmp_eq (tgt := 2402) X.1.1 X.1.2.1 dL_law_2397 (by decide) (fun _ => ?_) (fun y => absurd h3 y)
    refine lv_iload X.1.1 X.1.2.1 dL_law_2402 (lv_at hl2 1 rfl) ?_
    have hg : W p K.1 e room_1 s m #[.ref b] below meth c H3 locs3 (cells + 1) (slots + 6) Q (F0 m 2419 ls2 []) := lv_goto (tgt := 2884) X.1.1 X.1.2.1 dL_law_2419 (by decide) (kk _ _ _ _ _ _ _ hH3 hS3 h4 (la_lv (la_lv hl2)))
    exact lv_if_ne (tgt := 2419) X.1.1 X.1.2.1 dL_law_2404 (by decide) (fun _ => hg) (fun y => absurd y (by decide))
  · refine lv_aload_n X.1.1 X.1.2.1 dL_law_2342 rfl (lv_at hl 1 rfl) ?_
    refine la_arg (j := 1) X hS (lv_at hl 0 rfl) (lv_at hl 5 rfl) (by omega) hn.2 (by decide) dL_law_2343 dL_law_2344 dL_law_2346 dL_law_2347 dL_law_2348 ?_
    refine la_arg (j := 2) X hS (lv_at hl 0 rfl) (lv_at hl 5 rfl) (by omega) hn.2 (by decide) dL_law_2349 dL_law_2350 dL_law_2352 dL_law_2353 dL_law_2354 ?_
    refine la_arg (j := 3) X hS (lv_at hl 0 rfl) (lv_at hl 5 rfl) (by omega) hn.2 (by decide) dL_law_2355 dL_law_2356 dL_law_2358 dL_law_2359 dL_law_2360 ?_
    refine lv_aload_n X.1.1 X.1.2.1 dL_law_2361 rfl (lv_at hl 3 rfl) ?_
    refine la_callW (M2 := mL_setValue) (n2 := 5) (As := [.ref (cw_a (cc_w K) 0), .int (xs (n + 1)), .int (xs (n + 2)), .int (xs (n + 3)), .ref qo]) (hh := [(0, 12, 15, 29), (0, 12, 19, 19)]) X hH hS (wr_setValue_x2 h1) ⟨_, rfl⟩ (by decide +kernel) rfl gT_L_setValue ⟨Nat.le_of_ble_eq_true rfl, Nat.le_of_ble_eq_true rfl⟩ hc hl.1 rfl (Nat.le_of_ble_eq_true rfl) dL_law_2362 (fun H1 locs1 hH1 hS1 => ?_)
    refine lv_istore (lv' := (6, .int 2) :: [(0, .ref b), (1, .ref (cw_a (cc_w K) 0)), (2, .ref (cw_a (cr_w K) 0)), (3, .ref qo), (4, .ref qd), (5, .int (nI n))]) X.1.1 X.1.2.1 dL_law_2365 hl (by decide) rfl (fun ls1 hl1 => ?_)
    refine lv_aload_n X.1.1 X.1.2.1 dL_law_2367 rfl (lv_at hl1 3 rfl) ?_
    refine la_arg (j := 1) X hS1 (lv_at hl1 1 rfl) (lv_at hl1 6 rfl) (by omega) hn.2 (by decide) dL_law_2368 dL_law_2369 dL_law_2371 dL_law_2372 dL_law_2373 ?_
    refine la_arg (j := 2) X hS1 (lv_at hl1 1 rfl) (lv_at hl1 6 rfl) (by omega) hn.2 (by decide) dL_law_2374 dL_law_2375 dL_law_2377 dL_law_2378 dL_law_2379 ?_
    refine la_arg (j := 3) X hS1 (lv_at hl1 1 rfl) (lv_at hl1 6 rfl) (by omega) hn.2 (by decide) dL_law_2380 dL_law_2381 dL_law_2383 dL_law_2384 dL_law_2385 ?_
    refine la_callR (As := [.int (xs (n + 1)), .int (xs (n + 2)), .int (xs (n + 3))]) X hH1 hS1 h2 okX11_setValue rfl rfl gT_X11_setValue ⟨Nat.le_of_ble_eq_true rfl, Nat.le_of_ble_eq_true rfl⟩ hc hl1.1 rfl (Nat.le_of_ble_eq_true rfl) dL_law_2386 (fun H2 locs2 hH2 hS2 => ?_)
    refine lv_istore (lv' := (7, .int r) :: (6, .int 2) :: [(0, .ref b), (1, .ref (cw_a (cc_w K) 0)), (2, .ref (cw_a (cr_w K) 0)), (3, .ref qo), (4, .ref qd), (5, .int (nI n))]) X.1.1 X.1.2.1 dL_law_2389 hl1 (by decide) rfl (fun ls2 hl2 => ?_)
    refine lv_aload_n X.1.1 X.1.2.1 dL_law_2391 rfl (lv_at hl2 4 rfl) ?_
    refine la_thrown X hH2 hS2 hc hl2.1 (Nat.le_of_ble_eq_true rfl) dL_law_2392 (fun H3 locs3 hH3 hS3 => ?_)
    refine lv_iload X.1.1 X.1.2.1 dL_law_2395 (lv_at hl2 1 rfl) ?_
    refine lv_icmp_eq (tgt := 2402) X.1.1 X.1.2.1 dL_law_2397 (by decide) (fun _ => ?_) (fun y => absurd h3 y)
    refine lv_iload X.1.1 X.1.2.1 dL_law_2402 (lv_at hl2 1 rfl) ?_
    have hg : W p K.1 e room_1 s m #[.ref b] below meth c H3 locs3 (cells + 1) (slots + 6) Q (F0 m 2419 ls2 []) := lv_goto (tgt := 2884) X.1.1 X.1.2.1 dL_law_2419 (by decide) (kk _ _ _ _ _ _ _ hH3 hS3 h4 (la_lv (la_lv hl2)))
    exact lv_if_ne (tgt := 2419) X.1.1 X.1.2.1 dL_law_2404 (by decide) (fun _ => hg) (fun y => absurd y (by decide))
theorem lc_47 (X : la_X K p s m meth c b L xs qo qd cl cd) (F : la_F K) (hc : cells + 1 ≤ 1088 ∧ slots + 6 ≤ 17909) (hn : n + 6 ≤ L ∧ L ≤ 3072) (kk : la_T K p e s m below meth c b qo qd cl cd Q n (cells + 1) (slots + 6) 2884) : la_T K p e s m below meth c b qo qd cl cd Q n cells slots 2422 := by
  intro H locs ls I J f g hH hS hR hl
  rcases ca_divideAndChoose (K := K) F.1 F.2.1 hR (x := xs (n + 1)) (y := xs (n + 2)) with ⟨r, I2, J2, h1, h2, h3, h4⟩ | ⟨r, I2, J2, h1, h2, h3, h4⟩ | ⟨r, I2, J2, h1, h2, h3, h4⟩
  · refine lv_aload_n X.1.1 X.1.2.1 dL_law_2422 rfl (lv_at hl 1 rfl) ?_
    refine la_arg (j := 1) X hS (lv_at hl 0 rfl) (lv_at hl 5 rfl) (by omega) hn.2 (by decide) dL_law_2423 dL_law_2424 dL_law_2426 dL_law_2427 dL_law_2428 ?_
    refine la_arg (j := 2) X hS (lv_at hl 0 rfl) (lv_at hl 5 rfl) (by omega) hn.2 (by decide) dL_law_2429 dL_law_2430 dL_law_2432 dL_law_2433 dL_law_2434 ?_
    refine lv_aload_n X.1.1 X.1.2.1 dL_law_2435 rfl (lv_at hl 3 rfl) ?_
    refine la_callW (M2 := mL_divideAndChoose) (n2 := 4) (As := [.ref (cw_a (cc_w K) 0), .int (xs (n + 1)), .int (xs (n + 2)), .ref qo]) (hh := [(0, 10, 13, 29), (0, 10, 17, 13)]) X hH hS (wr_divideAndChoose_ok h1) ⟨_, rfl⟩ (by decide +kernel) rfl gT_L_divideAndChoose ⟨Nat.le_of_ble_eq_true rfl, Nat.le_of_ble_eq_true rfl⟩ hc hl.1 rfl (Nat.le_of_ble_eq_true rfl) dL_law_2436 (fun H1 locs1 hH1 hS1 => ?_)
    refine lv_istore (lv' := (6, .int 0) :: [(0, .ref b), (1, .ref (cw_a (cc_w K) 0)), (2, .ref (cw_a (cr_w K) 0)), (3, .ref qo), (4, .ref qd), (5, .int (nI n))]) X.1.1 X.1.2.1 dL_law_2439 hl (by decide) rfl (fun ls1 hl1 => ?_)
    refine lv_aload_n X.1.1 X.1.2.1 dL_law_2441 rfl (lv_at hl1 3 rfl) ?_
    refine la_arg (j := 1) X hS1 (lv_at hl1 1 rfl) (lv_at hl1 6 rfl) (by omega) hn.2 (by decide) dL_law_2442 dL_law_2443 dL_law_2445 dL_law_2446 dL_law_2447 ?_
    refine la_arg (j := 2) X hS1 (lv_at hl1 1 rfl) (lv_at hl1 6 rfl) (by omega) hn.2 (by decide) dL_law_2448 dL_law_2449 dL_law_2451 dL_law_2452 dL_law_2453 ?_
    refine la_callR (As := [.int (xs (n + 1)), .int (xs (n + 2))]) X hH1 hS1 h2 okX11_divideAndChoose rfl rfl gT_X11_divideAndChoose ⟨Nat.le_of_ble_eq_true rfl, Nat.le_of_ble_eq_true rfl⟩ hc hl1.1 rfl (Nat.le_of_ble_eq_true rfl) dL_law_2454 (fun H2 locs2 hH2 hS2 => ?_)
    refine lv_istore (lv' := (7, .int r) :: (6, .int 0) :: [(0, .ref b), (1, .ref (cw_a (cc_w K) 0)), (2, .ref (cw_a (cr_w K) 0)), (3, .ref qo), (4, .ref qd), (5, .int (nI n))]) X.1.1 X.1.2.1 dL_law_2457 hl1 (by decide) rfl (fun ls2 hl2 => ?_)
    refine lv_aload_n X.1.1 X.1.2.1 dL_law_2459 rfl (lv_at hl2 4 rfl) ?_
    refine la_thrown X hH2 hS2 hc hl2.1 (Nat.le_of_ble_eq_true rfl) dL_law_2460 (fun H3 locs3 hH3 hS3 => ?_)
    refine lv_iload X.1.1 X.1.2.1 dL_law_2463 (lv_at hl2 1 rfl) ?_
    refine lv_icmp_eq (tgt := 2470) X.1.1 X.1.2.1 dL_law_2465 (by decide) (fun _ => ?_) (fun y => absurd h3 y)
    refine lv_iload X.1.1 X.1.2.1 dL_law_2470 (lv_at hl2 1 rfl) ?_
    have hg : W p K.1 e room_1 s m #[.ref b] below meth c H3 locs3 (cells + 1) (slots + 6) Q (F0 m 2487 ls2 []) := lv_goto (tgt := 2884) X.1.1 X.1.2.1 dL_law_2487 (by decide) (kk _ _ _ _ _ _ _ hH3 hS3 h4 (la_lv (la_lv hl2)))
    refine lv_if_ne (tgt := 2487) X.1.1 X.1.2.1 dL_law_2472 (by decide) (fun y => absurd rfl y) (fun _ => ?_)
    refine lv_aload_n X.1.1 X.1.2.1 dL_law_2475 rfl (lv_at hl2 5 rfl) ?_
    refine lv_iconst (v := 0) X.1.1 X.1.2.1 dL_law_2476 (by decide) ?_
    refine va_lald X.1.1 X.1.2.1 X.2.2.2.2.2.2.1 hH3.2.2.1 0 0 rfl rfl (vp_in_nI (n := 0) (N := 1) (by omega) (by omega)) dL_law_2477 ?_
    refine lv_iload X.1.1 X.1.2.1 dL_law_2478 (lv_at hl2 0 rfl) ?_
    refine lv_i2l (v := r.toInt64) X.1.1 X.1.2.1 dL_law_2480 rfl ?_
    refine W.lcmp X.1.1 X.1.2.1 dL_law_2481 ?_
    exact lv_if_eq (tgt := 2487) X.1.1 X.1.2.1 dL_law_2482 (by decide) (fun _ => hg) (fun y => absurd (la_cmp _) y)
  · refine lv_aload_n X.1.1 X.1.2.1 dL_law_2422 rfl (lv_at hl 1 rfl) ?_
    refine la_arg (j := 1) X hS (lv_at hl 0 rfl) (lv_at hl 5 rfl) (by omega) hn.2 (by decide) dL_law_2423 dL_law_2424 dL_law_2426 dL_law_2427 dL_law_2428 ?_
    refine la_arg (j := 2) X hS (lv_at hl 0 rfl) (lv_at hl 5 rfl) (by omega) hn.2 (by decide) dL_law_2429 dL_law_2430 dL_law_2432 dL_law_2433 dL_law_2434 ?_
    refine lv_aload_n X.1.1 X.1.2.1 dL_law_2435 rfl (lv_at hl 3 rfl) ?_
    refine la_callW (M2 := mL_divideAndChoose) (n2 := 4) (As := [.ref (cw_a (cc_w K) 0), .int (xs (n + 1)), .int (xs (n + 2)), .ref qo]) (hh := [(0, 10, 13, 29), (0, 10, 17, 13)]) X hH hS (wr_divideAndChoose_x1 h1) ⟨_, rfl⟩ (by decide +kernel) rfl gT_L_divideAndChoose ⟨Nat.le_of_ble_eq_true rfl, Nat.le_of_ble_eq_true rfl⟩ hc hl.1 rfl (Nat.le_of_ble_eq_true rfl) dL_law_2436 (fun H1 locs1 hH1 hS1 => ?_)
    refine lv_istore (lv' := (6, .int 1) :: [(0, .ref b), (1, .ref (cw_a (cc_w K) 0)), (2, .ref (cw_a (cr_w K) 0)), (3, .ref qo), (4, .ref qd), (5, .int (nI n))]) X.1.1 X.1.2.1 dL_law_2439 hl (by decide) rfl (fun ls1 hl1 => ?_)
    refine lv_aload_n X.1.1 X.1.2.1 dL_law_2441 rfl (lv_at hl1 3 rfl) ?_
    refine la_arg (j := 1) X hS1 (lv_at hl1 1 rfl) (lv_at hl1 6 rfl) (by omega) hn.2 (by decide) dL_law_2442 dL_law_2443 dL_law_2445 dL_law_2446 dL_law_2447 ?_
    refine la_arg (j := 2) X hS1 (lv_at hl1 1 rfl) (lv_at hl1 6 rfl) (by omega) hn.2 (by decide) dL_law_2448 dL_law_2449 dL_law_2451 dL_law_2452 dL_law_2453 ?_
    refine la_callR (As := [.int (xs (n + 1)), .int (xs (n + 2))]) X hH1 hS1 h2 okX11_divideAndChoose rfl rfl gT_X11_divideAndChoose ⟨Nat.le_of_ble_eq_true rfl, Nat.le_of_ble_eq_true rfl⟩ hc hl1.1 rfl (Nat.le_of_ble_eq_true rfl) dL_law_2454 (fun H2 locs2 hH2 hS2 => ?_)
    refine lv_istore (lv' := (7, .int r) :: (6, .int 1) :: [(0, .ref b), (1, .ref (cw_a (cc_w K) 0)), (2, .ref (cw_a (cr_w K) 0)), (3, .ref qo), (4, .ref qd), (5, .int (nI n))]) X.1.1 X.1.2.1 dL_law_2457 hl1 (by decide) rfl (fun ls2 hl2 => ?_)
    refine lv_aload_n X.1.1 X.1.2.1 dL_law_2459 rfl (lv_at hl2 4 rfl) ?_
    refine la_thrown X hH2 hS2 hc hl2.1 (Nat.le_of_ble_eq_true rfl) dL_law_2460 (fun H3 locs3 hH3 hS3 => ?_)
    refine lv_iload X.1.1 X.1.2.1 dL_law_2463 (lv_at hl2 1 rfl) ?_
    refine lv_icmp_eq (tgt := 2470) X.1.1 X.1.2.1 dL_law_2465 (by decide) (fun _ => ?_) (fun y => absurd h3 y)
    refine lv_iload X.1.1 X.1.2.1 dL_law_2470 (lv_at hl2 1 rfl) ?_
    have hg : W p K.1 e room_1 s m #[.ref b] below meth c H3 locs3 (cells + 1) (slots + 6) Q (F0 m 2487 ls2 []) := lv_goto (tgt := 2884) X.1.1 X.1.2.1 dL_law_2487 (by decide) (kk _ _ _ _ _ _ _ hH3 hS3 h4 (la_lv (la_lv hl2)))
    exact lv_if_ne (tgt := 2487) X.1.1 X.1.2.1 dL_law_2472 (by decide) (fun _ => hg) (fun y => absurd y (by decide))
  · refine lv_aload_n X.1.1 X.1.2.1 dL_law_2422 rfl (lv_at hl 1 rfl) ?_
    refine la_arg (j := 1) X hS (lv_at hl 0 rfl) (lv_at hl 5 rfl) (by omega) hn.2 (by decide) dL_law_2423 dL_law_2424 dL_law_2426 dL_law_2427 dL_law_2428 ?_
    refine la_arg (j := 2) X hS (lv_at hl 0 rfl) (lv_at hl 5 rfl) (by omega) hn.2 (by decide) dL_law_2429 dL_law_2430 dL_law_2432 dL_law_2433 dL_law_2434 ?_
    refine lv_aload_n X.1.1 X.1.2.1 dL_law_2435 rfl (lv_at hl 3 rfl) ?_
    refine la_callW (M2 := mL_divideAndChoose) (n2 := 4) (As := [.ref (cw_a (cc_w K) 0), .int (xs (n + 1)), .int (xs (n + 2)), .ref qo]) (hh := [(0, 10, 13, 29), (0, 10, 17, 13)]) X hH hS (wr_divideAndChoose_x2 h1) ⟨_, rfl⟩ (by decide +kernel) rfl gT_L_divideAndChoose ⟨Nat.le_of_ble_eq_true rfl, Nat.le_of_ble_eq_true rfl⟩ hc hl.1 rfl (Nat.le_of_ble_eq_true rfl) dL_law_2436 (fun H1 locs1 hH1 hS1 => ?_)
    refine lv_istore (lv' := (6, .int 2) :: [(0, .ref b), (1, .ref (cw_a (cc_w K) 0)), (2, .ref (cw_a (cr_w K) 0)), (3, .ref qo), (4, .ref qd), (5, .int (nI n))]) X.1.1 X.1.2.1 dL_law_2439 hl (by decide) rfl (fun ls1 hl1 => ?_)
    refine lv_aload_n X.1.1 X.1.2.1 dL_law_2441 rfl (lv_at hl1 3 rfl) ?_
    refine la_arg (j := 1) X hS1 (lv_at hl1 1 rfl) (lv_at hl1 6 rfl) (by omega) hn.2 (by decide) dL_law_2442 dL_law_2443 dL_law_2445 dL_law_2446 dL_law_2447 ?_
    refine la_arg (j := 2) X hS1 (lv_at hl1 1 rfl) (lv_at hl1 6 rfl) (by omega) hn.2 (by decide) dL_law_2448 dL_law_2449 dL_law_2451 dL_law_2452 dL_law_2453 ?_
    refine la_callR (As := [.int (xs (n + 1)), .int (xs (n + 2))]) X hH1 hS1 h2 okX11_divideAndChoose rfl rfl gT_X11_divideAndChoose ⟨Nat.le_of_ble_eq_true rfl, Nat.le_of_ble_eq_true rfl⟩ hc hl1.1 rfl (Nat.le_of_ble_eq_true rfl) dL_law_2454 (fun H2 locs2 hH2 hS2 => ?_)
    refine lv_istore (lv' := (7, .int r) :: (6, .int 2) :: [(0, .ref b), (1, .ref (cw_a (cc_w K) 0)), (2, .ref (cw_a (cr_w K) 0)), (3, .ref qo), (4, .ref qd), (5, .int (nI n))]) X.1.1 X.1.2.1 dL_law_2457 hl1 (by decide) rfl (fun ls2 hl2 => ?_)
    refine lv_aload_n X.1.1 X.1.2.1 dL_law_2459 rfl (lv_at hl2 4 rfl) ?_
    refine la_thrown X hH2 hS2 hc hl2.1 (Nat.le_of_ble_eq_true rfl) dL_law_2460 (fun H3 locs3 hH3 hS3 => ?_)
    refine lv_iload X.1.1 X.1.2.1 dL_law_2463 (lv_at hl2 1 rfl) ?_
    refine lv_icmp_eq (tgt := 2470) X.1.1 X.1.2.1 dL_law_2465 (by decide) (fun _ => ?_) (fun y => absurd h3 y)
    refine lv_iload X.1.1 X.1.2.1 dL_law_2470 (lv_at hl2 1 rfl) ?_
    have hg : W p K.1 e room_1 s m #[.ref b] below meth c H3 locs3 (cells + 1) (slots + 6) Q (F0 m 2487 ls2 []) := lv_goto (tgt := 2884) X.1.1 X.1.2.1 dL_law_2487 (by decide) (kk _ _ _ _ _ _ _ hH3 hS3 h4 (la_lv (la_lv hl2)))
    exact lv_if_ne (tgt := 2487) X.1.1 X.1.2.1 dL_law_2472 (by decide) (fun _ => hg) (fun y => absurd y (by decide))
theorem lc_48 (X : la_X K p s m meth c b L xs qo qd cl cd) (F : la_F K) (hc : cells + 1 ≤ 1088 ∧ slots + 6 ≤ 17909) (hn : n + 6 ≤ L ∧ L ≤ 3072) (kk : la_T K p e s m below meth c b qo qd cl cd Q n (cells + 1) (slots + 6) 2884) : la_T K p e s m below meth c b qo qd cl cd Q n cells slots 2490 := by
  intro H locs ls I J f g hH hS hR hl
  obtain ⟨r, I2, J2, h1, h2, h3, h4⟩ := ca_movingKnife (K := K) hR
  refine W.widen (k := cells + 1) (n := slots + 6) (by omega) (by omega) ?_
  refine lv_aload_n X.1.1 X.1.2.1 dL_law_2490 rfl (lv_at hl 1 rfl) ?_
  refine la_callC (As := []) X hH hS h1 okX10_movingKnife rfl rfl gT_X10_movingKnife ⟨Nat.le_of_ble_eq_true rfl, Nat.le_of_ble_eq_true rfl⟩ hc hl.1 rfl (Nat.le_of_ble_eq_true rfl) dL_law_2491 (fun H1 locs1 hH1 hS1 => ?_)
  refine lv_aload_n X.1.1 X.1.2.1 dL_law_2494 rfl (lv_at hl 2 rfl) ?_
  refine la_callR (As := []) X hH1 hS1 h2 okX11_movingKnife rfl rfl gT_X11_movingKnife ⟨Nat.le_of_ble_eq_true rfl, Nat.le_of_ble_eq_true rfl⟩ hc hl.1 rfl (Nat.le_of_ble_eq_true rfl) dL_law_2495 (fun H2 locs2 hH2 hS2 => ?_)
  exact lv_icmp_eq (tgt := 2884) X.1.1 X.1.2.1 dL_law_2498 (by decide) (fun _ => kk _ _ _ _ _ _ _ hH2 hS2 h4 hl) (fun y => absurd rfl y)
theorem lc_49 (X : la_X K p s m meth c b L xs qo qd cl cd) (F : la_F K) (hc : cells + 1 ≤ 1088 ∧ slots + 6 ≤ 17909) (hn : n + 6 ≤ L ∧ L ≤ 3072) (kk : la_T K p e s m below meth c b qo qd cl cd Q n (cells + 1) (slots + 6) 2884) : la_T K p e s m below meth c b qo qd cl cd Q n cells slots 2503 := by
  intro H locs ls I J f g hH hS hR hl
  rcases ca_roundRobin (K := K) F.1 F.2.1 hR (x := xs (n + 1)) with ⟨r, I2, J2, h1, h2, h3, h4⟩ | ⟨r, I2, J2, h1, h2, h3, h4⟩
  · refine lv_aload_n X.1.1 X.1.2.1 dL_law_2503 rfl (lv_at hl 1 rfl) ?_
    refine la_arg (j := 1) X hS (lv_at hl 0 rfl) (lv_at hl 5 rfl) (by omega) hn.2 (by decide) dL_law_2504 dL_law_2505 dL_law_2507 dL_law_2508 dL_law_2509 ?_
    refine lv_aload_n X.1.1 X.1.2.1 dL_law_2510 rfl (lv_at hl 3 rfl) ?_
    refine la_callW (M2 := mL_roundRobin) (n2 := 3) (As := [.ref (cw_a (cc_w K) 0), .int (xs (n + 1)), .ref qo]) (hh := [(0, 9, 12, 29)]) X hH hS (wr_roundRobin_ok h1) ⟨_, rfl⟩ (by decide +kernel) rfl gT_L_roundRobin ⟨Nat.le_of_ble_eq_true rfl, Nat.le_of_ble_eq_true rfl⟩ hc hl.1 rfl (Nat.le_of_ble_eq_true rfl) dL_law_2511 (fun H1 locs1 hH1 hS1 => ?_)
    refine lv_istore (lv' := (6, .int 0) :: [(0, .ref b), (1, .ref (cw_a (cc_w K) 0)), (2, .ref (cw_a (cr_w K) 0)), (3, .ref qo), (4, .ref qd), (5, .int (nI n))]) X.1.1 X.1.2.1 dL_law_2514 hl (by decide) rfl (fun ls1 hl1 => ?_)
    refine lv_aload_n X.1.1 X.1.2.1 dL_law_2516 rfl (lv_at hl1 3 rfl) ?_
    refine la_arg (j := 1) X hS1 (lv_at hl1 1 rfl) (lv_at hl1 6 rfl) (by omega) hn.2 (by decide) dL_law_2517 dL_law_2518 dL_law_2520 dL_law_2521 dL_law_2522 ?_
    refine la_callR (As := [.int (xs (n + 1))]) X hH1 hS1 h2 okX11_roundRobin rfl rfl gT_X11_roundRobin ⟨Nat.le_of_ble_eq_true rfl, Nat.le_of_ble_eq_true rfl⟩ hc hl1.1 rfl (Nat.le_of_ble_eq_true rfl) dL_law_2523 (fun H2 locs2 hH2 hS2 => ?_)
    refine lv_istore (lv' := (7, .int r) :: (6, .int 0) :: [(0, .ref b), (1, .ref (cw_a (cc_w K) 0)), (2, .ref (cw_a (cr_w K) 0)), (3, .ref qo), (4, .ref qd), (5, .int (nI n))]) X.1.1 X.1.2.1 dL_law_2526 hl1 (by decide) rfl (fun ls2 hl2 => ?_)
    refine lv_aload_n X.1.1 X.1.2.1 dL_law_2528 rfl (lv_at hl2 4 rfl) ?_
    refine la_thrown X hH2 hS2 hc hl2.1 (Nat.le_of_ble_eq_true rfl) dL_law_2529 (fun H3 locs3 hH3 hS3 => ?_)
    refine lv_iload X.1.1 X.1.2.1 dL_law_2532 (lv_at hl2 1 rfl) ?_
    refine lv_icmp_eq (tgt := 2539) X.1.1 X.1.2.1 dL_law_2534 (by decide) (fun _ => ?_) (fun y => absurd h3 y)
    refine lv_iload X.1.1 X.1.2.1 dL_law_2539 (lv_at hl2 1 rfl) ?_
    have hg : W p K.1 e room_1 s m #[.ref b] below meth c H3 locs3 (cells + 1) (slots + 6) Q (F0 m 2556 ls2 []) := lv_goto (tgt := 2884) X.1.1 X.1.2.1 dL_law_2556 (by decide) (kk _ _ _ _ _ _ _ hH3 hS3 h4 (la_lv (la_lv hl2)))
    refine lv_if_ne (tgt := 2556) X.1.1 X.1.2.1 dL_law_2541 (by decide) (fun y => absurd rfl y) (fun _ => ?_)
    refine lv_aload_n X.1.1 X.1.2.1 dL_law_2544 rfl (lv_at hl2 5 rfl) ?_
    refine lv_iconst (v := 0) X.1.1 X.1.2.1 dL_law_2545 (by decide) ?_
    refine va_lald X.1.1 X.1.2.1 X.2.2.2.2.2.2.1 hH3.2.2.1 0 0 rfl rfl (vp_in_nI (n := 0) (N := 1) (by omega) (by omega)) dL_law_2546 ?_
    refine lv_iload X.1.1 X.1.2.1 dL_law_2547 (lv_at hl2 0 rfl) ?_
    refine lv_i2l (v := r.toInt64) X.1.1 X.1.2.1 dL_law_2549 rfl ?_
    refine W.lcmp X.1.1 X.1.2.1 dL_law_2550 ?_
    exact lv_if_eq (tgt := 2556) X.1.1 X.1.2.1 dL_law_2551 (by decide) (fun _ => hg) (fun y => absurd (la_cmp _) y)
  · refine lv_aload_n X.1.1 X.1.2.1 dL_law_2503 rfl (lv_at hl 1 rfl) ?_
    refine la_arg (j := 1) X hS (lv_at hl 0 rfl) (lv_at hl 5 rfl) (by omega) hn.2 (by decide) dL_law_2504 dL_law_2505 dL_law_2507 dL_law_2508 dL_law_2509 ?_
    refine lv_aload_n X.1.1 X.1.2.1 dL_law_2510 rfl (lv_at hl 3 rfl) ?_
    refine la_callW (M2 := mL_roundRobin) (n2 := 3) (As := [.ref (cw_a (cc_w K) 0), .int (xs (n + 1)), .ref qo]) (hh := [(0, 9, 12, 29)]) X hH hS (wr_roundRobin_x1 h1) ⟨_, rfl⟩ (by decide +kernel) rfl gT_L_roundRobin ⟨Nat.le_of_ble_eq_true rfl, Nat.le_of_ble_eq_true rfl⟩ hc hl.1 rfl (Nat.le_of_ble_eq_true rfl) dL_law_2511 (fun H1 locs1 hH1 hS1 => ?_)
    refine lv_istore (lv' := (6, .int 1) :: [(0, .ref b), (1, .ref (cw_a (cc_w K) 0)), (2, .ref (cw_a (cr_w K) 0)), (3, .ref qo), (4, .ref qd), (5, .int (nI n))]) X.1.1 X.1.2.1 dL_law_2514 hl (by decide) rfl (fun ls1 hl1 => ?_)
    refine lv_aload_n X.1.1 X.1.2.1 dL_law_2516 rfl (lv_at hl1 3 rfl) ?_
    refine la_arg (j := 1) X hS1 (lv_at hl1 1 rfl) (lv_at hl1 6 rfl) (by omega) hn.2 (by decide) dL_law_2517 dL_law_2518 dL_law_2520 dL_law_2521 dL_law_2522 ?_
    refine la_callR (As := [.int (xs (n + 1))]) X hH1 hS1 h2 okX11_roundRobin rfl rfl gT_X11_roundRobin ⟨Nat.le_of_ble_eq_true rfl, Nat.le_of_ble_eq_true rfl⟩ hc hl1.1 rfl (Nat.le_of_ble_eq_true rfl) dL_law_2523 (fun H2 locs2 hH2 hS2 => ?_)
    refine lv_istore (lv' := (7, .int r) :: (6, .int 1) :: [(0, .ref b), (1, .ref (cw_a (cc_w K) 0)), (2, .ref (cw_a (cr_w K) 0)), (3, .ref qo), (4, .ref qd), (5, .int (nI n))]) X.1.1 X.1.2.1 dL_law_2526 hl1 (by decide) rfl (fun ls2 hl2 => ?_)
    refine lv_aload_n X.1.1 X.1.2.1 dL_law_2528 rfl (lv_at hl2 4 rfl) ?_
    refine la_thrown X hH2 hS2 hc hl2.1 (Nat.le_of_ble_eq_true rfl) dL_law_2529 (fun H3 locs3 hH3 hS3 => ?_)
    refine lv_iload X.1.1 X.1.2.1 dL_law_2532 (lv_at hl2 1 rfl) ?_
    refine lv_icmp_eq (tgt := 2539) X.1.1 X.1.2.1 dL_law_2534 (by decide) (fun _ => ?_) (fun y => absurd h3 y)
    refine lv_iload X.1.1 X.1.2.1 dL_law_2539 (lv_at hl2 1 rfl) ?_
    have hg : W p K.1 e room_1 s m #[.ref b] below meth c H3 locs3 (cells + 1) (slots + 6) Q (F0 m 2556 ls2 []) := lv_goto (tgt := 2884) X.1.1 X.1.2.1 dL_law_2556 (by decide) (kk _ _ _ _ _ _ _ hH3 hS3 h4 (la_lv (la_lv hl2)))
    exact lv_if_ne (tgt := 2556) X.1.1 X.1.2.1 dL_law_2541 (by decide) (fun _ => hg) (fun y => absurd y (by decide))
theorem lc_50 (X : la_X K p s m meth c b L xs qo qd cl cd) (F : la_F K) (hc : cells + 1 ≤ 1088 ∧ slots + 6 ≤ 17909) (hn : n + 6 ≤ L ∧ L ≤ 3072) (kk : la_T K p e s m below meth c b qo qd cl cd Q n (cells + 1) (slots + 6) 2884) : la_T K p e s m below meth c b qo qd cl cd Q n cells slots 2559 := by
  intro H locs ls I J f g hH hS hR hl
  rcases ca_rotate (K := K) F.1 F.2.1 hR (x := xs (n + 1)) with ⟨r, I2, J2, h1, h2, h3, h4⟩ | ⟨r, I2, J2, h1, h2, h3, h4⟩ | ⟨r, I2, J2, h1, h2, h3, h4⟩
  · refine lv_aload_n X.1.1 X.1.2.1 dL_law_2559 rfl (lv_at hl 1 rfl) ?_
    refine la_arg (j := 1) X hS (lv_at hl 0 rfl) (lv_at hl 5 rfl) (by omega) hn.2 (by decide) dL_law_2560 dL_law_2561 dL_law_2563 dL_law_2564 dL_law_2565 ?_
    refine lv_aload_n X.1.1 X.1.2.1 dL_law_2566 rfl (lv_at hl 3 rfl) ?_
    refine la_callW (M2 := mL_rotate) (n2 := 3) (As := [.ref (cw_a (cc_w K) 0), .int (xs (n + 1)), .ref qo]) (hh := [(0, 9, 12, 29), (0, 9, 15, 13)]) X hH hS (wr_rotate_ok h1) ⟨_, rfl⟩ (by decide +kernel) rfl gT_L_rotate ⟨Nat.le_of_ble_eq_true rfl, Nat.le_of_ble_eq_true rfl⟩ hc hl.1 rfl (Nat.le_of_ble_eq_true rfl) dL_law_2567 (fun H1 locs1 hH1 hS1 => ?_)
    refine lv_istore (lv' := (6, .int 0) :: [(0, .ref b), (1, .ref (cw_a (cc_w K) 0)), (2, .ref (cw_a (cr_w K) 0)), (3, .ref qo), (4, .ref qd), (5, .int (nI n))]) X.1.1 X.1.2.1 dL_law_2570 hl (by decide) rfl (fun ls1 hl1 => ?_)
    refine lv_aload_n X.1.1 X.1.2.1 dL_law_2572 rfl (lv_at hl1 3 rfl) ?_
    refine la_arg (j := 1) X hS1 (lv_at hl1 1 rfl) (lv_at hl1 6 rfl) (by omega) hn.2 (by decide) dL_law_2573 dL_law_2574 dL_law_2576 dL_law_2577 dL_law_2578 ?_
    refine la_callR (As := [.int (xs (n + 1))]) X hH1 hS1 h2 okX11_rotate rfl rfl gT_X11_rotate ⟨Nat.le_of_ble_eq_true rfl, Nat.le_of_ble_eq_true rfl⟩ hc hl1.1 rfl (Nat.le_of_ble_eq_true rfl) dL_law_2579 (fun H2 locs2 hH2 hS2 => ?_)
    refine lv_istore (lv' := (7, .int r) :: (6, .int 0) :: [(0, .ref b), (1, .ref (cw_a (cc_w K) 0)), (2, .ref (cw_a (cr_w K) 0)), (3, .ref qo), (4, .ref qd), (5, .int (nI n))]) X.1.1 X.1.2.1 dL_law_2582 hl1 (by decide) rfl (fun ls2 hl2 => ?_)
    refine lv_aload_n X.1.1 X.1.2.1 dL_law_2584 rfl (lv_at hl2 4 rfl) ?_
    refine la_thrown X hH2 hS2 hc hl2.1 (Nat.le_of_ble_eq_true rfl) dL_law_2585 (fun H3 locs3 hH3 hS3 => ?_)
    refine lv_iload X.1.1 X.1.2.1 dL_law_2588 (lv_at hl2 1 rfl) ?_
    refine lv_icmp_eq (tgt := 2595) X.1.1 X.1.2.1 dL_law_2590 (by decide) (fun _ => ?_) (fun y => absurd h3 y)
    refine lv_iload X.1.1 X.1.2.1 dL_law_2595 (lv_at hl2 1 rfl) ?_
    have hg : W p K.1 e room_1 s m #[.ref b] below meth c H3 locs3 (cells + 1) (slots + 6) Q (F0 m 2612 ls2 []) := lv_goto (tgt := 2884) X.1.1 X.1.2.1 dL_law_2612 (by decide) (kk _ _ _ _ _ _ _ hH3 hS3 h4 (la_lv (la_lv hl2)))
    refine lv_if_ne (tgt := 2612) X.1.1 X.1.2.1 dL_law_2597 (by decide) (fun y => absurd rfl y) (fun _ => ?_)
    refine lv_aload_n X.1.1 X.1.2.1 dL_law_2600 rfl (lv_at hl2 5 rfl) ?_
    refine lv_iconst (v := 0) X.1.1 X.1.2.1 dL_law_2601 (by decide) ?_
    refine va_lald X.1.1 X.1.2.1 X.2.2.2.2.2.2.1 hH3.2.2.1 0 0 rfl rfl (vp_in_nI (n := 0) (N := 1) (by omega) (by omega)) dL_law_2602 ?_
    refine lv_iload X.1.1 X.1.2.1 dL_law_2603 (lv_at hl2 0 rfl) ?_
    refine lv_i2l (v := r.toInt64) X.1.1 X.1.2.1 dL_law_2605 rfl ?_
    refine W.lcmp X.1.1 X.1.2.1 dL_law_2606 ?_
    exact lv_if_eq (tgt := 2612) X.1.1 X.1.2.1 dL_law_2607 (by decide) (fun _ => hg) (fun y => absurd (la_cmp _) y)
  · refine lv_aload_n X.1.1 X.1.2.1 dL_law_2559 rfl (lv_at hl 1 rfl) ?_
    refine la_arg (j := 1) X hS (lv_at hl 0 rfl) (lv_at hl 5 rfl) (by omega) hn.2 (by decide) dL_law_2560 dL_law_2561 dL_law_2563 dL_law_2564 dL_law_2565 ?_
    refine lv_aload_n X.1.1 X.1.2.1 dL_law_2566 rfl (lv_at hl 3 rfl) ?_
    refine la_callW (M2 := mL_rotate) (n2 := 3) (As := [.ref (cw_a (cc_w K) 0), .int (xs (n + 1)), .ref qo]) (hh := [(0, 9, 12, 29), (0, 9, 15, 13)]) X hH hS (wr_rotate_x1 h1) ⟨_, rfl⟩ (by decide +kernel) rfl gT_L_rotate ⟨Nat.le_of_ble_eq_true rfl, Nat.le_of_ble_eq_true rfl⟩ hc hl.1 rfl (Nat.le_of_ble_eq_true rfl) dL_law_2567 (fun H1 locs1 hH1 hS1 => ?_)
    refine lv_istore (lv' := (6, .int 1) :: [(0, .ref b), (1, .ref (cw_a (cc_w K) 0)), (2, .ref (cw_a (cr_w K) 0)), (3, .ref qo), (4, .ref qd), (5, .int (nI n))]) X.1.1 X.1.2.1 dL_law_2570 hl (by decide) rfl (fun ls1 hl1 => ?_)
    refine lv_aload_n X.1.1 X.1.2.1 dL_law_2572 rfl (lv_at hl1 3 rfl) ?_
    refine la_arg (j := 1) X hS1 (lv_at hl1 1 rfl) (lv_at hl1 6 rfl) (by omega) hn.2 (by decide) dL_law_2573 dL_law_2574 dL_law_2576 dL_law_2577 dL_law_2578 ?_
    refine la_callR (As := [.int (xs (n + 1))]) X hH1 hS1 h2 okX11_rotate rfl rfl gT_X11_rotate ⟨Nat.le_of_ble_eq_true rfl, Nat.le_of_ble_eq_true rfl⟩ hc hl1.1 rfl (Nat.le_of_ble_eq_true rfl) dL_law_2579 (fun H2 locs2 hH2 hS2 => ?_)
    refine lv_istore (lv' := (7, .int r) :: (6, .int 1) :: [(0, .ref b), (1, .ref (cw_a (cc_w K) 0)), (2, .ref (cw_a (cr_w K) 0)), (3, .ref qo), (4, .ref qd), (5, .int (nI n))]) X.1.1 X.1.2.1 dL_law_2582 hl1 (by decide) rfl (fun ls2 hl2 => ?_)
    refine lv_aload_n X.1.1 X.1.2.1 dL_law_2584 rfl (lv_at hl2 4 rfl) ?_
    refine la_thrown X hH2 hS2 hc hl2.1 (Nat.le_of_ble_eq_true rfl) dL_law_2585 (fun H3 locs3 hH3 hS3 => ?_)
    refine lv_iload X.1.1 X.1.2.1 dL_law_2588 (lv_at hl2 1 rfl) ?_
    refine lv_icmp_eq (tgt := 2595) X.1.1 X.1.2.1 dL_law_2590 (by decide) (fun _ => ?_) (fun y => absurd h3 y)
    refine lv_iload X.1.1 X.1.2.1 dL_law_2595 (lv_at hl2 1 rfl) ?_
    have hg : W p K.1 e room_1 s m #[.ref b] below meth c H3 locs3 (cells + 1) (slots + 6) Q (F0 m 2612 ls2 []) := lv_goto (tgt := 2884) X.1.1 X.1.2.1 dL_law_2612 (by decide) (kk _ _ _ _ _ _ _ hH3 hS3 h4 (la_lv (la_lv hl2)))
    exact lv_if_ne (tgt := 2612) X.1.1 X.1.2.1 dL_law_2597 (by decide) (fun _ => hg) (fun y => absurd y (by decide))
  · refine lv_aload_n X.1.1 X.1.2.1 dL_law_2559 rfl (lv_at hl 1 rfl) ?_
    refine la_arg (j := 1) X hS (lv_at hl 0 rfl) (lv_at hl 5 rfl) (by omega) hn.2 (by decide) dL_law_2560 dL_law_2561 dL_law_2563 dL_law_2564 dL_law_2565 ?_
    refine lv_aload_n X.1.1 X.1.2.1 dL_law_2566 rfl (lv_at hl 3 rfl) ?_
    refine la_callW (M2 := mL_rotate) (n2 := 3) (As := [.ref (cw_a (cc_w K) 0), .int (xs (n + 1)), .ref qo]) (hh := [(0, 9, 12, 29), (0, 9, 15, 13)]) X hH hS (wr_rotate_x2 h1) ⟨_, rfl⟩ (by decide +kernel) rfl gT_L_rotate ⟨Nat.le_of_ble_eq_true rfl, Nat.le_of_ble_eq_true rfl⟩ hc hl.1 rfl (Nat.le_of_ble_eq_true rfl) dL_law_2567 (fun H1 locs1 hH1 hS1 => ?_)
    refine lv_istore (lv' := (6, .int 2) :: [(0, .ref b), (1, .ref (cw_a (cc_w K) 0)), (2, .ref (cw_a (cr_w K) 0)), (3, .ref qo), (4, .ref qd), (5, .int (nI n))]) X.1.1 X.1.2.1 dL_law_2570 hl (by decide) rfl (fun ls1 hl1 => ?_)
    refine lv_aload_n X.1.1 X.1.2.1 dL_law_2572 rfl (lv_at hl1 3 rfl) ?_
    refine la_arg (j := 1) X hS1 (lv_at hl1 1 rfl) (lv_at hl1 6 rfl) (by omega) hn.2 (by decide) dL_law_2573 dL_law_2574 dL_law_2576 dL_law_2577 dL_law_2578 ?_
    refine la_callR (As := [.int (xs (n + 1))]) X hH1 hS1 h2 okX11_rotate rfl rfl gT_X11_rotate ⟨Nat.le_of_ble_eq_true rfl, Nat.le_of_ble_eq_true rfl⟩ hc hl1.1 rfl (Nat.le_of_ble_eq_true rfl) dL_law_2579 (fun H2 locs2 hH2 hS2 => ?_)
    refine lv_istore (lv' := (7, .int r) :: (6, .int 2) :: [(0, .ref b), (1, .ref (cw_a (cc_w K) 0)), (2, .ref (cw_a (cr_w K) 0)), (3, .ref qo), (4, .ref qd), (5, .int (nI n))]) X.1.1 X.1.2.1 dL_law_2582 hl1 (by decide) rfl (fun ls2 hl2 => ?_)
    refine lv_aload_n X.1.1 X.1.2.1 dL_law_2584 rfl (lv_at hl2 4 rfl) ?_
    refine la_thrown X hH2 hS2 hc hl2.1 (Nat.le_of_ble_eq_true rfl) dL_law_2585 (fun H3 locs3 hH3 hS3 => ?_)
    refine lv_iload X.1.1 X.1.2.1 dL_law_2588 (lv_at hl2 1 rfl) ?_
    refine lv_icmp_eq (tgt := 2595) X.1.1 X.1.2.1 dL_law_2590 (by decide) (fun _ => ?_) (fun y => absurd h3 y)
    refine lv_iload X.1.1 X.1.2.1 dL_law_2595 (lv_at hl2 1 rfl) ?_
    have hg : W p K.1 e room_1 s m #[.ref b] below meth c H3 locs3 (cells + 1) (slots + 6) Q (F0 m 2612 ls2 []) := lv_goto (tgt := 2884) X.1.1 X.1.2.1 dL_law_2612 (by decide) (kk _ _ _ _ _ _ _ hH3 hS3 h4 (la_lv (la_lv hl2)))
    exact lv_if_ne (tgt := 2612) X.1.1 X.1.2.1 dL_law_2597 (by decide) (fun _ => hg) (fun y => absurd y (by decide))
theorem lc_51 (X : la_X K p s m meth c b L xs qo qd cl cd) (F : la_F K) (hc : cells + 1 ≤ 1088 ∧ slots + 6 ≤ 17909) (hn : n + 6 ≤ L ∧ L ≤ 3072) (kk : la_T K p e s m below meth c b qo qd cl cd Q n (cells + 1) (slots + 6) 2884) : la_T K p e s m below meth c b qo qd cl cd Q n cells slots 2615 := by
  intro H locs ls I J f g hH hS hR hl
  rcases ca_runScript (K := K) F.1 F.2.1 F.2.2.1 F.2.2.2.2 F.2.2.2.1 hR with ⟨r, I2, J2, h1, h2, h3, h4⟩ | ⟨r, I2, J2, h1, h2, h3, h4⟩
  · refine lv_aload_n X.1.1 X.1.2.1 dL_law_2615 rfl (lv_at hl 1 rfl) ?_
    refine lv_aload_n X.1.1 X.1.2.1 dL_law_2616 rfl (lv_at hl 3 rfl) ?_
    refine la_callW (M2 := mL_runScript) (n2 := 2) (As := [.ref (cw_a (cc_w K) 0), .ref qo]) (hh := [(0, 8, 11, 19)]) X hH hS (wr_runScript_ok h1) (nse_head (by decide +kernel)) (by decide +kernel) rfl gT_L_runScript ⟨Nat.le_of_ble_eq_true rfl, Nat.le_of_ble_eq_true rfl⟩ hc hl.1 rfl (Nat.le_of_ble_eq_true rfl) dL_law_2617 (fun H1 locs1 hH1 hS1 => ?_)
    refine lv_istore (lv' := (6, .int 0) :: [(0, .ref b), (1, .ref (cw_a (cc_w K) 0)), (2, .ref (cw_a (cr_w K) 0)), (3, .ref qo), (4, .ref qd), (5, .int (nI n))]) X.1.1 X.1.2.1 dL_law_2620 hl (by decide) rfl (fun ls1 hl1 => ?_)
    refine lv_aload_n X.1.1 X.1.2.1 dL_law_2622 rfl (lv_at hl1 3 rfl) ?_
    refine la_callR (As := []) X hH1 hS1 h2 okX11_runScript rfl rfl gT_X11_runScript ⟨Nat.le_of_ble_eq_true rfl, Nat.le_of_ble_eq_true rfl⟩ hc hl1.1 rfl (Nat.le_of_ble_eq_true rfl) dL_law_2623 (fun H2 locs2 hH2 hS2 => ?_)
    refine lv_istore (lv' := (7, .int r) :: (6, .int 0) :: [(0, .ref b), (1, .ref (cw_a (cc_w K) 0)), (2, .ref (cw_a (cr_w K) 0)), (3, .ref qo), (4, .ref qd), (5, .int (nI n))]) X.1.1 X.1.2.1 dL_law_2626 hl1 (by decide) rfl (fun ls2 hl2 => ?_)
    refine lv_aload_n X.1.1 X.1.2.1 dL_law_2628 rfl (lv_at hl2 4 rfl) ?_
    refine la_thrown X hH2 hS2 hc hl2.1 (Nat.le_of_ble_eq_true rfl) dL_law_2629 (fun H3 locs3 hH3 hS3 => ?_)
    refine lv_iload X.1.1 X.1.2.1 dL_law_2632 (lv_at hl2 1 rfl) ?_
    refine lv_icmp_eq (tgt := 2639) X.1.1 X.1.2.1 dL_law_2634 (by decide) (fun _ => ?_) (fun y => absurd h3 y)
    refine lv_iload X.1.1 X.1.2.1 dL_law_2639 (lv_at hl2 1 rfl) ?_
    have hg : W p K.1 e room_1 s m #[.ref b] below meth c H3 locs3 (cells + 1) (slots + 6) Q (F0 m 2656 ls2 []) := lv_goto (tgt := 2884) X.1.1 X.1.2.1 dL_law_2656 (by decide) (kk _ _ _ _ _ _ _ hH3 hS3 h4 (la_lv (la_lv hl2)))
    refine lv_if_ne (tgt := 2656) X.1.1 X.1.2.1 dL_law_2641 (by decide) (fun y => absurd rfl y) (fun _ => ?_)
    refine lv_aload_n X.1.1 X.1.2.1 dL_law_2644 rfl (lv_at hl2 5 rfl) ?_
    refine lv_iconst (v := 0) X.1.1 X.1.2.1 dL_law_2645 (by decide) ?_
    refine va_lald X.1.1 X.1.2.1 X.2.2.2.2.2.2.1 hH3.2.2.1 0 0 rfl rfl (vp_in_nI (n := 0) (N := 1) (by omega) (by omega)) dL_law_2646 ?_
    refine lv_iload X.1.1 X.1.2.1 dL_law_2647 (lv_at hl2 0 rfl) ?_
    refine lv_i2l (v := r.toInt64) X.1.1 X.1.2.1 dL_law_2649 rfl ?_
    refine W.lcmp X.1.1 X.1.2.1 dL_law_2650 ?_
    exact lv_if_eq (tgt := 2656) X.1.1 X.1.2.1 dL_law_2651 (by decide) (fun _ => hg) (fun y => absurd (la_cmp _) y)
  · refine lv_aload_n X.1.1 X.1.2.1 dL_law_2615 rfl (lv_at hl 1 rfl) ?_
    refine lv_aload_n X.1.1 X.1.2.1 dL_law_2616 rfl (lv_at hl 3 rfl) ?_
    refine la_callW (M2 := mL_runScript) (n2 := 2) (As := [.ref (cw_a (cc_w K) 0), .ref qo]) (hh := [(0, 8, 11, 19)]) X hH hS (wr_runScript_x1 h1) (nse_head (by decide +kernel)) (by decide +kernel) rfl gT_L_runScript ⟨Nat.le_of_ble_eq_true rfl, Nat.le_of_ble_eq_true rfl⟩ hc hl.1 rfl (Nat.le_of_ble_eq_true rfl) dL_law_2617 (fun H1 locs1 hH1 hS1 => ?_)
    refine lv_istore (lv' := (6, .int 1) :: [(0, .ref b), (1, .ref (cw_a (cc_w K) 0)), (2, .ref (cw_a (cr_w K) 0)), (3, .ref qo), (4, .ref qd), (5, .int (nI n))]) X.1.1 X.1.2.1 dL_law_2620 hl (by decide) rfl (fun ls1 hl1 => ?_)
    refine lv_aload_n X.1.1 X.1.2.1 dL_law_2622 rfl (lv_at hl1 3 rfl) ?_
    refine la_callR (As := []) X hH1 hS1 h2 okX11_runScript rfl rfl gT_X11_runScript ⟨Nat.le_of_ble_eq_true rfl, Nat.le_of_ble_eq_true rfl⟩ hc hl1.1 rfl (Nat.le_of_ble_eq_true rfl) dL_law_2623 (fun H2 locs2 hH2 hS2 => ?_)
    refine lv_istore (lv' := (7, .int r) :: (6, .int 1) :: [(0, .ref b), (1, .ref (cw_a (cc_w K) 0)), (2, .ref (cw_a (cr_w K) 0)), (3, .ref qo), (4, .ref qd), (5, .int (nI n))]) X.1.1 X.1.2.1 dL_law_2626 hl1 (by decide) rfl (fun ls2 hl2 => ?_)
    refine lv_aload_n X.1.1 X.1.2.1 dL_law_2628 rfl (lv_at hl2 4 rfl) ?_
    refine la_thrown X hH2 hS2 hc hl2.1 (Nat.le_of_ble_eq_true rfl) dL_law_2629 (fun H3 locs3 hH3 hS3 => ?_)
    refine lv_iload X.1.1 X.1.2.1 dL_law_2632 (lv_at hl2 1 rfl) ?_
    refine lv_icmp_eq (tgt := 2639) X.1.1 X.1.2.1 dL_law_2634 (by decide) (fun _ => ?_) (fun y => absurd h3 y)
    refine lv_iload X.1.1 X.1.2.1 dL_law_2639 (lv_at hl2 1 rfl) ?_
    have hg : W p K.1 e room_1 s m #[.ref b] below meth c H3 locs3 (cells + 1) (slots + 6) Q (F0 m 2656 ls2 []) := lv_goto (tgt := 2884) X.1.1 X.1.2.1 dL_law_2656 (by decide) (kk _ _ _ _ _ _ _ hH3 hS3 h4 (la_lv (la_lv hl2)))
    exact lv_if_ne (tgt := 2656) X.1.1 X.1.2.1 dL_law_2641 (by decide) (fun _ => hg) (fun y => absurd y (by decide))
theorem lc_52 (X : la_X K p s m meth c b L xs qo qd cl cd) (F : la_F K) (hc : cells + 1 ≤ 1088 ∧ slots + 6 ≤ 17909) (hn : n + 6 ≤ L ∧ L ≤ 3072) (kk : la_T K p e s m below meth c b qo qd cl cd Q n (cells + 1) (slots + 6) 2884) : la_T K p e s m below meth c b qo qd cl cd Q n cells slots 2659 := by
  intro H locs ls I J f g hH hS hR hl
  rcases ca_undo (K := K) F.1 F.2.1 hR with ⟨r, I2, J2, h1, h2, h3, h4⟩ | ⟨r, I2, J2, h1, h2, h3, h4⟩
  · refine lv_aload_n X.1.1 X.1.2.1 dL_law_2659 rfl (lv_at hl 1 rfl) ?_
    refine lv_aload_n X.1.1 X.1.2.1 dL_law_2660 rfl (lv_at hl 3 rfl) ?_
    refine la_callW (M2 := mL_undo) (n2 := 2) (As := [.ref (cw_a (cc_w K) 0), .ref qo]) (hh := [(0, 8, 11, 13)]) X hH hS (wr_undo_ok h1) ⟨_, rfl⟩ (by decide +kernel) rfl gT_L_undo ⟨Nat.le_of_ble_eq_true rfl, Nat.le_of_ble_eq_true rfl⟩ hc hl.1 rfl (Nat.le_of_ble_eq_true rfl) dL_law_2661 (fun H1 locs1 hH1 hS1 => ?_)
    refine lv_istore (lv' := (6, .int 0) :: [(0, .ref b), (1, .ref (cw_a (cc_w K) 0)), (2, .ref (cw_a (cr_w K) 0)), (3, .ref qo), (4, .ref qd), (5, .int (nI n))]) X.1.1 X.1.2.1 dL_law_2664 hl (by decide) rfl (fun ls1 hl1 => ?_)
    refine lv_aload_n X.1.1 X.1.2.1 dL_law_2666 rfl (lv_at hl1 3 rfl) ?_
    refine la_callR (As := []) X hH1 hS1 h2 okX11_undo rfl rfl gT_X11_undo ⟨Nat.le_of_ble_eq_true rfl, Nat.le_of_ble_eq_true rfl⟩ hc hl1.1 rfl (Nat.le_of_ble_eq_true rfl) dL_law_2667 (fun H2 locs2 hH2 hS2 => ?_)
    refine lv_istore (lv' := (7, .int r) :: (6, .int 0) :: [(0, .ref b), (1, .ref (cw_a (cc_w K) 0)), (2, .ref (cw_a (cr_w K) 0)), (3, .ref qo), (4, .ref qd), (5, .int (nI n))]) X.1.1 X.1.2.1 dL_law_2670 hl1 (by decide) rfl (fun ls2 hl2 => ?_)
    refine lv_aload_n X.1.1 X.1.2.1 dL_law_2672 rfl (lv_at hl2 4 rfl) ?_
    refine la_thrown X hH2 hS2 hc hl2.1 (Nat.le_of_ble_eq_true rfl) dL_law_2673 (fun H3 locs3 hH3 hS3 => ?_)
    refine lv_iload X.1.1 X.1.2.1 dL_law_2676 (lv_at hl2 1 rfl) ?_
    refine lv_icmp_eq (tgt := 2683) X.1.1 X.1.2.1 dL_law_2678 (by decide) (fun _ => ?_) (fun y => absurd h3 y)
    refine lv_iload X.1.1 X.1.2.1 dL_law_2683 (lv_at hl2 1 rfl) ?_
    have hg : W p K.1 e room_1 s m #[.ref b] below meth c H3 locs3 (cells + 1) (slots + 6) Q (F0 m 2700 ls2 []) := lv_goto (tgt := 2884) X.1.1 X.1.2.1 dL_law_2700 (by decide) (kk _ _ _ _ _ _ _ hH3 hS3 h4 (la_lv (la_lv hl2)))
    refine lv_if_ne (tgt := 2700) X.1.1 X.1.2.1 dL_law_2685 (by decide) (fun y => absurd rfl y) (fun _ => ?_)
    refine lv_aload_n X.1.1 X.1.2.1 dL_law_2688 rfl (lv_at hl2 5 rfl) ?_
    refine lv_iconst (v := 0) X.1.1 X.1.2.1 dL_law_2689 (by decide) ?_
    refine va_lald X.1.1 X.1.2.1 X.2.2.2.2.2.2.1 hH3.2.2.1 0 0 rfl rfl (vp_in_nI (n := 0) (N := 1) (by omega) (by omega)) dL_law_2690 ?_
    refine lv_iload X.1.1 X.1.2.1 dL_law_2691 (lv_at hl2 0 rfl) ?_
    refine lv_i2l (v := r.toInt64) X.1.1 X.1.2.1 dL_law_2693 rfl ?_
    refine W.lcmp X.1.1 X.1.2.1 dL_law_2694 ?_
    exact lv_if_eq (tgt := 2700) X.1.1 X.1.2.1 dL_law_2695 (by decide) (fun _ => hg) (fun y => absurd (la_cmp _) y)
  · refine lv_aload_n X.1.1 X.1.2.1 dL_law_2659 rfl (lv_at hl 1 rfl) ?_
    refine lv_aload_n X.1.1 X.1.2.1 dL_law_2660 rfl (lv_at hl 3 rfl) ?_
    refine la_callW (M2 := mL_undo) (n2 := 2) (As := [.ref (cw_a (cc_w K) 0), .ref qo]) (hh := [(0, 8, 11, 13)]) X hH hS (wr_undo_x1 h1) ⟨_, rfl⟩ (by decide +kernel) rfl gT_L_undo ⟨Nat.le_of_ble_eq_true rfl, Nat.le_of_ble_eq_true rfl⟩ hc hl.1 rfl (Nat.le_of_ble_eq_true rfl) dL_law_2661 (fun H1 locs1 hH1 hS1 => ?_)
    refine lv_istore (lv' := (6, .int 1) :: [(0, .ref b), (1, .ref (cw_a (cc_w K) 0)), (2, .ref (cw_a (cr_w K) 0)), (3, .ref qo), (4, .ref qd), (5, .int (nI n))]) X.1.1 X.1.2.1 dL_law_2664 hl (by decide) rfl (fun ls1 hl1 => ?_)
    refine lv_aload_n X.1.1 X.1.2.1 dL_law_2666 rfl (lv_at hl1 3 rfl) ?_
    refine la_callR (As := []) X hH1 hS1 h2 okX11_undo rfl rfl gT_X11_undo ⟨Nat.le_of_ble_eq_true rfl, Nat.le_of_ble_eq_true rfl⟩ hc hl1.1 rfl (Nat.le_of_ble_eq_true rfl) dL_law_2667 (fun H2 locs2 hH2 hS2 => ?_)
    refine lv_istore (lv' := (7, .int r) :: (6, .int 1) :: [(0, .ref b), (1, .ref (cw_a (cc_w K) 0)), (2, .ref (cw_a (cr_w K) 0)), (3, .ref qo), (4, .ref qd), (5, .int (nI n))]) X.1.1 X.1.2.1 dL_law_2670 hl1 (by decide) rfl (fun ls2 hl2 => ?_)
    refine lv_aload_n X.1.1 X.1.2.1 dL_law_2672 rfl (lv_at hl2 4 rfl) ?_
    refine la_thrown X hH2 hS2 hc hl2.1 (Nat.le_of_ble_eq_true rfl) dL_law_2673 (fun H3 locs3 hH3 hS3 => ?_)
    refine lv_iload X.1.1 X.1.2.1 dL_law_2676 (lv_at hl2 1 rfl) ?_
    refine lv_icmp_eq (tgt := 2683) X.1.1 X.1.2.1 dL_law_2678 (by decide) (fun _ => ?_) (fun y => absurd h3 y)
    refine lv_iload X.1.1 X.1.2.1 dL_law_2683 (lv_at hl2 1 rfl) ?_
    have hg : W p K.1 e room_1 s m #[.ref b] below meth c H3 locs3 (cells + 1) (slots + 6) Q (F0 m 2700 ls2 []) := lv_goto (tgt := 2884) X.1.1 X.1.2.1 dL_law_2700 (by decide) (kk _ _ _ _ _ _ _ hH3 hS3 h4 (la_lv (la_lv hl2)))
    exact lv_if_ne (tgt := 2700) X.1.1 X.1.2.1 dL_law_2685 (by decide) (fun _ => hg) (fun y => absurd y (by decide))
theorem lc_53 (X : la_X K p s m meth c b L xs qo qd cl cd) (F : la_F K) (hc : cells + 1 ≤ 1088 ∧ slots + 6 ≤ 17909) (hn : n + 6 ≤ L ∧ L ≤ 3072) (kk : la_T K p e s m below meth c b qo qd cl cd Q n (cells + 1) (slots + 6) 2884) : la_T K p e s m below meth c b qo qd cl cd Q n cells slots 2703 := by
  intro H locs ls I J f g hH hS hR hl
  rcases ca_save (K := K) F.1 F.2.1 hR (x := xs (n + 1)) with ⟨r, I2, J2, h1, h2, h3, h4⟩ | ⟨r, I2, J2, h1, h2, h3, h4⟩
  · refine lv_aload_n X.1.1 X.1.2.1 dL_law_2703 rfl (lv_at hl 1 rfl) ?_
    refine la_arg (j := 1) X hS (lv_at hl 0 rfl) (lv_at hl 5 rfl) (by omega) hn.2 (by decide) dL_law_2704 dL_law_2705 dL_law_2707 dL_law_2708 dL_law_2709 ?_
    refine lv_aload_n X.1.1 X.1.2.1 dL_law_2710 rfl (lv_at hl 3 rfl) ?_
    refine la_callW (M2 := mL_save) (n2 := 3) (As := [.ref (cw_a (cc_w K) 0), .int (xs (n + 1)), .ref qo]) (hh := [(0, 9, 12, 29)]) X hH hS (wr_save_ok h1) ⟨_, rfl⟩ (by decide +kernel) rfl gT_L_save ⟨Nat.le_of_ble_eq_true rfl, Nat.le_of_ble_eq_true rfl⟩ hc hl.1 rfl (Nat.le_of_ble_eq_true rfl) dL_law_2711 (fun H1 locs1 hH1 hS1 => ?_)
    refine lv_istore (lv' := (6, .int 0) :: [(0, .ref b), (1, .ref (cw_a (cc_w K) 0)), (2, .ref (cw_a (cr_w K) 0)), (3, .ref qo), (4, .ref qd), (5, .int (nI n))]) X.1.1 X.1.2.1 dL_law_2714 hl (by decide) rfl (fun ls1 hl1 => ?_)
    refine lv_aload_n X.1.1 X.1.2.1 dL_law_2716 rfl (lv_at hl1 3 rfl) ?_
    refine la_arg (j := 1) X hS1 (lv_at hl1 1 rfl) (lv_at hl1 6 rfl) (by omega) hn.2 (by decide) dL_law_2717 dL_law_2718 dL_law_2720 dL_law_2721 dL_law_2722 ?_
    refine la_callR (As := [.int (xs (n + 1))]) X hH1 hS1 h2 okX11_save rfl rfl gT_X11_save ⟨Nat.le_of_ble_eq_true rfl, Nat.le_of_ble_eq_true rfl⟩ hc hl1.1 rfl (Nat.le_of_ble_eq_true rfl) dL_law_2723 (fun H2 locs2 hH2 hS2 => ?_)
    refine lv_istore (lv' := (7, .int r) :: (6, .int 0) :: [(0, .ref b), (1, .ref (cw_a (cc_w K) 0)), (2, .ref (cw_a (cr_w K) 0)), (3, .ref qo), (4, .ref qd), (5, .int (nI n))]) X.1.1 X.1.2.1 dL_law_2726 hl1 (by decide) rfl (fun ls2 hl2 => ?_)
    refine lv_aload_n X.1.1 X.1.2.1 dL_law_2728 rfl (lv_at hl2 4 rfl) ?_
    refine la_thrown X hH2 hS2 hc hl2.1 (Nat.le_of_ble_eq_true rfl) dL_law_2729 (fun H3 locs3 hH3 hS3 => ?_)
    refine lv_iload X.1.1 X.1.2.1 dL_law_2732 (lv_at hl2 1 rfl) ?_
    refine lv_icmp_eq (tgt := 2739) X.1.1 X.1.2.1 dL_law_2734 (by decide) (fun _ => ?_) (fun y => absurd h3 y)
    refine lv_iload X.1.1 X.1.2.1 dL_law_2739 (lv_at hl2 1 rfl) ?_
    have hg : W p K.1 e room_1 s m #[.ref b] below meth c H3 locs3 (cells + 1) (slots + 6) Q (F0 m 2756 ls2 []) := lv_goto (tgt := 2884) X.1.1 X.1.2.1 dL_law_2756 (by decide) (kk _ _ _ _ _ _ _ hH3 hS3 h4 (la_lv (la_lv hl2)))
    refine lv_if_ne (tgt := 2756) X.1.1 X.1.2.1 dL_law_2741 (by decide) (fun y => absurd rfl y) (fun _ => ?_)
    refine lv_aload_n X.1.1 X.1.2.1 dL_law_2744 rfl (lv_at hl2 5 rfl) ?_
    refine lv_iconst (v := 0) X.1.1 X.1.2.1 dL_law_2745 (by decide) ?_
    refine va_lald X.1.1 X.1.2.1 X.2.2.2.2.2.2.1 hH3.2.2.1 0 0 rfl rfl (vp_in_nI (n := 0) (N := 1) (by omega) (by omega)) dL_law_2746 ?_
    refine lv_iload X.1.1 X.1.2.1 dL_law_2747 (lv_at hl2 0 rfl) ?_
    refine lv_i2l (v := r.toInt64) X.1.1 X.1.2.1 dL_law_2749 rfl ?_
    refine W.lcmp X.1.1 X.1.2.1 dL_law_2750 ?_
    exact lv_if_eq (tgt := 2756) X.1.1 X.1.2.1 dL_law_2751 (by decide) (fun _ => hg) (fun y => absurd (la_cmp _) y)
  · refine lv_aload_n X.1.1 X.1.2.1 dL_law_2703 rfl (lv_at hl 1 rfl) ?_
    refine la_arg (j := 1) X hS (lv_at hl 0 rfl) (lv_at hl 5 rfl) (by omega) hn.2 (by decide) dL_law_2704 dL_law_2705 dL_law_2707 dL_law_2708 dL_law_2709 ?_
    refine lv_aload_n X.1.1 X.1.2.1 dL_law_2710 rfl (lv_at hl 3 rfl) ?_
    refine la_callW (M2 := mL_save) (n2 := 3) (As := [.ref (cw_a (cc_w K) 0), .int (xs (n + 1)), .ref qo]) (hh := [(0, 9, 12, 29)]) X hH hS (wr_save_x1 h1) ⟨_, rfl⟩ (by decide +kernel) rfl gT_L_save ⟨Nat.le_of_ble_eq_true rfl, Nat.le_of_ble_eq_true rfl⟩ hc hl.1 rfl (Nat.le_of_ble_eq_true rfl) dL_law_2711 (fun H1 locs1 hH1 hS1 => ?_)
    refine lv_istore (lv' := (6, .int 1) :: [(0, .ref b), (1, .ref (cw_a (cc_w K) 0)), (2, .ref (cw_a (cr_w K) 0)), (3, .ref qo), (4, .ref qd), (5, .int (nI n))]) X.1.1 X.1.2.1 dL_law_2714 hl (by decide) rfl (fun ls1 hl1 => ?_)
    refine lv_aload_n X.1.1 X.1.2.1 dL_law_2716 rfl (lv_at hl1 3 rfl) ?_
    refine la_arg (j := 1) X hS1 (lv_at hl1 1 rfl) (lv_at hl1 6 rfl) (by omega) hn.2 (by decide) dL_law_2717 dL_law_2718 dL_law_2720 dL_law_2721 dL_law_2722 ?_
    refine la_callR (As := [.int (xs (n + 1))]) X hH1 hS1 h2 okX11_save rfl rfl gT_X11_save ⟨Nat.le_of_ble_eq_true rfl, Nat.le_of_ble_eq_true rfl⟩ hc hl1.1 rfl (Nat.le_of_ble_eq_true rfl) dL_law_2723 (fun H2 locs2 hH2 hS2 => ?_)
    refine lv_istore (lv' := (7, .int r) :: (6, .int 1) :: [(0, .ref b), (1, .ref (cw_a (cc_w K) 0)), (2, .ref (cw_a (cr_w K) 0)), (3, .ref qo), (4, .ref qd), (5, .int (nI n))]) X.1.1 X.1.2.1 dL_law_2726 hl1 (by decide) rfl (fun ls2 hl2 => ?_)
    refine lv_aload_n X.1.1 X.1.2.1 dL_law_2728 rfl (lv_at hl2 4 rfl) ?_
    refine la_thrown X hH2 hS2 hc hl2.1 (Nat.le_of_ble_eq_true rfl) dL_law_2729 (fun H3 locs3 hH3 hS3 => ?_)
    refine lv_iload X.1.1 X.1.2.1 dL_law_2732 (lv_at hl2 1 rfl) ?_
    refine lv_icmp_eq (tgt := 2739) X.1.1 X.1.2.1 dL_law_2734 (by decide) (fun _ => ?_) (fun y => absurd h3 y)
    refine lv_iload X.1.1 X.1.2.1 dL_law_2739 (lv_at hl2 1 rfl) ?_
    have hg : W p K.1 e room_1 s m #[.ref b] below meth c H3 locs3 (cells + 1) (slots + 6) Q (F0 m 2756 ls2 []) := lv_goto (tgt := 2884) X.1.1 X.1.2.1 dL_law_2756 (by decide) (kk _ _ _ _ _ _ _ hH3 hS3 h4 (la_lv (la_lv hl2)))
    exact lv_if_ne (tgt := 2756) X.1.1 X.1.2.1 dL_law_2741 (by decide) (fun _ => hg) (fun y => absurd y (by decide))
theorem lc_54 (X : la_X K p s m meth c b L xs qo qd cl cd) (F : la_F K) (hc : cells + 1 ≤ 1088 ∧ slots + 6 ≤ 17909) (hn : n + 6 ≤ L ∧ L ≤ 3072) (kk : la_T K p e s m below meth c b qo qd cl cd Q n (cells + 1) (slots + 6) 2884) : la_T K p e s m below meth c b qo qd cl cd Q n cells slots 2759 := by
  intro H locs ls I J f g hH hS hR hl
  rcases ca_restore (K := K) F.1 F.2.1 hR (x := xs (n + 1)) with ⟨r, I2, J2, h1, h2, h3, h4⟩ | ⟨r, I2, J2, h1, h2, h3, h4⟩ | ⟨r, I2, J2, h1, h2, h3, h4⟩
  · refine lv_aload_n X.1.1 X.1.2.1 dL_law_2759 rfl (lv_at hl 1 rfl) ?_
    refine la_arg (j := 1) X hS (lv_at hl 0 rfl) (lv_at hl 5 rfl) (by omega) hn.2 (by decide) dL_law_2760 dL_law_2761 dL_law_2763 dL_law_2764 dL_law_2765 ?_
    refine lv_aload_n X.1.1 X.1.2.1 dL_law_2766 rfl (lv_at hl 3 rfl) ?_
    refine la_callW (M2 := mL_restore) (n2 := 3) (As := [.ref (cw_a (cc_w K) 0), .int (xs (n + 1)), .ref qo]) (hh := [(0, 9, 12, 29), (0, 9, 15, 13)]) X hH hS (wr_restore_ok h1) ⟨_, rfl⟩ (by decide +kernel) rfl gT_L_restore ⟨Nat.le_of_ble_eq_true rfl, Nat.le_of_ble_eq_true rfl⟩ hc hl.1 rfl (Nat.le_of_ble_eq_true rfl) dL_law_2767 (fun H1 locs1 hH1 hS1 => ?_)
    refine lv_istore (lv' := (6, .int 0) :: [(0, .ref b), (1, .ref (cw_a (cc_w K) 0)), (2, .ref (cw_a (cr_w K) 0)), (3, .ref qo), (4, .ref qd), (5, .int (nI n))]) X.1.1 X.1.2.1 dL_law_2770 hl (by decide) rfl (fun ls1 hl1 => ?_)
    refine lv_aload_n X.1.1 X.1.2.1 dL_law_2772 rfl (lv_at hl1 3 rfl) ?_
    refine la_arg (j := 1) X hS1 (lv_at hl1 1 rfl) (lv_at hl1 6 rfl) (by omega) hn.2 (by decide) dL_law_2773 dL_law_2774 dL_law_2776 dL_law_2777 dL_law_2778 ?_
    refine la_callR (As := [.int (xs (n + 1))]) X hH1 hS1 h2 okX11_restore rfl rfl gT_X11_restore ⟨Nat.le_of_ble_eq_true rfl, Nat.le_of_ble_eq_true rfl⟩ hc hl1.1 rfl (Nat.le_of_ble_eq_true rfl) dL_law_2779 (fun H2 locs2 hH2 hS2 => ?_)
    refine lv_istore (lv' := (7, .int r) :: (6, .int 0) :: [(0, .ref b), (1, .ref (cw_a (cc_w K) 0)), (2, .ref (cw_a (cr_w K) 0)), (3, .ref qo), (4, .ref qd), (5, .int (nI n))]) X.1.1 X.1.2.1 dL_law_2782 hl1 (by decide) rfl (fun ls2 hl2 => ?_)
    refine lv_aload_n X.1.1 X.1.2.1 dL_law_2784 rfl (lv_at hl2 4 rfl) ?_
    refine la_thrown X hH2 hS2 hc hl2.1 (Nat.le_of_ble_eq_true rfl) dL_law_2785 (fun H3 locs3 hH3 hS3 => ?_)
    refine lv_iload X.1.1 X.1.2.1 dL_law_2788 (lv_at hl2 1 rfl) ?_
    refine lv_icmp_eq (tgt := 2795) X.1.1 X.1.2.1 dL_law_2790 (by decide) (fun _ => ?_) (fun y => absurd h3 y)
    refine lv_iload X.1.1 X.1.2.1 dL_law_2795 (lv_at hl2 1 rfl) ?_
    have hg : W p K.1 e room_1 s m #[.ref b] below meth c H3 locs3 (cells + 1) (slots + 6) Q (F0 m 2812 ls2 []) := lv_goto (tgt := 2884) X.1.1 X.1.2.1 dL_law_2812 (by decide) (kk _ _ _ _ _ _ _ hH3 hS3 h4 (la_lv (la_lv hl2)))
    refine lv_if_ne (tgt := 2812) X.1.1 X.1.2.1 dL_law_2797 (by decide) (fun y => absurd rfl y) (fun _ => ?_)
    refine lv_aload_n X.1.1 X.1.2.1 dL_law_2800 rfl (lv_at hl2 5 rfl) ?_
    refine lv_iconst (v := 0) X.1.1 X.1.2.1 dL_law_2801 (by decide) ?_
    refine va_lald X.1.1 X.1.2.1 X.2.2.2.2.2.2.1 hH3.2.2.1 0 0 rfl rfl (vp_in_nI (n := 0) (N := 1) (by omega) (by omega)) dL_law_2802 ?_
    refine lv_iload X.1.1 X.1.2.1 dL_law_2803 (lv_at hl2 0 rfl) ?_
    refine lv_i2l (v := r.toInt64) X.1.1 X.1.2.1 dL_law_2805 rfl ?_
    refine W.lcmp X.1.1 X.1.2.1 dL_law_2806 ?_
    exact lv_if_eq (tgt := 2812) X.1.1 X.1.2.1 dL_law_2807 (by decide) (fun _ => hg) (fun y => absurd (la_cmp _) y)
  · refine lv_aload_n X.1.1 X.1.2.1 dL_law_2759 rfl (lv_at hl 1 rfl) ?_
    refine la_arg (j := 1) X hS (lv_at hl 0 rfl) (lv_at hl 5 rfl) (by omega) hn.2 (by decide) dL_law_2760 dL_law_2761 dL_law_2763 dL_law_2764 dL_law_2765 ?_
    refine lv_aload_n X.1.1 X.1.2.1 dL_law_2766 rfl (lv_at hl 3 rfl) ?_
    refine la_callW (M2 := mL_restore) (n2 := 3) (As := [.ref (cw_a (cc_w K) 0), .int (xs (n + 1)), .ref qo]) (hh := [(0, 9, 12, 29), (0, 9, 15, 13)]) X hH hS (wr_restore_x1 h1) ⟨_, rfl⟩ (by decide +kernel) rfl gT_L_restore ⟨Nat.le_of_ble_eq_true rfl, Nat.le_of_ble_eq_true rfl⟩ hc hl.1 rfl (Nat.le_of_ble_eq_true rfl) dL_law_2767 (fun H1 locs1 hH1 hS1 => ?_)
    refine lv_istore (lv' := (6, .int 1) :: [(0, .ref b), (1, .ref (cw_a (cc_w K) 0)), (2, .ref (cw_a (cr_w K) 0)), (3, .ref qo), (4, .ref qd), (5, .int (nI n))]) X.1.1 X.1.2.1 dL_law_2770 hl (by decide) rfl (fun ls1 hl1 => ?_)
    refine lv_aload_n X.1.1 X.1.2.1 dL_law_2772 rfl (lv_at hl1 3 rfl) ?_
    refine la_arg (j := 1) X hS1 (lv_at hl1 1 rfl) (lv_at hl1 6 rfl) (by omega) hn.2 (by decide) dL_law_2773 dL_law_2774 dL_law_2776 dL_law_2777 dL_law_2778 ?_
    refine la_callR (As := [.int (xs (n + 1))]) X hH1 hS1 h2 okX11_restore rfl rfl gT_X11_restore ⟨Nat.le_of_ble_eq_true rfl, Nat.le_of_ble_eq_true rfl⟩ hc hl1.1 rfl (Nat.le_of_ble_eq_true rfl) dL_law_2779 (fun H2 locs2 hH2 hS2 => ?_)
    refine lv_istore (lv' := (7, .int r) :: (6, .int 1) :: [(0, .ref b), (1, .ref (cw_a (cc_w K) 0)), (2, .ref (cw_a (cr_w K) 0)), (3, .ref qo), (4, .ref qd), (5, .int (nI n))]) X.1.1 X.1.2.1 dL_law_2782 hl1 (by decide) rfl (fun ls2 hl2 => ?_)
    refine lv_aload_n X.1.1 X.1.2.1 dL_law_2784 rfl (lv_at hl2 4 rfl) ?_
    refine la_thrown X hH2 hS2 hc hl2.1 (Nat.le_of_ble_eq_true rfl) dL_law_2785 (fun H3 locs3 hH3 hS3 => ?_)
    refine lv_iload X.1.1 X.1.2.1 dL_law_2788 (lv_at hl2 1 rfl) ?_
    refine lv_icmp_eq (tgt := 2795) X.1.1 X.1.2.1 dL_law_2790 (by decide) (fun _ => ?_) (fun y => absurd h3 y)
    refine lv_iload X.1.1 X.1.2.1 dL_law_2795 (lv_at hl2 1 rfl) ?_
    have hg : W p K.1 e room_1 s m #[.ref b] below meth c H3 locs3 (cells + 1) (slots + 6) Q (F0 m 2812 ls2 []) := lv_goto (tgt := 2884) X.1.1 X.1.2.1 dL_law_2812 (by decide) (kk _ _ _ _ _ _ _ hH3 hS3 h4 (la_lv (la_lv hl2)))
    exact lv_if_ne (tgt := 2812) X.1.1 X.1.2.1 dL_law_2797 (by decide) (fun _ => hg) (fun y => absurd y (by decide))
  · refine lv_aload_n X.1.1 X.1.2.1 dL_law_2759 rfl (lv_at hl 1 rfl) ?_
    refine la_arg (j := 1) X hS (lv_at hl 0 rfl) (lv_at hl 5 rfl) (by omega) hn.2 (by decide) dL_law_2760 dL_law_2761 dL_law_2763 dL_law_2764 dL_law_2765 ?_
    refine lv_aload_n X.1.1 X.1.2.1 dL_law_2766 rfl (lv_at hl 3 rfl) ?_
    refine la_callW (M2 := mL_restore) (n2 := 3) (As := [.ref (cw_a (cc_w K) 0), .int (xs (n + 1)), .ref qo]) (hh := [(0, 9, 12, 29), (0, 9, 15, 13)]) X hH hS (wr_restore_x2 h1) ⟨_, rfl⟩ (by decide +kernel) rfl gT_L_restore ⟨Nat.le_of_ble_eq_true rfl, Nat.le_of_ble_eq_true rfl⟩ hc hl.1 rfl (Nat.le_of_ble_eq_true rfl) dL_law_2767 (fun H1 locs1 hH1 hS1 => ?_)
    refine lv_istore (lv' := (6, .int 2) :: [(0, .ref b), (1, .ref (cw_a (cc_w K) 0)), (2, .ref (cw_a (cr_w K) 0)), (3, .ref qo), (4, .ref qd), (5, .int (nI n))]) X.1.1 X.1.2.1 dL_law_2770 hl (by decide) rfl (fun ls1 hl1 => ?_)
    refine lv_aload_n X.1.1 X.1.2.1 dL_law_2772 rfl (lv_at hl1 3 rfl) ?_
    refine la_arg (j := 1) X hS1 (lv_at hl1 1 rfl) (lv_at hl1 6 rfl) (by omega) hn.2 (by decide) dL_law_2773 dL_law_2774 dL_law_2776 dL_law_2777 dL_law_2778 ?_
    refine la_callR (As := [.int (xs (n + 1))]) X hH1 hS1 h2 okX11_restore rfl rfl gT_X11_restore ⟨Nat.le_of_ble_eq_true rfl, Nat.le_of_ble_eq_true rfl⟩ hc hl1.1 rfl (Nat.le_of_ble_eq_true rfl) dL_law_2779 (fun H2 locs2 hH2 hS2 => ?_)
    refine lv_istore (lv' := (7, .int r) :: (6, .int 2) :: [(0, .ref b), (1, .ref (cw_a (cc_w K) 0)), (2, .ref (cw_a (cr_w K) 0)), (3, .ref qo), (4, .ref qd), (5, .int (nI n))]) X.1.1 X.1.2.1 dL_law_2782 hl1 (by decide) rfl (fun ls2 hl2 => ?_)
    refine lv_aload_n X.1.1 X.1.2.1 dL_law_2784 rfl (lv_at hl2 4 rfl) ?_
    refine la_thrown X hH2 hS2 hc hl2.1 (Nat.le_of_ble_eq_true rfl) dL_law_2785 (fun H3 locs3 hH3 hS3 => ?_)
    refine lv_iload X.1.1 X.1.2.1 dL_law_2788 (lv_at hl2 1 rfl) ?_
    refine lv_icmp_eq (tgt := 2795) X.1.1 X.1.2.1 dL_law_2790 (by decide) (fun _ => ?_) (fun y => absurd h3 y)
    refine lv_iload X.1.1 X.1.2.1 dL_law_2795 (lv_at hl2 1 rfl) ?_
    have hg : W p K.1 e room_1 s m #[.ref b] below meth c H3 locs3 (cells + 1) (slots + 6) Q (F0 m 2812 ls2 []) := lv_goto (tgt := 2884) X.1.1 X.1.2.1 dL_law_2812 (by decide) (kk _ _ _ _ _ _ _ hH3 hS3 h4 (la_lv (la_lv hl2)))
    exact lv_if_ne (tgt := 2812) X.1.1 X.1.2.1 dL_law_2797 (by decide) (fun _ => hg) (fun y => absurd y (by decide))
theorem lc_55 (X : la_X K p s m meth c b L xs qo qd cl cd) (F : la_F K) (hc : cells + 1 ≤ 1088 ∧ slots + 6 ≤ 17909) (hn : n + 6 ≤ L ∧ L ≤ 3072) (kk : la_T K p e s m below meth c b qo qd cl cd Q n (cells + 1) (slots + 6) 2884) : la_T K p e s m below meth c b qo qd cl cd Q n cells slots 2815 := by
  intro H locs ls I J f g hH hS hR hl
  obtain ⟨r, I2, J2, h1, h2, h3, h4⟩ := ca_writeOwners (K := K) hR
  refine W.widen (k := cells + 1) (n := slots + 6) (by omega) (by omega) ?_
  refine lv_aload_n X.1.1 X.1.2.1 dL_law_2815 rfl (lv_at hl 1 rfl) ?_
  refine la_callC (As := []) X hH hS h1 okX10_writeOwners rfl rfl gT_X10_writeOwners ⟨Nat.le_of_ble_eq_true rfl, Nat.le_of_ble_eq_true rfl⟩ hc hl.1 rfl (Nat.le_of_ble_eq_true rfl) dL_law_2816 (fun H1 locs1 hH1 hS1 => ?_)
  refine lv_aload_n X.1.1 X.1.2.1 dL_law_2819 rfl (lv_at hl 2 rfl) ?_
  refine la_callR (As := []) X hH1 hS1 h2 okX11_writeOwners rfl rfl gT_X11_writeOwners ⟨Nat.le_of_ble_eq_true rfl, Nat.le_of_ble_eq_true rfl⟩ hc hl.1 rfl (Nat.le_of_ble_eq_true rfl) dL_law_2820 (fun H2 locs2 hH2 hS2 => ?_)
  exact lv_icmp_eq (tgt := 2884) X.1.1 X.1.2.1 dL_law_2823 (by decide) (fun _ => kk _ _ _ _ _ _ _ hH2 hS2 h4 hl) (fun y => absurd rfl y)
theorem lc_56 (X : la_X K p s m meth c b L xs qo qd cl cd) (F : la_F K) (hc : cells + 1 ≤ 1088 ∧ slots + 6 ≤ 17909) (hn : n + 6 ≤ L ∧ L ≤ 3072) (kk : la_T K p e s m below meth c b qo qd cl cd Q n (cells + 1) (slots + 6) 2884) : la_T K p e s m below meth c b qo qd cl cd Q n cells slots 2828 := by
  intro H locs ls I J f g hH hS hR hl
  rcases ca_outputByte (K := K) F.1 F.2.1 hR (x := xs (n + 1)) with ⟨r, I2, J2, h1, h2, h3, h4⟩ | ⟨r, I2, J2, h1, h2, h3, h4⟩
  · refine lv_aload_n X.1.1 X.1.2.1 dL_law_2828 rfl (lv_at hl 1 rfl) ?_
    refine la_arg (j := 1) X hS (lv_at hl 0 rfl) (lv_at hl 5 rfl) (by omega) hn.2 (by decide) dL_law_2829 dL_law_2830 dL_law_2832 dL_law_2833 dL_law_2834 ?_
    refine lv_aload_n X.1.1 X.1.2.1 dL_law_2835 rfl (lv_at hl 3 rfl) ?_
    refine la_callW (M2 := mL_outputByte) (n2 := 3) (As := [.ref (cw_a (cc_w K) 0), .int (xs (n + 1)), .ref qo]) (hh := [(0, 9, 12, 29)]) X hH hS (wr_outputByte_ok h1) ⟨_, rfl⟩ (by decide +kernel) rfl gT_L_outputByte ⟨Nat.le_of_ble_eq_true rfl, Nat.le_of_ble_eq_true rfl⟩ hc hl.1 rfl (Nat.le_of_ble_eq_true rfl) dL_law_2836 (fun H1 locs1 hH1 hS1 => ?_)
    refine lv_istore (lv' := (6, .int 0) :: [(0, .ref b), (1, .ref (cw_a (cc_w K) 0)), (2, .ref (cw_a (cr_w K) 0)), (3, .ref qo), (4, .ref qd), (5, .int (nI n))]) X.1.1 X.1.2.1 dL_law_2839 hl (by decide) rfl (fun ls1 hl1 => ?_)
    refine lv_aload_n X.1.1 X.1.2.1 dL_law_2841 rfl (lv_at hl1 3 rfl) ?_
    refine la_arg (j := 1) X hS1 (lv_at hl1 1 rfl) (lv_at hl1 6 rfl) (by omega) hn.2 (by decide) dL_law_2842 dL_law_2843 dL_law_2845 dL_law_2846 dL_law_2847 ?_
    refine la_callR (As := [.int (xs (n + 1))]) X hH1 hS1 h2 okX11_outputByte rfl rfl gT_X11_outputByte ⟨Nat.le_of_ble_eq_true rfl, Nat.le_of_ble_eq_true rfl⟩ hc hl1.1 rfl (Nat.le_of_ble_eq_true rfl) dL_law_2848 (fun H2 locs2 hH2 hS2 => ?_)
    refine lv_istore (lv' := (7, .int r) :: (6, .int 0) :: [(0, .ref b), (1, .ref (cw_a (cc_w K) 0)), (2, .ref (cw_a (cr_w K) 0)), (3, .ref qo), (4, .ref qd), (5, .int (nI n))]) X.1.1 X.1.2.1 dL_law_2851 hl1 (by decide) rfl (fun ls2 hl2 => ?_)
    refine lv_aload_n X.1.1 X.1.2.1 dL_law_2853 rfl (lv_at hl2 4 rfl) ?_
    refine la_thrown X hH2 hS2 hc hl2.1 (Nat.le_of_ble_eq_true rfl) dL_law_2854 (fun H3 locs3 hH3 hS3 => ?_)
    refine lv_iload X.1.1 X.1.2.1 dL_law_2857 (lv_at hl2 1 rfl) ?_
    refine lv_icmp_eq (tgt := 2864) X.1.1 X.1.2.1 dL_law_2859 (by decide) (fun _ => ?_) (fun y => absurd h3 y)
    refine lv_iload X.1.1 X.1.2.1 dL_law_2864 (lv_at hl2 1 rfl) ?_
    have hg : W p K.1 e room_1 s m #[.ref b] below meth c H3 locs3 (cells + 1) (slots + 6) Q (F0 m 2881 ls2 []) := lv_goto (tgt := 2884) X.1.1 X.1.2.1 dL_law_2881 (by decide) (kk _ _ _ _ _ _ _ hH3 hS3 h4 (la_lv (la_lv hl2)))
    refine lv_if_ne (tgt := 2881) X.1.1 X.1.2.1 dL_law_2866 (by decide) (fun y => absurd rfl y) (fun _ => ?_)
    refine lv_aload_n X.1.1 X.1.2.1 dL_law_2869 rfl (lv_at hl2 5 rfl) ?_
    refine lv_iconst (v := 0) X.1.1 X.1.2.1 dL_law_2870 (by decide) ?_
    refine va_lald X.1.1 X.1.2.1 X.2.2.2.2.2.2.1 hH3.2.2.1 0 0 rfl rfl (vp_in_nI (n := 0) (N := 1) (by omega) (by omega)) dL_law_2871 ?_
    refine lv_iload X.1.1 X.1.2.1 dL_law_2872 (lv_at hl2 0 rfl) ?_
    refine lv_i2l (v := r.toInt64) X.1.1 X.1.2.1 dL_law_2874 rfl ?_
    refine W.lcmp X.1.1 X.1.2.1 dL_law_2875 ?_
    exact lv_if_eq (tgt := 2881) X.1.1 X.1.2.1 dL_law_2876 (by decide) (fun _ => hg) (fun y => absurd (la_cmp _) y)
  · refine lv_aload_n X.1.1 X.1.2.1 dL_law_2828 rfl (lv_at hl 1 rfl) ?_
    refine la_arg (j := 1) X hS (lv_at hl 0 rfl) (lv_at hl 5 rfl) (by omega) hn.2 (by decide) dL_law_2829 dL_law_2830 dL_law_2832 dL_law_2833 dL_law_2834 ?_
    refine lv_aload_n X.1.1 X.1.2.1 dL_law_2835 rfl (lv_at hl 3 rfl) ?_
    refine la_callW (M2 := mL_outputByte) (n2 := 3) (As := [.ref (cw_a (cc_w K) 0), .int (xs (n + 1)), .ref qo]) (hh := [(0, 9, 12, 29)]) X hH hS (wr_outputByte_x1 h1) ⟨_, rfl⟩ (by decide +kernel) rfl gT_L_outputByte ⟨Nat.le_of_ble_eq_true rfl, Nat.le_of_ble_eq_true rfl⟩ hc hl.1 rfl (Nat.le_of_ble_eq_true rfl) dL_law_2836 (fun H1 locs1 hH1 hS1 => ?_)
    refine lv_istore (lv' := (6, .int 1) :: [(0, .ref b), (1, .ref (cw_a (cc_w K) 0)), (2, .ref (cw_a (cr_w K) 0)), (3, .ref qo), (4, .ref qd), (5, .int (nI n))]) X.1.1 X.1.2.1 dL_law_2839 hl (by decide) rfl (fun ls1 hl1 => ?_)
    refine lv_aload_n X.1.1 X.1.2.1 dL_law_2841 rfl (lv_at hl1 3 rfl) ?_
    refine la_arg (j := 1) X hS1 (lv_at hl1 1 rfl) (lv_at hl1 6 rfl) (by omega) hn.2 (by decide) dL_law_2842 dL_law_2843 dL_law_2845 dL_law_2846 dL_law_2847 ?_
    refine la_callR (As := [.int (xs (n + 1))]) X hH1 hS1 h2 okX11_outputByte rfl rfl gT_X11_outputByte ⟨Nat.le_of_ble_eq_true rfl, Nat.le_of_ble_eq_true rfl⟩ hc hl1.1 rfl (Nat.le_of_ble_eq_true rfl) dL_law_2848 (fun H2 locs2 hH2 hS2 => ?_)
    refine lv_istore (lv' := (7, .int r) :: (6, .int 1) :: [(0, .ref b), (1, .ref (cw_a (cc_w K) 0)), (2, .ref (cw_a (cr_w K) 0)), (3, .ref qo), (4, .ref qd), (5, .int (nI n))]) X.1.1 X.1.2.1 dL_law_2851 hl1 (by decide) rfl (fun ls2 hl2 => ?_)
    refine lv_aload_n X.1.1 X.1.2.1 dL_law_2853 rfl (lv_at hl2 4 rfl) ?_
    refine la_thrown X hH2 hS2 hc hl2.1 (Nat.le_of_ble_eq_true rfl) dL_law_2854 (fun H3 locs3 hH3 hS3 => ?_)
    refine lv_iload X.1.1 X.1.2.1 dL_law_2857 (lv_at hl2 1 rfl) ?_
    refine lv_icmp_eq (tgt := 2864) X.1.1 X.1.2.1 dL_law_2859 (by decide) (fun _ => ?_) (fun y => absurd h3 y)
    refine lv_iload X.1.1 X.1.2.1 dL_law_2864 (lv_at hl2 1 rfl) ?_
    have hg : W p K.1 e room_1 s m #[.ref b] below meth c H3 locs3 (cells + 1) (slots + 6) Q (F0 m 2881 ls2 []) := lv_goto (tgt := 2884) X.1.1 X.1.2.1 dL_law_2881 (by decide) (kk _ _ _ _ _ _ _ hH3 hS3 h4 (la_lv (la_lv hl2)))
    exact lv_if_ne (tgt := 2881) X.1.1 X.1.2.1 dL_law_2866 (by decide) (fun _ => hg) (fun y => absurd y (by decide))
end CASES
