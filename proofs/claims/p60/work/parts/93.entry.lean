/-! ## the law from its entry to its loop, and its end -/
def mLx : cw_Me := (yL_law, lw_x, cL_law, 15, (some .boolean), 16, 628)
/-- the law's own end, its arguments left open -/
theorem lw_retG {p : Program} {l : Launch} {e : Env} {s : State} {m : MethodId} {args : Array Value} {below : List Frame} {meth : Method} {c : Code} (hx : p.tables.exec = Jvm.exec) (hb : c.code = code) (hr : meth.sig.returnType = ret) (hlocks : meth.locks = false) {pc : Nat} {H : Heap} {ls : Array Slot} (hdg : decode code pc = .ok (.ireturn, 1)) : W p l e room_1 s m args below meth c H [] 600086 7301442 (lw_Z below args s) (F0 m pc ls [.int 1]) := by
  intro T hT X
  obtain ⟨fs, hret, hrun, hended, hW, hframe⟩ := X.leave (v := some (.int 1)) (hlocks := hlocks) (fun h => by rw [hr] at h; cases h)
  have hmeth' : T.vm.method? m = some meth := X.method'
  refine ⟨T.setFrames fs, ?_, .returned (some (.int 1)), hrun, hended, rfl, ⟨_, rfl⟩, hW, hframe⟩
  jvm_step X.here [X.here.top, hx, hb, hdg, hmeth', hr, ret, narrow_b1]
  (try refine ⟨rfl, ?_⟩); (try refine ⟨rfl, ?_⟩)
  first | (intro acts; rw [hret _ acts rfl rfl rfl]) | rw [hret _ _ rfl rfl rfl]
  exact Steps.refl _
abbrev lw_Zl : cw_Zt := fun below args s => lw_Z below args s
theorem lt_end (K : cw_K) (sa uc vc : Nat) (I : cw_M) : bL_law_626 K sa lw_Zl uc vc I := by
  intro p e s m args below meth c H locs ls X hP hS h
  refine lv_iconst (v := 1) X.1.1 X.1.2.1 dL_law_626 (by decide) ?_
  refine W.widen (k := 600086) (n := 7301442) (cw_Xc X).1 (cw_Xc X).2 ?_
  refine va_forget (fun q hq => ?_) ?_
  · rcases hS.2.2 q hq with ⟨k, hk, -⟩ | h9
    · exact absurd hk (Nat.not_lt_zero k)
    · exact h9
  · exact lw_retG X.1.1 X.1.2.1 X.2.1 X.2.2.1 dL_law_627
section ENT
variable {w w0 : cw_G} {K K0 : cw_K} {Z : cw_Zt} {mc ms uc us : Nat} {I : cw_M} {pc : Nat} {L : List (Nat × Value)} {st : List Value}
theorem cw_W_get (w : cw_G) {I : cw_M} {k : Nat} (h : k < cw_n w) : (cw_W w I)[k]? = some (cw_a w k, cw_e w k (I k)) := cw_wd_get h
theorem cw_subM (kk : cw_B w w0 mL_law Z mc ms uc us I pc L st) : cw_B w w0 mLx Z mc ms uc us I pc L st :=
  fun p e s m args below meth c H locs ls X hP hS h => kk p e s m args below meth c H locs ls ⟨⟨X.1.1, X.1.2.1, X.1.2.2.1, X.1.2.2.2.1, fun w hw => X.1.2.2.2.2 w (lx_in hw)⟩, X.2⟩ hP hS h
/-- the class's cells, and a text -/
def ct_e (K : cw_K) (N : Nat) (k : Nat) (f : Nat → Int32) : va_E := match k with
  | 32 => eT (.ref (K.2.2.2.1 33)) f
  | 33 => eA K N f
  | _ => cc_e K.2.2.1 K.2.2.2.1 K.2.2.2.2.1 k f
abbrev ct_w (K : cw_K) (N : Nat) : cw_G := (K.1, K.2.1, cw_ty K.2.2.1, K.2.2.2.1, ct_e K N, 34, cw_Fc K)
abbrev K2t (K : cw_K) (t q : Nat) : cw_K := kset (kset K 32 t) 33 q
theorem ct_keep (K : cw_K) (t q N : Nat) : ∀ k, k < 32 → ct_e (K2t K t q) N k = cc_e K.2.2.1 K.2.2.2.1 K.2.2.2.2.1 k := fun k hk => by
  rcases (show k = 0 ∨ k = 1 ∨ k = 2 ∨ k = 3 ∨ k = 4 ∨ k = 5 ∨ k = 6 ∨ k = 7 ∨ k = 8 ∨ k = 9 ∨ k = 10 ∨ k = 11 ∨ k = 12 ∨ k = 13 ∨ k = 14 ∨ k = 15 ∨ k = 16 ∨ k = 17 ∨ k = 18 ∨ k = 19 ∨ k = 20 ∨ k = 21 ∨ k = 22 ∨ k = 23 ∨ k = 24 ∨ k = 25 ∨ k = 26 ∨ k = 27 ∨ k = 28 ∨ k = 29 ∨ k = 30 ∨ k = 31 by omega) with rfl | rfl | rfl | rfl | rfl | rfl | rfl | rfl | rfl | rfl | rfl | rfl | rfl | rfl | rfl | rfl | rfl | rfl | rfl | rfl | rfl | rfl | rfl | rfl | rfl | rfl | rfl | rfl | rfl | rfl | rfl | rfl <;> rfl
theorem ct_ad (K : cw_K) (t q : Nat) : ∀ k, k < 32 → (K2t K t q).2.2.2.1 k = K.2.2.2.1 k := fun k hk => by
  show (if k = 33 then q else if k = 32 then t else K.2.2.2.1 k) = _
  rw [if_neg (by omega), if_neg (by omega)]
/-- the setup's call -/
theorem en_setup {n m sn sa dO dT : Nat} {sf : Nat → Int32} (hFS : cw_FS (cw_Fc K) (cw_sd K) (cw_sv K)) (hFC : cw_FC K) (hFD : bu_FD (cw_Fc K) dO dT) (hFB : bu_FC (cw_Fc K)) (hFz : cw_Fsc (cw_Fc K) sa sn sf) (hsn : sn < 2 ^ 31) (hn : n ≤ 16) (hm : m ≤ 5) (hu : uc + 200 ≤ mc ∧ us + 90000 ≤ ms) (hst : (st.map fun v => v.category).sum ≤ 8) (hd : decode cL_law pc = .ok (.invokestatic 109, 3))
    (kk : ∀ (t q : Nat) (g1 g2 : Nat → Int32), g1 1 = 0 → (∀ j, j < zp n m → g2 j = nI ((zx n (ls_v sn sf) m).getD j 0)) → cw_B (ct_w (K2t K t q) (zp n m)) w0 mLx Z mc ms (uc + 200) (us + 90000) (cw_up (cw_up I 32 g1) 33 g2) (pc + 3) L (.ref t :: st)) : cw_B (cc_w K) w0 mLx Z mc ms uc us I pc L (.int (nI m) :: .int (nI n) :: .ref sa :: st) := by
  intro p e s mt args below meth c H locs ls X hP hS h
  obtain ⟨ws', hw⟩ := oknL_setup.2.1
  have hrun := va_runS (p := p) (l := cw_l (cc_w K)) (e := e) (R := cw_R mLx mc ms) (s := s) (m := mt) (args := args) (below := below) (meth := meth) (c := c) (H := H) (locs := locs) (cells := uc) (slots := us) (As := [.ref sa, .int (nI n), .int (nI m)]) (rest := st) (g := F0 mt pc ls (.int (nI m) :: .int (nI n) :: .ref sa :: st)) X.1 (ls_setup (I := I) hFS hFC hFD hFB hFz hsn hn hm H.size)
    (va_cwS (R := cw_R mLx mc ms) (rm := cw_R nL_setup 200 90000) 3 X.1.2.2.2.2 gX_L_setup hw rfl rfl oknL_setup.2.2 ⟨Nat.le_of_ble_eq_true rfl, Nat.le_of_ble_eq_true rfl⟩)
    ⟨cw_blind, fun U hU hW => ⟨rfl, by
      obtain ⟨x1, x2, x3, x4, x5, x6⟩ := cw_Xpre X hP hS U hU hW
      exact ⟨x1, (fun k q hq => by
        have h9 : ([] : va_W)[k]? = some q := hq
        simp at h9), x3, (fun i j hi => absurd hi (Nat.not_lt_zero i)), x6.2.2 _ _ _ _ x5 (fun q hq => by
        rcases hq with ⟨k, hk, -⟩ | hq
        · exact absurd hk (Nat.not_lt_zero k)
        · exact Or.inr hq), x6⟩⟩⟩
    rfl rfl h.1 rfl (by show 2 * 0 + _ ≤ 8; omega) hd hu
  intro T0 hT X0
  obtain ⟨v, st₀, t9, T', L1, h0, X', hL, e1, e2, ⟨r, w', I', hS9, he, hv9, hq2, ⟨hz, hk2⟩, hi, ho⟩, stp⟩ := hrun T0 hT X0
  obtain ⟨t, q, rfl, rfl, s1, s2⟩ := hS9
  cases hv9
  rw [h0] at hz hk2 ho
  have hno : ∀ x, x < H.size → ¬ cw_own (lw K []) H.size x := fun x hx z => by
    rcases z with ⟨k, hk, -⟩ | z
    · exact absurd hk (Nat.not_lt_zero k)
    · omega
  have hge : ∀ k, k < 2 → H.size ≤ (lw K [(t, eT (.ref q)), (q, eA K (zp n m))]).2.2.2.1 k := fun k hk => by
    rcases ho k hk with ⟨j, hj, -⟩ | z
    · exact absurd hj (Nat.not_lt_zero j)
    · exact z
  have hgt : H.size ≤ t := hge 0 (by omega)
  have hgq : H.size ≤ q := hge 1 (by omega)
  have htq : t ≠ q := fun z => absurd (hi 0 1 (show 0 < 2 by omega) (show 1 < 2 by omega) z) (by omega)
  have hlt : ∀ k, k < 32 → K.2.2.2.1 k < H.size := fun k hk => (hP k _ (cw_W_get (cc_w K) hk)).lt
  have X2 : cw_X (ct_w (K2t K t q) (zp n m)) w0 mLx mc ms (uc + 200) (us + 90000) p s mt args meth c := ⟨X.1, X.2.1, X.2.2.1, X.2.2.2.1, fun i j hi9 hj9 hij => by
    have hi9 : i < 34 := hi9
    have hj9 : j < 34 := hj9
    have hij : (if i = 33 then q else if i = 32 then t else K.2.2.2.1 i) = (if j = 33 then q else if j = 32 then t else K.2.2.2.1 j) := hij
    by_cases a1 : i = 33
    · rw [if_pos a1] at hij
      by_cases a2 : j = 33
      · omega
      · rw [if_neg a2] at hij
        by_cases a4 : j = 32
        · rw [if_pos a4] at hij
          exact absurd hij.symm htq
        · rw [if_neg a4] at hij
          have := hlt j (by omega)
          omega
    · rw [if_neg a1] at hij
      by_cases a3 : i = 32
      · rw [if_pos a3] at hij
        by_cases a2 : j = 33
        · rw [if_pos a2] at hij
          exact absurd hij htq
        · rw [if_neg a2] at hij
          by_cases a4 : j = 32
          · omega
          · rw [if_neg a4] at hij
            have := hlt j (by omega)
            omega
      · rw [if_neg a3] at hij
        have hi8 := hlt i (by omega)
        by_cases a2 : j = 33
        · rw [if_pos a2] at hij
          omega
        · rw [if_neg a2] at hij
          by_cases a4 : j = 32
          · rw [if_pos a4] at hij
            omega
          · rw [if_neg a4] at hij
            exact X.2.2.2.2.1 i j (show i < 32 by omega) (show j < 32 by omega) hij, X.2.2.2.2.2.1, X.2.2.2.2.2.2.1, X.2.2.2.2.2.2.2.1, fun k hk => by
    have hk : k < 34 := hk
    show cw_own w0 s.heap.size (if k = 33 then q else if k = 32 then t else K.2.2.2.1 k)
    by_cases a1 : k = 33
    · rw [if_pos a1]
      exact Or.inr (Nat.le_trans hS.1 hgq)
    · rw [if_neg a1]
      by_cases a2 : k = 32
      · rw [if_pos a2]
        exact Or.inr (Nat.le_trans hS.1 hgt)
      · rw [if_neg a2]
        exact X.2.2.2.2.2.2.2.2.1 k (show k < 32 by omega), hu⟩
  have P2 : va_P (cw_d (cc_w K)) vwCl (cw_W (ct_w (K2t K t q) (zp n m)) (cw_up (cw_up I 32 (I' 0)) 33 (I' 1))) T'.heap := by
    rw [e1]
    intro k x hx
    have hk : k < 34 := by
      have := (List.getElem?_eq_some_iff.mp hx).1
      simpa [cw_wd] using this
    rw [cw_wd_get (show k < cw_n (ct_w (K2t K t q) (zp n m)) from hk)] at hx
    cases hx
    by_cases a1 : k = 33
    · subst a1
      exact hq2 1 _ (cw_W_get (lw K [(t, eT (.ref q)), (q, eA K (zp n m))]) (show 1 < 2 by omega))
    · by_cases a2 : k = 32
      · subst a2
        exact hq2 0 _ (cw_W_get (lw K [(t, eT (.ref q)), (q, eA K (zp n m))]) (show 0 < 2 by omega))
      · have h9 := (hP k _ (cw_W_get (cc_w K) (show k < 32 by omega))).kept (hk2 _ (hlt k (by omega)) (hno _ (hlt k (by omega))))
        have ea : cw_a (ct_w (K2t K t q) (zp n m)) k = K.2.2.2.1 k := ct_ad K t q k (by omega)
        have ee : cw_e (ct_w (K2t K t q) (zp n m)) k = cc_e K.2.2.1 K.2.2.2.1 K.2.2.2.2.1 k := ct_keep K t q (zp n m) k (by omega)
        have ei : (cw_up (cw_up I 32 (I' 0)) 33 (I' 1)) k = I k := by
          unfold cw_up
          rw [if_neg a1, if_neg a2]
        rw [ea, ee, ei]
        exact h9
  obtain ⟨t2, b1, b2⟩ := kk t q (I' 0) (I' 1) s1 s2 p e s mt args below meth c T'.heap (locs ++ L1) ls X2 P2 ⟨Nat.le_trans hS.1 (by rw [e1]; exact hz), fun x h1 h2 => by rw [e1, hk2 x (Nat.lt_of_lt_of_le h1 hS.1) (hno x (Nat.lt_of_lt_of_le h1 hS.1))]; exact hS.2.1 x h1 h2, fun x hx => by
      rcases List.mem_append.mp hx with h | h
      · exact hS.2.2 x h
      · rcases hL x h with ⟨k, hk, -⟩ | z
        · exact absurd hk (Nat.not_lt_zero k)
        · exact Or.inr (Nat.le_trans hS.1 z)⟩ h T' rfl X'
  exact ⟨t2, stp t2 b1, b2⟩
/-- K with other facts -/
abbrev kF (K : cw_K) (F : cw_F) : cw_K := (K.1, K.2.1, K.2.2.1, K.2.2.2.1, K.2.2.2.2.1, K.2.2.2.2.2.1, K.2.2.2.2.2.2.1, F)
/-- say's call: the text is known for as long as it takes -/
theorem en_say {t q N : Nat} {tl : List Int32} {J : cw_M} {c3 h2 : Int32} (hFS : cw_FS (cw_Fc K) (cw_sd K) (cw_sv K)) (hl : tl.length = N) (hI1 : I 32 1 = 0) (hf : ∀ j, j < N → I 33 j = tl.getD j 0)
    (hC : cw_C (cc_w (kF K (tf_F (cw_Fc K) t q tl))) mL_say [.ref (K.2.2.2.1 0), .ref t] I (some (.int 1)) J) (hst : (st.map fun v => v.category).sum ≤ 8) (hd : decode cL_law pc = .ok (.invokestatic 113, 3))
    (kk : cw_B (cc_w K) w0 mLx Z mc ms uc us J (pc + 3) L (.int 1 :: st)) : cw_B (ct_w (K2t K t q) N) w0 mLx Z mc ms uc us I pc L (.ref t :: .ref (K.2.2.2.1 0) :: st) := by
  intro p e s mt args below meth c H locs ls X hP hS h
  subst hl
  have hlt : ∀ k, k < 34 → cw_a (ct_w (K2t K t q) tl.length) k < H.size := fun k hk => (hP k _ (cw_W_get (ct_w (K2t K t q) tl.length) hk)).lt
  have Xc : cw_X (cc_w K) w0 mLx mc ms uc us p s mt args meth c := ⟨X.1, X.2.1, X.2.2.1, X.2.2.2.1, fun i j hi hj hij => X.2.2.2.2.1 i j (Nat.lt_of_lt_of_le hi (by show 32 ≤ 34; omega)) (Nat.lt_of_lt_of_le hj (by show 32 ≤ 34; omega)) ((ct_ad K t q i hi).trans (hij.trans (ct_ad K t q j hj).symm)), X.2.2.2.2.2.1, X.2.2.2.2.2.2.1, X.2.2.2.2.2.2.2.1, fun k hk => by
    have h9 := X.2.2.2.2.2.2.2.2.1 k (Nat.lt_of_lt_of_le hk (by show 32 ≤ 34; omega))
    rw [show cw_a (ct_w (K2t K t q) tl.length) k = K.2.2.2.1 k from ct_ad K t q k hk] at h9
    exact h9, cw_Xc X⟩
  have Pc : va_P (cw_d (cc_w K)) vwCl (cw_W (cc_w K) I) H := by
    intro k x hx
    have hk : k < 32 := by
      have := (List.getElem?_eq_some_iff.mp hx).1
      simpa [cw_wd] using this
    rw [cw_wd_get (show k < cw_n (cc_w K) from hk)] at hx
    cases hx
    have h9 := hP k _ (cw_W_get (ct_w (K2t K t q) tl.length) (show k < 34 by omega))
    rw [show cw_a (ct_w (K2t K t q) tl.length) k = K.2.2.2.1 k from ct_ad K t q k hk, show cw_e (ct_w (K2t K t q) tl.length) k = cc_e K.2.2.1 K.2.2.2.1 K.2.2.2.2.1 k from ct_keep K t q tl.length k hk] at h9
    exact h9
  have hno : ∀ k, k = 32 ∨ k = 33 → ¬ cw_own (cc_w K) H.size (cw_a (ct_w (K2t K t q) tl.length) k) := fun k hk z => by
    rcases z with ⟨j, hj, z⟩ | z
    · have hj : j < 32 := hj
      have h9 := X.2.2.2.2.1 k j (show k < 34 by omega) (show j < 34 by omega) (z.trans (ct_ad K t q j hj).symm)
      omega
    · have := hlt k (by omega)
      omega
  obtain ⟨ws', hw⟩ := okL_say.2.1
  have hrun : va_Run p (cw_l (cc_w K)) e (cw_R mLx mc ms) s mt args below meth c H locs uc us 0 0 (F0 mt pc ls (.ref t :: .ref (K.2.2.2.1 0) :: st)) st (cw_Q (cc_w (kF K (tf_F (cw_Fc K) t q tl))) (some (.int 1)) J ([.ref (K.2.2.2.1 0), .ref t] : List Value).toArray) (cw_own (cc_w (kF K (tf_F (cw_Fc K) t q tl))) H.size) := va_runS (p := p) (l := cw_l (cc_w K)) (e := e) (R := cw_R mLx mc ms) (s := s) (m := mt) (args := args) (below := below) (meth := meth) (c := c) (H := H) (locs := locs) (cells := uc) (slots := us) (As := [.ref (K.2.2.2.1 0), .ref t]) (rest := st) (g := F0 mt pc ls (.ref t :: .ref (K.2.2.2.1 0) :: st)) X.1 (hC H.size)
    (va_cwS (R := cw_R mLx mc ms) (rm := cw_R mL_say 0 0) 2 X.1.2.2.2.2 (lx_good gT_L_say) hw rfl rfl okL_say.2.2 ⟨Nat.le_of_ble_eq_true rfl, Nat.le_of_ble_eq_true rfl⟩)
    ⟨cw_blind, fun U hU hW => ⟨rfl, by
      obtain ⟨x1, x2, x3, x4, x5, x6⟩ := cw_Xpre Xc Pc hS U hU hW
      have f0 : cw_Fc K (cw_own (cc_w K) H.size) s H := X.2.2.2.2.2.2.1.2.2 _ _ _ _ (X.2.2.2.2.2.2.1.2.1 _ _ _ _ X.2.2.2.2.2.1 hS.1 (fun a h1 h2 => hS.2.1 a h1 h2)) (cw_Xsub Xc hS.1)
      have f1 : tf_F (cw_Fc K) t q tl (cw_own (cc_w K) H.size) s H := tf_of (t := t) (q := q) (tl := tl) (F := cw_Fc K) (cy := K.2.2.1) (c3 := I 32 3) (h2 := I 32 2) (i := 32) (j := 33) (f := I 33) (fun w hw => X.1.2.2.2.2 w (lx_in hw)) X.2.2.2.1 hP f0 (by
        rw [cw_W_get (ct_w (K2t K t q) tl.length) (show 32 < 34 by omega)]
        show some (t, (Sum.inr (0, [Value.ref q, .int (I 32 1), .int (I 32 2), .int (I 32 3)]) : va_E)) = _
        rw [hI1]) (by
        rw [cw_W_get (ct_w (K2t K t q) tl.length) (show 33 < 34 by omega)]
        rfl) hf (hno 32 (Or.inl rfl)) (hno 33 (Or.inr rfl))
      exact ⟨x1, x2, x3, x4, (by rw [hU]; exact (tf_ok x6).1 _ _ _ _ hW f1), tf_ok x6⟩⟩⟩
    rfl rfl h.1 rfl (by show 2 * 0 + _ ≤ 8; omega) hd (cw_Xc X)
  exact cw_tail (w := cc_w K) (c2 := 0) (s2 := 0) (as := ([.ref (K.2.2.2.1 0), .ref t] : List Value).toArray) Xc hS h (cw_Xc X) hrun kk
end ENT
