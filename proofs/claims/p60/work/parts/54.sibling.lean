/-! ## reading a sibling of a setup, both sides -/
/-- what reading a setup leaves alone; I0, J0: where it began -/
def fs (I0 J0 I J : cw_M) : Prop := (∀ o, o ≠ 15 → ¬ (10 ≤ o ∧ o ≤ 13) → I o = I0 o) ∧ (∀ o, o ≠ 0 → o ≠ 1 → J o = J0 o) ∧ (∀ p, p < 15 → p ≠ 5 → p ≠ 6 → J 0 p = J0 0 p) ∧ ∀ j, 212 ≤ j → J 1 j = J0 1 j
theorem fs.kf {I0 J0 I J I2 J2 : cw_M} (h : fs I0 J0 I J) (g : kf I J I2 J2) : fs I0 J0 I2 J2 := ⟨fun o h1 h2 => (g.1 o h1).trans (h.1 o h1 h2), fun o h1 h2 => (g.2.1 o h1).trans (h.2.1 o h1 h2), fun p h1 h2 h3 => (g.2.2 p h1 h2 h3).trans (h.2.2.1 p h1 h2 h3), fun j hj => by rw [g.2.1 1 (by omega)]; exact h.2.2.2 j hj⟩
theorem fs.I {I0 J0 I J : cw_M} (h : fs I0 J0 I J) {o : Nat} (ho : 10 ≤ o ∧ o ≤ 13) (f : Nat → Int32) : fs I0 J0 (cw_up I o f) J := ⟨fun p h1 h2 => by
  have : p ≠ o := fun z => h2 (by rw [z]; exact ho)
  simp only [cw_up, if_neg this]
  exact h.1 p h1 h2, h.2.1, h.2.2.1, h.2.2.2⟩
theorem fs.J {I0 J0 I J : cw_M} (h : fs I0 J0 I J) {f : Nat → Int32} (hf : ∀ j, 212 ≤ j → f j = J 1 j) : fs I0 J0 I (cw_up J 1 f) := ⟨h.1, fun o h0 h1 => by
  simp only [cw_up, if_neg h1]
  exact h.2.1 o h0 h1, h.2.2.1, fun j hj => (hf j hj).trans (h.2.2.2 j hj)⟩
/-- the values read so far: of all siblings below k, of k itself the first i -/
def su_v (n k i : Nat) (v : Nat → Nat → Nat) (f13 m : Nat → Int32) : Prop := ∀ s c, c < n → (s < k ∨ (s = k ∧ c < i)) → v s c ≤ 9 ∧ f13 (s * 24 + c) = nI (v s c) ∧ m (33 + s * 31 + c) = nI (v s c)
/-- the setup read so far: kn names, kv siblings with all their values, i values of the next -/
def su (n kn kv i : Nat) (v : Nat → Nat → Nat) (nl : Nat → Nat) (nb : Nat → Nat → Int32) (I J : cw_M) : Prop := I 10 0 = nI n ∧ J 1 0 = nI n ∧ J 1 1 = nI kv ∧ 1 ≤ n ∧ n ≤ 24 ∧ kn ≤ 6 ∧ sp_NM kn nl nb (I 11) (I 12) ∧ sp_NB kn nl nb (J 1) ∧ su_v n kv i v (I 13) (J 1) ∧ ∀ c, c < n → J 1 (2 + c) = -1
theorem su.kf {n kn kv i : Nat} {v : Nat → Nat → Nat} {nl : Nat → Nat} {nb : Nat → Nat → Int32} {I J I2 J2 : cw_M} (h : su n kn kv i v nl nb I J) (g : kf I J I2 J2) : su n kn kv i v nl nb I2 J2 := by
  unfold su
  rw [g.1 10 (by omega), g.1 11 (by omega), g.1 12 (by omega), g.1 13 (by omega), g.2.1 1 (by omega)]
  exact h
section SIB
variable {K : cw_K} {I J I0 J0 : cw_M} {L kd a e n k : Nat} {va : Int32} {v : Nat → Nat → Nat} {nl : Nat → Nat} {nb : Nat → Nat → Int32}
/-- the name's letters copied -/
def nm_c (f t : Nat → Int32) (b a i : Nat) : Nat → Int32 := fun j => if b ≤ j ∧ j < b + i then t (a + (j - b)) else f j
theorem nm_c_0 (f t : Nat → Int32) (b a : Nat) : nm_c f t b a 0 = f := by
  funext j
  unfold nm_c
  rw [if_neg (by omega)]
theorem nm_c_upd (f t : Nat → Int32) (b a i : Nat) : upd (nm_c f t b a i) (b + i) (t (a + i)) = nm_c f t b a (i + 1) := by
  funext j
  simp only [upd, nm_c]
  by_cases z : j = b + i
  · rw [if_pos z, if_pos (by omega), z, show b + i - b = i by omega]
  · rw [if_neg z]
    by_cases y : b ≤ j ∧ j < b + i
    · rw [if_pos y, if_pos (by omega)]
    · rw [if_neg y, if_neg (by omega)]
theorem sc_putName {s len : Nat} (hs : s < 6) (hl : len ≤ 6) (ha : a + len ≤ 600) : cw_C (cc_w K) mX1_putName [.ref (cw_a (cc_w K) 10), .int (nI s), .ref (cw_a (cc_w K) 1), .int (nI a), .int (nI len)] I none (cw_st (cw_up I 11 (nm_c (I 11) (I 2) (s * 6) a len)) 12 s (nI len)) := by
  have loop : ∀ d i : Nat, i + d = len → bX1_putName_10_1_3 K none (cw_st (cw_up I 11 (nm_c (I 11) (I 2) (s * 6) a len)) 12 s (nI len)) (nI s) (nI a) (nI len) (nI i) (cw_up I 11 (nm_c (I 11) (I 2) (s * 6) a i)) := by
    intro d
    induction d with
    | zero =>
      intro i hi
      have e0 : i = len := by omega
      subst e0
      exact tbX1_putName_10_1_3 (br_t (Int32.le_refl _) ⟨vp_in_nI (by omega) (by omega), rfl, by rw [nI_clamp (by omega)]⟩)
    | succ d ih =>
      intro i hi
      refine tbX1_putName_10_1_3 (br_f (fun z => absurd ((nI_leI (by omega) (by omega)).mp z) (by omega)) ⟨by rw [nI_add]; exact vp_in_nI (by omega) (by omega), by rw [sp_6]; exact vp_in_nI (by omega) (by omega), ?_⟩)
      have h := ih (i + 1) (by omega)
      rw [sp_6, nI_add, nI_clamp (by omega), nI_clamp (by omega), nI_1, tp_upst, show (cw_up I 11 (nm_c (I 11) (I 2) (s * 6) a i)) 2 = I 2 from rfl, nm_c_upd]
      exact h
  refine eX1_putName_10_1 ?_
  have h := loop len 0 (by omega)
  rw [nm_c_0, sp_upself] at h
  exact h
/-- the reference's copy of a name -/
theorem sr_copyName {s len : Nat} {r : Option Value} {F : cw_M} (hs : s < 6) (hl : len ≤ 6) (ha : a + len ≤ 600) (h15 : J 0 15 = nI (a + len)) (h17 : J 0 17 = nI a) (hn : (∃ J_126 : cw_M, rw_C K mY11_token [.ref (cw_a (cc_w K) 0)] (cw_up J 1 (nm_c (J 1) (J 3) (27 + s * 31) a len)) none J_126 ∧ bY11_parseNewSibling_0_131 K r F (26 + nI s * 31) 0 J_126)) : bY11_parseNewSibling_0_90 K r F (26 + nI s * 31) (nI a) J := by
  have loop : ∀ d i : Nat, i + d = len → bY11_parseNewSibling_0_90 K r F (26 + nI s * 31) (nI (a + i)) (cw_up J 1 (nm_c (J 1) (J 3) (27 + s * 31) a i)) := by
    intro d
    induction d with
    | zero =>
      intro i hi
      have e0 : i = len := by omega
      subst e0
      refine tbY11_parseNewSibling_0_90 (br_t ?_ hn)
      rw [show (cw_up J 1 (nm_c (J 1) (J 3) (27 + s * 31) a i)) 0 15 = J 0 15 from rfl, h15]
      exact Int32.le_refl _
    | succ d ih =>
      intro i hi
      have e1 : 26 + nI s * 31 + 1 + nI (a + i) - (cw_up J 1 (nm_c (J 1) (J 3) (27 + s * 31) a i)) 0 17 = nI (27 + s * 31 + i) := by
        rw [show (cw_up J 1 (nm_c (J 1) (J 3) (27 + s * 31) a i)) 0 17 = nI a from h17, sp_ixn2, sp_sub (by omega)]
        congr 1
        omega
      refine tbY11_parseNewSibling_0_90 (br_f ?_ ⟨vp_in_nI (by omega) (by omega), ?_, ?_⟩)
      · rw [show (cw_up J 1 (nm_c (J 1) (J 3) (27 + s * 31) a i)) 0 15 = J 0 15 from rfl, h15]
        exact fun z => absurd ((nI_leI (by omega) (by omega)).mp z) (by omega)
      · rw [e1]; exact vp_in_nI (by omega) (by omega)
      · have h := ih (i + 1) (by omega)
        rw [e1, nI_clamp (by omega), nI_clamp (by omega), nI_1, tp_upst, show (cw_up J 1 (nm_c (J 1) (J 3) (27 + s * 31) a i)) 3 = J 3 from rfl, nm_c_upd]
        exact h
  have h := loop len 0 (by omega)
  rw [nm_c_0, sp_upself] at h
  exact h
/-- the outcome of reading one sibling -/
def sib_o (L n k : Nat) (I0 J0 : cw_M) (b : Int32) (I2 J2 : cw_M) : Prop := (b = 0 ∧ sp_RE I2 J2 ∧ fs I0 J0 I2 J2) ∨ (b = 1 ∧ fs I0 J0 I2 J2 ∧ (∃ kd a e va, cu L kd a e va I2 J2) ∧ ∃ v nl nb, su n (k + 1) (k + 1) 0 v nl nb I2 J2)
theorem sib_vals (hk : k < 6) : ∀ (d i : Nat) (I J : cw_M) (v : Nat → Nat → Nat) (kd a e : Nat) (va : Int32), i + d = n → cu L kd a e va I J → fs I0 J0 I J → su n (k + 1) k i v nl nb I J → ∃ b I2 J2, bX5_readSibling_15_10_22 K (some (.int b)) I2 (nI k) (nI i) I ∧ bY11_parseNewSibling_0_131 K (some (.int b)) J2 (26 + nI k * 31) (nI i) J ∧ sib_o L n k I0 J0 b I2 J2 := by
  intro d
  induction d with
  | zero =>
    intro i I J v kd a e va hi hc hf hs
    have hs0 := hs
    obtain ⟨s1, s2, s3, s4, s5, s6, s7, s8, s9, s10⟩ := hs0
    have e0 : i = n := by omega
    obtain ⟨b, I2, J2, a1, b1, ho⟩ := ks_semicolon (K := K) hc
    have cI : I 10 0 ≤ nI i := by rw [s1, e0]; exact Int32.le_refl _
    have cJ : J 1 0 ≤ nI i := by rw [s2, e0]; exact Int32.le_refl _
    rcases ho with ⟨rfl, hr, hk2⟩ | ⟨rfl, hcu, hk2⟩
    · exact ⟨0, I2, J2, tbX5_readSibling_15_10_22 (br_t cI ⟨_, _, a1, Or.inl rfl, rfl, rfl⟩), tbY11_parseNewSibling_0_131 (br_t cJ ⟨_, _, b1, fun q => absurd rfl q, fun _ => ⟨rfl, rfl⟩⟩), Or.inl ⟨rfl, hr, hf.kf hk2⟩⟩
    · have hs2 := hs.kf hk2
      obtain ⟨t1, t2, t3, t4, t5, t6, t7, t8, t9, t10⟩ := hs2
      have hf2 := hf.kf hk2
      have hlow : ∀ j, j ≠ 1 → upd (J2 1) 1 (nI (k + 1)) j = J2 1 j := fun j hj => sp_upd_ne _ _ hj
      have e3 : J2 1 1 + 1 = nI (k + 1) := by rw [t3, nI_1]
      refine ⟨1, I2, cw_st J2 1 1 (nI (k + 1)), tbX5_readSibling_15_10_22 (br_t cI ⟨_, _, a1, Or.inr rfl, rfl, rfl⟩), tbY11_parseNewSibling_0_131 (br_t cJ ⟨_, _, b1, fun _ => ⟨rfl, by rw [e3]⟩, fun q => absurd q (by decide)⟩), Or.inr ⟨rfl, hf2.J (fun j hj => hlow j (by omega)), hcu, v, nl, nb, t1, ?_, ?_, t4, t5, t6, t7, ?_, ?_, ?_⟩⟩
      · exact (hlow 0 (by omega)).trans t2
      · exact sp_st_at J2 1 1 _
      · exact fun s hs => ⟨(hlow _ (by omega)).trans (t8 s hs).1, fun i hi => (hlow _ (by omega)).trans ((t8 s hs).2 i hi)⟩
      · intro s c hcn hh
        have h9 := t9 s c hcn (by omega)
        exact ⟨h9.1, h9.2.1, (hlow _ (by omega)).trans h9.2.2⟩
      · exact fun c hc => (hlow _ (by omega)).trans (t10 c hc)
  | succ d ih =>
    intro i I J v kd a e va hi hc hf hs
    have hs0 := hs
    obtain ⟨s1, s2, s3, s4, s5, s6, s7, s8, s9, s10⟩ := hs0
    have cI : ¬ I 10 0 ≤ nI i := by rw [s1]; exact fun z => absurd ((nI_leI (by omega) (by omega)).mp z) (by omega)
    have cJ : ¬ J 1 0 ≤ nI i := by rw [s2]; exact fun z => absurd ((nI_leI (by omega) (by omega)).mp z) (by omega)
    obtain ⟨b, I2, J2, a1, b1, ho⟩ := ks_ranged (K := K) hc (to := 33 + k * 31 + i) (lo := 0) (hi := 9) (by omega) (by omega) (by omega)
    rw [← sp_ixr] at b1
    rcases ho with ⟨rfl, hr, hk2⟩ | ⟨rfl, x, _, hx, h5, ⟨kd2, a2, e2, va2, hcu⟩, hk2⟩
    · exact ⟨0, I2, J2, tbX5_readSibling_15_10_22 (br_f cI ⟨_, _, a1, fun q => absurd rfl q, fun _ => ⟨rfl, rfl⟩⟩), tbY11_parseNewSibling_0_131 (br_f cJ ⟨_, _, b1, fun q => absurd rfl q, fun _ => ⟨rfl, rfl⟩⟩), Or.inl ⟨rfl, hr, hf.kf hk2⟩⟩
    · have eJ : J2 1 = upd (J 1) (33 + k * 31 + i) (nI x) := by rw [hk2.2.1 1 (by omega)]; simp [cw_st, cw_up]
      have hlow : ∀ j, j ≠ 33 + k * 31 + i → J2 1 j = J 1 j := fun j hj => by rw [eJ]; exact sp_upd_ne _ _ hj
      have eI : ∀ o, o ≠ 15 → I2 o = I o := hk2.1
      have hf1 : fs I0 J0 I (cw_st J 1 (33 + k * 31 + i) (nI x)) := hf.J (fun j hj => sp_upd_ne _ _ (by omega))
      have hf3 : fs I0 J0 (cw_st I2 13 (k * 24 + i) (nI x)) J2 := (hf1.kf hk2).I (o := 13) (by omega) _
      have e13 : ∀ j, j ≠ k * 24 + i → upd (I2 13) (k * 24 + i) (nI x) j = I 13 j := fun j hj => by rw [sp_upd_ne _ _ hj, eI 13 (by omega)]
      have hs3 : su n (k + 1) k (i + 1) (fun s c => if s = k ∧ c = i then x else v s c) nl nb (cw_st I2 13 (k * 24 + i) (nI x)) J2 := by
        refine ⟨?_, (hlow 0 (by omega)).trans s2, (hlow 1 (by omega)).trans s3, s4, s5, s6, ?_, fun s hs => ⟨(hlow _ (by omega)).trans (s8 s hs).1, fun i hi => ?_⟩, fun s c hcn hh => ?_, fun c hc => (hlow _ (by omega)).trans (s10 c hc)⟩
        · show I2 10 0 = nI n
          rw [eI 10 (by omega)]; exact s1
        · show sp_NM (k + 1) nl nb (I2 11) (I2 12)
          rw [eI 11 (by omega), eI 12 (by omega)]; exact s7
        · have h6 := (s7 s hs).1
          exact (hlow _ (by omega)).trans ((s8 s hs).2 i hi)
        · show (if s = k ∧ c = i then x else v s c) ≤ 9 ∧ upd (I2 13) (k * 24 + i) (nI x) (s * 24 + c) = nI (if s = k ∧ c = i then x else v s c) ∧ J2 1 (33 + s * 31 + c) = nI (if s = k ∧ c = i then x else v s c)
          by_cases w : s = k ∧ c = i
          · obtain ⟨rfl, rfl⟩ := w
            rw [if_pos ⟨rfl, rfl⟩, sp_upd_same, eJ, sp_upd_same]
            exact ⟨hx, rfl, rfl⟩
          · have h9 := s9 s c hcn (by omega)
            rw [if_neg w, e13 _ (by omega), hlow _ (by omega)]
            exact h9
      have hcu3 : cu L kd2 a2 e2 va2 (cw_st I2 13 (k * 24 + i) (nI x)) J2 := hcu
      obtain ⟨b, I4, J4, a4, b4, ho4⟩ := ih (i + 1) _ _ _ _ _ _ _ (by omega) hcu3 hf3 hs3
      refine ⟨b, I4, J4, tbX5_readSibling_15_10_22 (br_f cI ⟨_, _, a1, fun _ => ⟨_, eX1_putValue_10 ⟨?_, rfl, rfl⟩, ?_⟩, fun q => absurd q (by decide)⟩), tbY11_parseNewSibling_0_131 (br_f cJ ⟨_, _, b1, fun _ => ?_, fun q => absurd q (by decide)⟩), ho4⟩
      · rw [sp_24]; exact vp_in_nI (by omega) (by omega)
      · rw [sp_24, nI_clamp (by omega), h5, nI_1]; exact a4
      · rw [nI_1]; exact b4
/-- one sibling, from its word on -/
theorem sib_read (hFC : cw_FC K) (hk : k < 6) (hc : cu L kd a e va I J) (hf : fs I0 J0 I J) (hs : su n k k 0 v nl nb I J) (h101 : I 10 1 = nI k) (hw : cw_C (cc_w K) mX5_isWord [.ref (cw_a (cc_w K) 15), .ref (cw_sd K 1)] I (some (.int 1)) I) : ∃ b I2 J2, cw_C (cc_w K) mX5_readSibling [.ref (cw_a (cc_w K) 15), .ref (cw_a (cc_w K) 10), .int (nI k)] I (some (.int b)) I2 ∧ rw_C K mY11_parseNewSibling [.ref (cw_a (cc_w K) 0)] J (some (.int b)) J2 ∧ sib_o L n k I0 J0 b I2 J2 := by
  obtain ⟨kd1, a1, e1, va1, I1, J1, n1, m1, hc1, hk1, _⟩ := kn_next (K := K) hc
  have hf1 := hf.kf hk1
  have hs1 := hs.kf hk1
  have hs0 := hs1
  obtain ⟨s1, s2, s3, s4, s5, s6, s7, s8, s9, s10⟩ := hs0
  have h3 : J 1 1 = nI k := hs.2.2.1
  have j16 : ¬ J 1 1 = 6 := by rw [h3]; exact fun q => absurd ((nI_eq (b := 6) (by omega) (by omega)).mp q) (by omega)
  have tw : cw_C (cc_w K) mX5_takeWord [.ref (cw_a (cc_w K) 15), .ref (cw_sd K 1)] I (some (.int 1)) I1 := eX5_takeWord_15 ⟨_, _, hw, fun _ => ⟨_, n1, rfl, rfl⟩, fun q => absurd q (by decide)⟩
  have hI := cu_cI hc1 (c := 1) (by omega)
  have hJ := cu_cJ hc1 (c := 1) (by omega)
  have hc0 := hc1
  obtain ⟨⟨hL, _, _, t4⟩, ⟨g1, g2, g3⟩, h1, h2, h3', h4, h5, h6, h7, h8⟩ := hc0
  have eI : I1 15 4 - I1 15 3 = nI (e1 - a1) := by rw [h2, h3']; exact sp_sub g1
  have eJ : J1 0 15 - J1 0 17 = nI (e1 - a1) := by rw [h4, h6]; exact sp_sub g1
  by_cases z : kd1 = 1
  · by_cases y : e1 - a1 ≤ 6
    · have yI : ¬ 6 < I1 15 4 - I1 15 3 := by rw [eI]; exact fun q => absurd ((nI_ltI (a := 6) (by omega) (by omega)).mp q) (by omega)
      have yJ : J1 0 15 - J1 0 17 ≤ 6 := by rw [eJ]; exact nI_le (b := 6) y (by omega)
      have k1 : I1 10 1 = nI k := by rw [hk1.1 10 (by omega)]; exact h101
      obtain ⟨r, hr, fa, fb⟩ := sn_10 (K := K) (a := a1) (len := e1 - a1) (by omega) k1 s3 s7 s8 t4 hL (by omega)
      rw [← eI, ← h2] at fa
      rw [← eJ, ← h6] at fb
      have sw : rw_C K mY11_isShortWord [.ref (cw_a (cc_w K) 0)] J1 (some (.int 1)) J1 := eY11_isShortWord_0 ⟨fun _ => ⟨fun _ => ⟨rfl, rfl⟩, fun q => absurd yJ q⟩, fun q => absurd (hJ.mpr z) q⟩
      rcases sp_okw_n1 hr (by omega) with rfl | ⟨hr1, _⟩
      · have pn : cw_C (cc_w K) mX1_putName [.ref (cw_a (cc_w K) 10), .int (nI k), .ref (cw_a (cc_w K) 1), .int (I1 15 3), .int (I1 15 4 - I1 15 3)] I1 none (cw_st (cw_up I1 11 (nm_c (I1 11) (I1 2) (k * 6) a1 (e1 - a1))) 12 k (nI (e1 - a1))) := by
          rw [eI, h2]
          exact sc_putName (K := K) (I := I1) (a := a1) (s := k) (len := e1 - a1) hk y (by omega)
        have hcA : cu L kd1 a1 e1 va1 (cw_st (cw_up I1 11 (nm_c (I1 11) (I1 2) (k * 6) a1 (e1 - a1))) 12 k (nI (e1 - a1))) (cw_up (cw_st J1 1 (26 + k * 31) (nI (e1 - a1))) 1 (nm_c (upd (J1 1) (26 + k * 31) (nI (e1 - a1))) (J1 3) (27 + k * 31) a1 (e1 - a1))) := hc1
        have hlow : ∀ j, j ≠ 26 + k * 31 → ¬ (27 + k * 31 ≤ j ∧ j < 27 + k * 31 + (e1 - a1)) → nm_c (upd (J1 1) (26 + k * 31) (nI (e1 - a1))) (J1 3) (27 + k * 31) a1 (e1 - a1) j = J1 1 j := fun j hj hj2 => by
          unfold nm_c
          rw [if_neg hj2, sp_upd_ne _ _ hj]
        have hfA : fs I0 J0 (cw_st (cw_up I1 11 (nm_c (I1 11) (I1 2) (k * 6) a1 (e1 - a1))) 12 k (nI (e1 - a1))) (cw_up (cw_st J1 1 (26 + k * 31) (nI (e1 - a1))) 1 (nm_c (upd (J1 1) (26 + k * 31) (nI (e1 - a1))) (J1 3) (27 + k * 31) a1 (e1 - a1))) := by
          rw [sp_upup]
          exact ((hf1.I (o := 11) (by omega) _).I (o := 12) (by omega) _).J (fun j hj => hlow j (by omega) (by omega))
        have hsA : su n (k + 1) k 0 v (fun s => if s = k then e1 - a1 else nl s) (fun s i => if s = k then J1 3 (a1 + i) else nb s i) (cw_st (cw_up I1 11 (nm_c (I1 11) (I1 2) (k * 6) a1 (e1 - a1))) 12 k (nI (e1 - a1))) (cw_up (cw_st J1 1 (26 + k * 31) (nI (e1 - a1))) 1 (nm_c (upd (J1 1) (26 + k * 31) (nI (e1 - a1))) (J1 3) (27 + k * 31) a1 (e1 - a1))) := by
          refine ⟨s1, (hlow 0 (by omega) (by omega)).trans s2, (hlow 1 (by omega) (by omega)).trans s3, s4, s5, by omega, fun s hs => ?_, fun s hs => ?_, fun s c hcn hh => ?_, fun c hc => (hlow _ (by omega) (by omega)).trans (s10 c hc)⟩
          · show (if s = k then e1 - a1 else nl s) ≤ 6 ∧ upd (I1 12) k (nI (e1 - a1)) s = nI (if s = k then e1 - a1 else nl s) ∧ ∀ i, i < (if s = k then e1 - a1 else nl s) → nm_c (I1 11) (I1 2) (k * 6) a1 (e1 - a1) (s * 6 + i) = (if s = k then J1 3 (a1 + i) else nb s i)
            by_cases w : s = k
            · subst w
              simp only [if_true]
              refine ⟨y, sp_upd_same _ _ _, fun i hi => ?_⟩
              unfold nm_c
              rw [if_pos (by omega), show a1 + (s * 6 + i - s * 6) = a1 + i by omega]
              exact t4 _ (by omega)
            · simp only [if_neg w]
              have h7 := s7 s (by omega)
              refine ⟨h7.1, (sp_upd_ne _ _ w).trans h7.2.1, fun i hi => ?_⟩
              unfold nm_c
              rw [if_neg (by omega)]
              exact h7.2.2 i hi
          · show nm_c (upd (J1 1) (26 + k * 31) (nI (e1 - a1))) (J1 3) (27 + k * 31) a1 (e1 - a1) (26 + s * 31) = nI (if s = k then e1 - a1 else nl s) ∧ ∀ i, i < (if s = k then e1 - a1 else nl s) → nm_c (upd (J1 1) (26 + k * 31) (nI (e1 - a1))) (J1 3) (27 + k * 31) a1 (e1 - a1) (27 + s * 31 + i) = (if s = k then J1 3 (a1 + i) else nb s i)
            by_cases w : s = k
            · subst w
              simp only [if_true]
              refine ⟨?_, fun i hi => ?_⟩
              · unfold nm_c
                rw [if_neg (by omega), sp_upd_same]
              · unfold nm_c
                rw [if_pos (by omega), show a1 + (27 + s * 31 + i - (27 + s * 31)) = a1 + i by omega]
            · simp only [if_neg w]
              have h7 := s7 s (by omega)
              have h8 := s8 s (by omega)
              refine ⟨(hlow _ (by omega) (by omega)).trans h8.1, fun i hi => (hlow _ (by omega) (by omega)).trans (h8.2 i hi)⟩
          · have h9 := s9 s c hcn hh
            exact ⟨h9.1, h9.2.1, (hlow _ (by omega) (by omega)).trans h9.2.2⟩
        obtain ⟨kd2, a2, e2, va2, I2, J2, n2, m2, hc2, hk2, _⟩ := kn_next (K := K) hcA
        obtain ⟨b, I4, J4, a4, b4, ho4⟩ := sib_vals (K := K) hk n 0 _ _ _ _ _ _ _ (by omega) hc2 (hfA.kf hk2) (hsA.kf hk2)
        refine ⟨b, I4, J4, eX5_readSibling_15_10 hFC ⟨_, _, tw, fun q => absurd q (by decide), fun _ => ⟨_, _, eX5_takeNewName_15_10 ⟨fun _ => ⟨fun q => absurd q yI, fun _ => ⟨_, _, fa, fun _ => ⟨_, pn, _, n2, rfl, rfl⟩, fun q => absurd rfl q⟩⟩, fun q => absurd (hI.mpr z) q⟩, fun _ => a4, fun q => absurd q (by decide)⟩⟩, eY11_parseNewSibling_0 ⟨fun _ => ⟨_, m1, _, _, sw, fun _ => ⟨_, _, fb, fun _ => ?_, fun q => absurd rfl q⟩, fun q => absurd q (by decide)⟩, fun q => absurd q j16⟩, ho4⟩
        rw [s3, sp_ixn, nI_clamp (by omega), eJ, ← sp_ixn]
        refine ⟨by rw [sp_ixn]; exact vp_in_nI (by omega) (by omega), ?_⟩
        rw [show (cw_st J1 1 (26 + k * 31) (nI (e1 - a1))) 0 17 = nI a1 from h6]
        refine sr_copyName (K := K) (s := k) (len := e1 - a1) (by omega) y (by omega) ?_ h6 ⟨J2, ?_, b4⟩
        · show J1 0 15 = _
          rw [h4, show a1 + (e1 - a1) = e1 by omega]
        · rw [show (cw_st J1 1 (26 + k * 31) (nI (e1 - a1))) 1 = upd (J1 1) (26 + k * 31) (nI (e1 - a1)) by simp [cw_st, cw_up]]
          exact m2
      · have h2r := kw_RE hc1 3
        refine ⟨0, _, _, eX5_readSibling_15_10 hFC ⟨_, _, tw, fun q => absurd q (by decide), fun _ => ⟨_, _, eX5_takeNewName_15_10 ⟨fun _ => ⟨fun q => absurd q yI, fun _ => ⟨_, _, fa, fun q => absurd q hr1, fun _ => ⟨_, _, sc_refuse 3, Or.inl rfl, rfl, rfl⟩⟩⟩, fun q => absurd (hI.mpr z) q⟩, fun q => absurd rfl q, fun _ => ⟨rfl, rfl⟩⟩⟩, eY11_parseNewSibling_0 ⟨fun _ => ⟨_, m1, _, _, sw, fun _ => ⟨_, _, fb, fun q => absurd q hr1, fun _ => ⟨_, _, sr_wrong 3, Or.inl rfl, rfl, rfl⟩⟩, fun q => absurd q (by decide)⟩, fun q => absurd q j16⟩, Or.inl ⟨rfl, h2r.1, hf1.kf h2r.2⟩⟩
    · have yI : 6 < I1 15 4 - I1 15 3 := by rw [eI]; exact nI_lt (a := 6) (by omega) (by omega)
      have yJ : ¬ J1 0 15 - J1 0 17 ≤ 6 := by rw [eJ]; exact fun q => absurd ((nI_leI (b := 6) (by omega) (by omega)).mp q) (by omega)
      have h2r := kw_RE hc1 3
      exact ⟨0, _, _, eX5_readSibling_15_10 hFC ⟨_, _, tw, fun q => absurd q (by decide), fun _ => ⟨_, _, eX5_takeNewName_15_10 ⟨fun _ => ⟨fun _ => ⟨_, _, sc_refuse 3, Or.inl rfl, rfl, rfl⟩, fun q => absurd yI q⟩, fun q => absurd (hI.mpr z) q⟩, fun q => absurd rfl q, fun _ => ⟨rfl, rfl⟩⟩⟩, eY11_parseNewSibling_0 ⟨fun _ => ⟨_, m1, _, _, eY11_isShortWord_0 ⟨fun _ => ⟨fun q => absurd q yJ, fun _ => ⟨_, _, sr_wrong 3, fun _ => ⟨rfl, rfl⟩, fun q => absurd rfl q⟩⟩, fun q => absurd (hJ.mpr z) q⟩, fun q => absurd rfl q, fun _ => ⟨rfl, rfl⟩⟩, fun q => absurd q j16⟩, Or.inl ⟨rfl, h2r.1, hf1.kf h2r.2⟩⟩
  · have h2r := kw_RE hc1 1
    exact ⟨0, _, _, eX5_readSibling_15_10 hFC ⟨_, _, tw, fun q => absurd q (by decide), fun _ => ⟨_, _, eX5_takeNewName_15_10 ⟨fun q => absurd (hI.mp q) z, fun _ => ⟨_, _, sc_refuse 1, Or.inl rfl, rfl, rfl⟩⟩, fun q => absurd rfl q, fun _ => ⟨rfl, rfl⟩⟩⟩, eY11_parseNewSibling_0 ⟨fun _ => ⟨_, m1, _, _, eY11_isShortWord_0 ⟨fun q => absurd (hJ.mp q) z, fun _ => ⟨_, _, sr_wrong 1, Or.inl rfl, rfl, rfl⟩⟩, fun q => absurd rfl q, fun _ => ⟨rfl, rfl⟩⟩, fun q => absurd q j16⟩, Or.inl ⟨rfl, h2r.1, hf1.kf h2r.2⟩⟩
end SIB
