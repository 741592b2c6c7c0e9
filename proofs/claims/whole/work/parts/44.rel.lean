/-! ## what the law carries along: the class's ints I and the reference's ints J hold the same -/
/-- an owner of k siblings' cake -/
def sp_okw (k : Nat) (x : Int32) : Prop := x = -1 ∨ ∃ s, s < k ∧ x = nI s
def sp_GD (n k : Nat) (v : Nat → Nat → Nat) (ow : Nat → Int32) : Prop := sp_dig v n k ∧ ∀ c, c < n → sp_okw k (ow c)
/-- a block of the reference -/
def sp_BK (n k : Nat) (v : Nat → Nat → Nat) (ow : Nat → Int32) (nl : Nat → Nat) (nb : Nat → Nat → Int32) (f : Nat → Int32) : Prop :=
  f 0 = nI n ∧ f 1 = nI k ∧ (∀ c, c < n → f (2 + c) = ow c) ∧ (∀ s c, s < k → c < n → f (33 + s * 31 + c) = nI (v s c)) ∧ ∀ s, s < k → f (26 + s * 31) = nI (nl s) ∧ ∀ i, i < nl s → f (27 + s * 31 + i) = nb s i
/-- owners and values of the class -/
def sp_PL (n k : Nat) (v : Nat → Nat → Nat) (ow : Nat → Int32) (fo fv : Nat → Int32) : Prop := (∀ c, c < n → fo c = ow c) ∧ ∀ s c, s < k → c < n → fv (s * 24 + c) = nI (v s c)
/-- the class's place p and the reference's block b hold the same earlier state -/
def sp_PB (n k : Nat) (nl : Nat → Nat) (nb : Nat → Nat → Int32) (fo fv m : Nat → Int32) (p b : Nat) : Prop := ∃ (v : Nat → Nat → Nat) (ow : Nat → Int32), sp_GD n k v ow ∧ sp_PL n k v ow (fun c => fo (p * 24 + c)) (fun j => fv (p * 144 + j)) ∧ sp_BK n k v ow nl nb (fun j => m (b * 212 + j))
def sp_NM (k : Nat) (nl : Nat → Nat) (nb : Nat → Nat → Int32) (c6 c7 : Nat → Int32) : Prop := ∀ s, s < k → nl s ≤ 6 ∧ c7 s = nI (nl s) ∧ ∀ i, i < nl s → c6 (s * 6 + i) = nb s i
/-- the cake of now -/
def sp_RC (n k : Nat) (v : Nat → Nat → Nat) (ow : Nat → Int32) (nl : Nat → Nat) (nb : Nat → Nat → Int32) (I : cw_M) (m : Nat → Int32) : Prop := 1 ≤ n ∧ n ≤ 24 ∧ 1 ≤ k ∧ k ≤ 6 ∧ sp_GD n k v ow ∧ I 5 0 = nI n ∧ I 5 1 = nI k ∧ sp_PL n k v ow (I 9) (I 8) ∧ sp_NM k nl nb (I 6) (I 7) ∧ sp_BK n k v ow nl nb m
/-- the earlier states -/
def sp_RU (n k : Nat) (nl : Nat → Nat) (nb : Nat → Nat → Int32) (u q : Nat) (I : cw_M) (ju : Int32) (m js : Nat → Int32) : Prop := I 28 0 = nI u ∧ I 28 2 = nI q ∧ ju = nI u ∧ u ≤ 6 ∧ q < 6 ∧ (∀ i, i < u → sp_PB n k nl nb (I 30) (I 31) m ((q + 6 - u + i) % 6) (i + 1)) ∧ ∀ t, t < 2 → (I 29 t = 0 ∧ js t = 0) ∨ (I 29 t = 1 ∧ js t = 1 ∧ sp_PB n k nl nb (I 30) (I 31) m (6 + t) (7 + t))
def sp_RT (I J : cw_M) : Prop := ∃ L, L ≤ 600 ∧ I 1 1 = nI L ∧ J 0 4 = nI L ∧ ∀ j, j < L → I 2 j = J 3 j
def sp_RO (I J : cw_M) : Prop := ∃ W, W ≤ 240 ∧ I 3 1 = nI W ∧ J 0 8 = nI W ∧ ∀ j, j < W → I 4 j = J 4 j
def sp_RE (I J : cw_M) : Prop := I 15 0 = J 0 5 ∧ I 15 1 = J 0 6
def sp_P (n k : Nat) (v : Nat → Nat → Nat) (ow : Nat → Int32) (nl : Nat → Nat) (nb : Nat → Nat → Int32) (u q : Nat) (I J : cw_M) : Prop := sp_RC n k v ow nl nb I (J 1) ∧ sp_RU n k nl nb u q I (J 0 2) (J 1) (J 2) ∧ sp_RT I J ∧ sp_RO I J ∧ sp_RE I J
def sp_Rel (I J : cw_M) : Prop := ∃ (n k : Nat) (v : Nat → Nat → Nat) (ow : Nat → Int32) (nl : Nat → Nat) (nb : Nat → Nat → Int32) (u q : Nat), sp_P n k v ow nl nb u q I J
/-- both answer, and the same -/
def sp_Q (K : cw_K) (mc mr : cw_Me) (a : List Value) (I J : cw_M) : Prop := ∃ (r : Int32) (I2 J2 : cw_M), cw_C (cc_w K) mc (.ref (cw_a (cc_w K) 0) :: a) I (some (.int r)) I2 ∧ cw_C (cr_w K) mr (.ref (cw_a (cr_w K) 0) :: a) J (some (.int r)) J2 ∧ J2 0 9 = 0 ∧ sp_Rel I2 J2
/-- the class throws an E, and the reference says t -/
def sp_X (K : cw_K) (mc mr : cw_Me) (a : List Value) (E : String) (t : Int32) (I J : cw_M) : Prop := ∃ (r : Int32) (I2 J2 : cw_M), cw_T (cc_w K) mc (.ref (cw_a (cc_w K) 0) :: a) I E I2 ∧ cw_C (cr_w K) mr (.ref (cw_a (cr_w K) 0) :: a) J (some (.int r)) J2 ∧ J2 0 9 = t ∧ sp_Rel I2 J2
section REL
variable {n k u q : Nat} {v : Nat → Nat → Nat} {ow : Nat → Int32} {nl : Nat → Nat} {nb : Nat → Nat → Int32}
theorem sp_RC.cv {I : cw_M} {m : Nat → Int32} (h : sp_RC n k v ow nl nb I m) : sp_cv n k v I := by
  obtain ⟨_, a2, _, a4, ⟨a5, _⟩, a7, a8, ⟨_, a10⟩, _⟩ := h
  exact ⟨a7, a8, a2, a4, a5, a10⟩
theorem sp_RC.rv {I J : cw_M} (h : sp_RC n k v ow nl nb I (J 1)) : sp_rv n k v J := by
  obtain ⟨_, a2, _, a4, ⟨a5, _⟩, _, _, _, _, b1, b2, _, b4, _⟩ := h
  exact ⟨b1, b2, a2, a4, a5, b4⟩
theorem sp_RC.oI {I : cw_M} {m : Nat → Int32} (h : sp_RC n k v ow nl nb I m) : ∀ c, c < n → I 9 c = ow c := h.2.2.2.2.2.2.2.1.1
theorem sp_RC.oJ {I : cw_M} {m : Nat → Int32} (h : sp_RC n k v ow nl nb I m) : ∀ c, c < n → m (2 + c) = ow c := h.2.2.2.2.2.2.2.2.2.2.2.1
theorem sp_RC.n1 {I : cw_M} {m : Nat → Int32} (h : sp_RC n k v ow nl nb I m) : 1 ≤ n := h.1
theorem sp_RC.n24 {I : cw_M} {m : Nat → Int32} (h : sp_RC n k v ow nl nb I m) : n ≤ 24 := h.2.1
theorem sp_RC.k1 {I : cw_M} {m : Nat → Int32} (h : sp_RC n k v ow nl nb I m) : 1 ≤ k := h.2.2.1
theorem sp_RC.k6 {I : cw_M} {m : Nat → Int32} (h : sp_RC n k v ow nl nb I m) : k ≤ 6 := h.2.2.2.1
theorem sp_RC.nl6 {I : cw_M} {m : Nat → Int32} (h : sp_RC n k v ow nl nb I m) : ∀ s, s < k → nl s ≤ 6 := fun s hs => (h.2.2.2.2.2.2.2.2.1 s hs).1
theorem sp_BK.cg {f g : Nat → Int32} (h : sp_BK n k v ow nl nb f) (hn : n ≤ 24) (hk : k ≤ 6) (hnl : ∀ s, s < k → nl s ≤ 6) (e : ∀ j, j < 212 → g j = f j) : sp_BK n k v ow nl nb g := by
  obtain ⟨b1, b2, b3, b4, b5⟩ := h
  refine ⟨by rw [e 0 (by omega)]; exact b1, by rw [e 1 (by omega)]; exact b2, fun c hc => by rw [e (2 + c) (by omega)]; exact b3 c hc, fun s c hs hc => by rw [e (33 + s * 31 + c) (by omega)]; exact b4 s c hs hc, fun s hs => ⟨by rw [e (26 + s * 31) (by omega)]; exact (b5 s hs).1, fun i hi => ?_⟩⟩
  have := hnl s hs
  rw [e (27 + s * 31 + i) (by omega)]
  exact (b5 s hs).2 i hi
/-- the same state elsewhere -/
theorem sp_PB.mv {fo fv m fo2 fv2 m2 : Nat → Int32} {p b p2 b2 : Nat} (h : sp_PB n k nl nb fo fv m p b) (hn : n ≤ 24) (hk : k ≤ 6) (hnl : ∀ s, s < k → nl s ≤ 6) (eo : ∀ c, c < 24 → fo2 (p2 * 24 + c) = fo (p * 24 + c)) (ev : ∀ j, j < 144 → fv2 (p2 * 144 + j) = fv (p * 144 + j)) (em : ∀ j, j < 212 → m2 (b2 * 212 + j) = m (b * 212 + j)) : sp_PB n k nl nb fo2 fv2 m2 p2 b2 := by
  obtain ⟨v, ow, g, ⟨p1, p3⟩, bk⟩ := h
  exact ⟨v, ow, g, ⟨fun c hc => (eo c (by omega)).trans (p1 c hc), fun s c hs hc => (ev (s * 24 + c) (by omega)).trans (p3 s c hs hc)⟩, bk.cg hn hk hnl em⟩
theorem sp_RC.m {I : cw_M} {m m2 : Nat → Int32} (h : sp_RC n k v ow nl nb I m) (e : ∀ j, j < 212 → m2 j = m j) : sp_RC n k v ow nl nb I m2 := by
  have hnl := h.nl6
  obtain ⟨a1, a2, a3, a4, a5, a7, a8, a9, a11, b⟩ := h
  exact ⟨a1, a2, a3, a4, a5, a7, a8, a9, a11, b.cg a2 a4 hnl e⟩
theorem sp_RU.m {I : cw_M} {ju : Int32} {m m2 js : Nat → Int32} (h : sp_RU n k nl nb u q I ju m js) (hn : n ≤ 24) (hk : k ≤ 6) (hnl : ∀ s, s < k → nl s ≤ 6) (e : ∀ j, 212 ≤ j → j < 1908 → m2 j = m j) : sp_RU n k nl nb u q I ju m2 js := by
  obtain ⟨a1, a2, a3, a4, a5, a6, a7⟩ := h
  refine ⟨a1, a2, a3, a4, a5, fun i hi => (a6 i hi).mv hn hk hnl (fun _ _ => rfl) (fun _ _ => rfl) (fun j hj => e _ (by omega) (by omega)), fun t ht => ?_⟩
  rcases a7 t ht with z | ⟨z1, z2, z3⟩
  · exact Or.inl z
  · exact Or.inr ⟨z1, z2, z3.mv hn hk hnl (fun _ _ => rfl) (fun _ _ => rfl) (fun j hj => e _ (by omega) (by omega))⟩
theorem sp_P.low {I J : cw_M} (h : sp_P n k v ow nl nb u q I J) {m : Nat → Int32} (e : ∀ j, j < 1908 → m j = J 1 j) : sp_P n k v ow nl nb u q I (cw_up J 1 m) := by
  obtain ⟨hc, hu, ht, ho, he⟩ := h
  exact ⟨hc.m (fun j hj => e j (by omega)), hu.m hc.n24 hc.k6 hc.nl6 (fun j _ hj => e j hj), ht, ho, he⟩
theorem sp_Rel.low {I J : cw_M} (h : sp_Rel I J) {m : Nat → Int32} (e : ∀ j, j < 1908 → m j = J 1 j) : sp_Rel I (cw_up J 1 m) := by
  obtain ⟨n, k, v, ow, nl, nb, u, q, h⟩ := h
  exact ⟨n, k, v, ow, nl, nb, u, q, h.low e⟩
theorem sp_Rel.RE {I J : cw_M} (h : sp_Rel I J) : sp_RE I J := by
  obtain ⟨n, k, v, ow, nl, nb, u, q, h⟩ := h
  exact h.2.2.2.2
theorem sp_cb9 (f : Nat → Int32) {j : Nat} (hj : j < 1908) : sp_cb f 0 9 j = f j := by
  unfold sp_cb sp_cbp
  rw [if_neg (by omega)]
theorem sp_Rel.A {I J : cw_M} (h : sp_Rel I J) : sp_Rel I (sp_A J) := by
  have h1 : sp_Rel I (cw_st J 0 9 0) := h
  exact h1.low (fun j hj => sp_cb9 (J 1) hj)
end REL
section RELQ
variable {K : cw_K} {I J : cw_M}
theorem ca_cellCount (h : sp_Rel I J) : sp_Q K mX10_cellCount mX11_cellCount [] I J := by
  have hh := h
  obtain ⟨n, k, v, ow, nl, nb, u, q, hc, hu, _⟩ := hh
  exact ⟨_, _, _, fc_cellCount hc.cv, fr_cellCount hc.rv, rfl, h⟩
theorem ca_siblingCount (h : sp_Rel I J) : sp_Q K mX10_siblingCount mX11_siblingCount [] I J := by
  have hh := h
  obtain ⟨n, k, v, ow, nl, nb, u, q, hc, hu, _⟩ := hh
  exact ⟨_, _, _, fc_siblingCount hc.cv, fr_siblingCount hc.rv, rfl, h⟩
theorem ca_freeCount (h : sp_Rel I J) : sp_Q K mX10_freeCount mX11_freeCount [] I J := by
  have hh := h
  obtain ⟨n, k, v, ow, nl, nb, u, q, hc, hu, _⟩ := hh
  exact ⟨_, _, _, fc_freeCount hc.cv hc.k1 hc.oI, fr_freeCount hc.rv hc.n1 hc.k1 hc.oJ, rfl, h⟩
theorem ca_envyCount (h : sp_Rel I J) : sp_Q K mX10_envyCount mX11_envyCount [] I J := by
  have hh := h
  obtain ⟨n, k, v, ow, nl, nb, u, q, hc, hu, _⟩ := hh
  exact ⟨_, _, _, fc_envyCount hc.cv hc.k1 hc.oI, fr_envyCount hc.rv hc.n1 hc.k1 hc.oJ, rfl, h⟩
theorem ca_satisfiedCount (h : sp_Rel I J) : sp_Q K mX10_satisfiedCount mX11_satisfiedCount [] I J := by
  have hh := h
  obtain ⟨n, k, v, ow, nl, nb, u, q, hc, hu, _⟩ := hh
  exact ⟨_, _, _, fc_satisfiedCount hc.cv hc.k1 hc.oI, fr_satisfiedCount hc.rv hc.n1 hc.k1 hc.oJ, rfl, h⟩
theorem ca_leastWelfare (h : sp_Rel I J) : sp_Q K mX10_leastWelfare mX11_leastWelfare [] I J := by
  have hh := h
  obtain ⟨n, k, v, ow, nl, nb, u, q, hc, hu, _⟩ := hh
  exact ⟨_, _, _, fc_leastWelfare hc.cv hc.k1 hc.oI, fr_leastWelfare hc.rv hc.n1 hc.k1 hc.oJ, rfl, h⟩
theorem ca_strongEnvyCount (h : sp_Rel I J) : sp_Q K mX10_strongEnvyCount mX11_strongEnvyCount [] I J := by
  have hh := h
  obtain ⟨n, k, v, ow, nl, nb, u, q, hc, hu, _⟩ := hh
  exact ⟨_, _, _, fc_strongEnvyCount hc.cv hc.oI, sr_strongEnvyCount hc.rv hc.oJ, rfl, h⟩
theorem ca_mostEnvied (h : sp_Rel I J) : sp_Q K mX10_mostEnvied mX11_mostEnvied [] I J := by
  have hh := h
  obtain ⟨n, k, v, ow, nl, nb, u, q, hc, hu, _⟩ := hh
  exact ⟨_, _, _, fc_mostEnvied hc.cv hc.k1 hc.oI, sr_mostEnvied hc.rv hc.k1 hc.oJ, rfl, h⟩
theorem ca_totalWelfare (h : sp_Rel I J) : sp_Q K mX10_totalWelfare mX11_totalWelfare [] I J := by
  have hh := h
  obtain ⟨n, k, v, ow, nl, nb, u, q, hc, hu, _⟩ := hh
  exact ⟨_, _, _, sc_totalWelfare hc.cv hc.oI, sr_totalWelfare hc.rv hc.oJ, rfl, h⟩
theorem ca_welfareProduct (h : sp_Rel I J) : ∃ (r : Int64) (I2 J2 : cw_M), cw_C (cc_w K) mX10_welfareProduct [.ref (cw_a (cc_w K) 0)] I (some (.long r)) I2 ∧ cw_C (cr_w K) mX11_welfareProduct [.ref (cw_a (cr_w K) 0)] J (some (.long r)) J2 ∧ J2 0 9 = 0 ∧ sp_Rel I2 J2 := by
  have hh := h
  obtain ⟨n, k, v, ow, nl, nb, u, q, hc, hu, _⟩ := hh
  exact ⟨_, _, _, sc_welfareProduct hc.cv hc.oI, sr_welfareProduct hc.rv hc.oJ, rfl, h⟩
theorem ca_greatestTotalWelfare (h : sp_Rel I J) : sp_Q K mX10_greatestTotalWelfare mX11_greatestTotalWelfare [] I J := by
  have hh := h
  obtain ⟨n, k, v, ow, nl, nb, u, q, hc, hu, _⟩ := hh
  exact ⟨_, _, _, sc_greatestTotalWelfare hc.cv, sr_greatestTotalWelfare hc.rv, rfl, h⟩
theorem ca_greatestContiguousWelfare (h : sp_Rel I J) : sp_Q K mX10_greatestContiguousWelfare mX11_greatestContiguousWelfare [] I J := by
  have hh := h
  obtain ⟨n, k, v, ow, nl, nb, u, q, hc, hu, _⟩ := hh
  obtain ⟨f, g1⟩ := fc_greatestContiguousWelfare (K := K) hc.cv
  obtain ⟨f, g2⟩ := fr_greatestContiguousWelfare (K := K) hc.rv hc.k1
  exact ⟨_, _, _, g1, g2, rfl, h⟩
theorem ca_bestLeastWelfare (h : sp_Rel I J) : sp_Q K mX10_bestLeastWelfare mX11_bestLeastWelfare [] I J := by
  have hh := h
  obtain ⟨n, k, v, ow, nl, nb, u, q, hc, hu, _⟩ := hh
  obtain ⟨f, g1⟩ := fc_bestLeastWelfare (K := K) hc.cv
  obtain ⟨f, g2⟩ := fr_bestLeastWelfare (K := K) hc.rv hc.k1
  exact ⟨_, _, _, g1, g2, rfl, h⟩
theorem ca_cutCount (h : sp_Rel I J) : sp_Q K mX10_cutCount mX11_cutCount [] I J := by
  have hh := h
  obtain ⟨n, k, v, ow, nl, nb, u, q, hc, hu, _⟩ := hh
  exact ⟨_, _, _, sc_cutCount hc.cv hc.n1 hc.oI, sr_cutCount hc.rv hc.n1 hc.oJ, rfl, h⟩
theorem ca_meanPieces (h : sp_Rel I J) : ∃ (r : UInt64) (I2 J2 : cw_M), cw_C (cc_w K) mX10_meanPieces [.ref (cw_a (cc_w K) 0)] I (some (.double r)) I2 ∧ cw_C (cr_w K) mX11_meanPieces [.ref (cw_a (cr_w K) 0)] J (some (.double r)) J2 ∧ J2 0 9 = 0 ∧ sp_Rel I2 J2 := by
  have hh := h
  obtain ⟨n, k, v, ow, nl, nb, u, q, hc, hu, _⟩ := hh
  exact ⟨_, _, _, sc_meanPieces hc.cv hc.k1 hc.oI, sr_meanPieces hc.rv hc.k1 hc.oJ, rfl, h⟩
theorem ca_bestFirst (h : sp_Rel I J) : sp_Q K mX10_bestFirst mX11_bestFirst [] I J := by
  have hh := h
  obtain ⟨n, k, v, ow, nl, nb, u, q, hc, hu, _⟩ := hh
  exact ⟨_, _, _, fc_bestFirst hc.cv hc.k1, sr_bestFirst hc.rv hc.k1, rfl, h.A⟩
theorem ca_total (hFT : cw_FT (cw_f (cc_w K))) (hl : K.1.stackTraces = false) (h : sp_Rel I J) {x : Int32} : sp_Q K mX10_total mX11_total [.int x] I J ∨ sp_X K mX10_total mX11_total [.int x] "java/lang/IndexOutOfBoundsException" 1 I J := by
  have hh := h
  obtain ⟨n, k, v, ow, nl, nb, u, q, hc, hu, _⟩ := hh
  have hk := hc.k6
  by_cases z : 0 ≤ x ∧ x < nI k
  · obtain ⟨s, hs, rfl⟩ := sp_inB (by omega) z
    exact Or.inl ⟨_, _, _, fc_total hc.cv hc.oI hs, fr_total hc.rv hc.n1 hc.oJ hs, rfl, h⟩
  · exact Or.inr ⟨_, _, _, ft_total hFT hl hc.cv z, fx_total hc.rv z, rfl, h⟩
theorem ca_shareSize (hFT : cw_FT (cw_f (cc_w K))) (hl : K.1.stackTraces = false) (h : sp_Rel I J) {x : Int32} : sp_Q K mX10_shareSize mX11_shareSize [.int x] I J ∨ sp_X K mX10_shareSize mX11_shareSize [.int x] "java/lang/IndexOutOfBoundsException" 1 I J := by
  have hh := h
  obtain ⟨n, k, v, ow, nl, nb, u, q, hc, hu, _⟩ := hh
  have hk := hc.k6
  by_cases z : 0 ≤ x ∧ x < nI k
  · obtain ⟨s, hs, rfl⟩ := sp_inB (by omega) z
    exact Or.inl ⟨_, _, _, fc_shareSize hc.cv hc.oI hs, fr_shareSize hc.rv hc.n1 hc.oJ hs, rfl, h⟩
  · exact Or.inr ⟨_, _, _, ft_shareSize hFT hl hc.cv z, fx_shareSize hc.rv z, rfl, h⟩
theorem ca_pieceCount (hFT : cw_FT (cw_f (cc_w K))) (hl : K.1.stackTraces = false) (h : sp_Rel I J) {x : Int32} : sp_Q K mX10_pieceCount mX11_pieceCount [.int x] I J ∨ sp_X K mX10_pieceCount mX11_pieceCount [.int x] "java/lang/IndexOutOfBoundsException" 1 I J := by
  have hh := h
  obtain ⟨n, k, v, ow, nl, nb, u, q, hc, hu, _⟩ := hh
  have hk := hc.k6
  by_cases z : 0 ≤ x ∧ x < nI k
  · obtain ⟨s, hs, rfl⟩ := sp_inB (by omega) z
    exact Or.inl ⟨_, _, _, fc_pieceCount hc.cv hc.oI hs, fr_pieceCount hc.rv hc.n1 hc.oJ hs, rfl, h⟩
  · exact Or.inr ⟨_, _, _, ft_pieceCount hFT hl hc.cv z, fx_pieceCount hc.rv z, rfl, h⟩
theorem ca_favouriteFreeCell (hFT : cw_FT (cw_f (cc_w K))) (hl : K.1.stackTraces = false) (h : sp_Rel I J) {x : Int32} : sp_Q K mX10_favouriteFreeCell mX11_favouriteFreeCell [.int x] I J ∨ sp_X K mX10_favouriteFreeCell mX11_favouriteFreeCell [.int x] "java/lang/IndexOutOfBoundsException" 1 I J := by
  have hh := h
  obtain ⟨n, k, v, ow, nl, nb, u, q, hc, hu, _⟩ := hh
  have hk := hc.k6
  by_cases z : 0 ≤ x ∧ x < nI k
  · obtain ⟨s, hs, rfl⟩ := sp_inB (by omega) z
    exact Or.inl ⟨_, _, _, fc_favouriteFreeCell hc.cv hc.oI hs, fr_favouriteFreeCell hc.rv hc.n1 hc.oJ hs, rfl, h⟩
  · exact Or.inr ⟨_, _, _, ft_favouriteFreeCell hFT hl hc.cv z, fx_favouriteFreeCell hc.rv z, rfl, h⟩
theorem ca_isSatisfied (hFT : cw_FT (cw_f (cc_w K))) (hl : K.1.stackTraces = false) (h : sp_Rel I J) {x : Int32} : sp_Q K mX10_isSatisfied mX11_isSatisfied [.int x] I J ∨ sp_X K mX10_isSatisfied mX11_isSatisfied [.int x] "java/lang/IndexOutOfBoundsException" 1 I J := by
  have hh := h
  obtain ⟨n, k, v, ow, nl, nb, u, q, hc, hu, _⟩ := hh
  have hk := hc.k6
  by_cases z : 0 ≤ x ∧ x < nI k
  · obtain ⟨s, hs, rfl⟩ := sp_inB (by omega) z
    exact Or.inl ⟨_, _, _, fc_isSatisfied hc.cv hc.oI hs, fr_isSatisfied hc.rv hc.n1 hc.oJ hs, rfl, h⟩
  · exact Or.inr ⟨_, _, _, ft_isSatisfied hFT hl hc.cv z, fx_isSatisfied hc.rv z, rfl, h⟩
/-- a float that is a quotient of small numbers -/
def sp_fr (r : UInt32) : Prop := r = FP.fconst0 ∨ ∃ m k : Nat, 1 ≤ k ∧ k < 217 ∧ m < 217 ∧ r = FP.fdiv (FP.i2f (nI m)) (FP.i2f (nI k))
theorem sp_sat_fr {v : Nat → Nat → Nat} {ow : Nat → Int32} {n k s : Nat} (h : sp_dig v n k) (hn : n ≤ 24) (hs : s < k) : sp_fr (sp_sat v ow n s) := by
  unfold sp_sat
  by_cases z : sp_s (v s) n = 0
  · rw [if_pos z]; exact Or.inl rfl
  · rw [if_neg z]
    have h1 : sp_s (v s) n ≤ 9 * n := sp_s_le (fun j hj => h s j hs hj)
    have h2 : sp_own v ow s (nI s) n ≤ 9 * n := sp_own_le h hs (Nat.le_refl n)
    exact Or.inr ⟨sp_w v ow n s s, sp_s (v s) n, by omega, by omega, by show sp_own v ow s (nI s) n < 217; omega, rfl⟩
theorem ca_satisfaction (hFT : cw_FT (cw_f (cc_w K))) (hl : K.1.stackTraces = false) (h : sp_Rel I J) {x : Int32} : (∃ (r : UInt32) (I2 J2 : cw_M), cw_C (cc_w K) mX10_satisfaction [.ref (cw_a (cc_w K) 0), .int x] I (some (.float r)) I2 ∧ cw_C (cr_w K) mX11_satisfaction [.ref (cw_a (cr_w K) 0), .int x] J (some (.float r)) J2 ∧ J2 0 9 = 0 ∧ sp_Rel I2 J2 ∧ sp_fr r) ∨ (∃ (r : UInt32) (I2 J2 : cw_M), cw_T (cc_w K) mX10_satisfaction [.ref (cw_a (cc_w K) 0), .int x] I "java/lang/IndexOutOfBoundsException" I2 ∧ cw_C (cr_w K) mX11_satisfaction [.ref (cw_a (cr_w K) 0), .int x] J (some (.float r)) J2 ∧ J2 0 9 = 1 ∧ sp_Rel I2 J2) := by
  have hh := h
  obtain ⟨n, k, v, ow, nl, nb, u, q, hc, hu, _⟩ := hh
  have hk := hc.k6
  by_cases z : 0 ≤ x ∧ x < nI k
  · obtain ⟨s, hs, rfl⟩ := sp_inB (by omega) z
    exact Or.inl ⟨_, _, _, fc_satisfaction hc.cv hc.oI hs, fr_satisfaction hc.rv hc.n1 hc.oJ hs, rfl, h, sp_sat_fr hc.cv.2.2.2.2.1 hc.n24 hs⟩
  · exact Or.inr ⟨_, _, _, ft_satisfaction hFT hl hc.cv z, fx_satisfaction hc.rv z, rfl, h⟩
theorem ca_cutFor (hFT : cw_FT (cw_f (cc_w K))) (hl : K.1.stackTraces = false) (h : sp_Rel I J) {x : Int32} : sp_Q K mX10_cutFor mX11_cutFor [.int x] I J ∨ sp_X K mX10_cutFor mX11_cutFor [.int x] "java/lang/IndexOutOfBoundsException" 1 I J := by
  have hh := h
  obtain ⟨n, k, v, ow, nl, nb, u, q, hc, hu, _⟩ := hh
  have hk := hc.k6
  by_cases z : 0 ≤ x ∧ x < nI k
  · obtain ⟨s, hs, rfl⟩ := sp_inB (by omega) z
    exact Or.inl ⟨_, _, _, fc_cutFor hc.cv hs, fr_cutFor hc.rv hc.n1 hs, rfl, h⟩
  · exact Or.inr ⟨_, _, _, ft_cutFor hFT hl hc.cv z, fx_cutFor hc.rv z, rfl, h⟩
theorem ca_welfareByKnife (hFT : cw_FT (cw_f (cc_w K))) (hl : K.1.stackTraces = false) (h : sp_Rel I J) {x : Int32} : sp_Q K mX10_welfareByKnife mX11_welfareByKnife [.int x] I J ∨ sp_X K mX10_welfareByKnife mX11_welfareByKnife [.int x] "java/lang/IndexOutOfBoundsException" 1 I J := by
  have hh := h
  obtain ⟨n, k, v, ow, nl, nb, u, q, hc, hu, _⟩ := hh
  have hk := hc.k6
  by_cases z : 0 ≤ x ∧ x < nI k
  · obtain ⟨s, hs, rfl⟩ := sp_inB (by omega) z
    obtain ⟨h9, g2⟩ := fr_welfareByKnife (K := K) hc.rv hc.n1 hc.k1 hs
    exact Or.inl ⟨_, _, _, fc_welfareByKnife hc.cv hc.k1 hs, g2, rfl, h.A⟩
  · exact Or.inr ⟨_, _, _, ft_welfareByKnife hFT hl hc.cv z, fx_welfareByKnife hc.rv z, rfl, h⟩
theorem ca_envyCycleLength (hFT : cw_FT (cw_f (cc_w K))) (hl : K.1.stackTraces = false) (h : sp_Rel I J) {x : Int32} : sp_Q K mX10_envyCycleLength mX11_envyCycleLength [.int x] I J ∨ sp_X K mX10_envyCycleLength mX11_envyCycleLength [.int x] "java/lang/IndexOutOfBoundsException" 1 I J := by
  have hh := h
  obtain ⟨n, k, v, ow, nl, nb, u, q, hc, hu, _⟩ := hh
  have hk := hc.k6
  by_cases z : 0 ≤ x ∧ x < nI k
  · obtain ⟨s, hs, rfl⟩ := sp_inB (by omega) z
    obtain ⟨f17, f18, f19, g1⟩ := fc_envyCycleLength (K := K) hc.cv hc.oI hs
    obtain ⟨f5, f6, g2⟩ := fr_envyCycleLength (K := K) hc.rv hc.oJ hs
    exact Or.inl ⟨_, _, _, g1, g2, rfl, h⟩
  · exact Or.inr ⟨_, _, _, ft_envyCycleLength hFT hl hc.cv z, fx_envyCycleLength hc.rv z, rfl, h⟩
theorem ca_owner (hFT : cw_FT (cw_f (cc_w K))) (hl : K.1.stackTraces = false) (h : sp_Rel I J) {x : Int32} : sp_Q K mX10_owner mX11_owner [.int x] I J ∨ sp_X K mX10_owner mX11_owner [.int x] "java/lang/IndexOutOfBoundsException" 1 I J := by
  have hh := h
  obtain ⟨n, k, v, ow, nl, nb, u, q, hc, hu, _⟩ := hh
  have hn := hc.n24
  by_cases z : 0 ≤ x ∧ x < nI n
  · obtain ⟨s, hs2, rfl⟩ := sp_inB (by omega) z
    exact Or.inl ⟨_, _, _, fc_owner hc.cv hc.oI hs2, fr_owner hc.rv hc.oJ hs2, rfl, h⟩
  · exact Or.inr ⟨_, _, _, ft_owner hFT hl hc.cv z, fx_owner hc.rv z, rfl, h⟩
theorem ca_worthOfShare (hFT : cw_FT (cw_f (cc_w K))) (hl : K.1.stackTraces = false) (h : sp_Rel I J) {x y : Int32} : sp_Q K mX10_worthOfShare mX11_worthOfShare [.int x, .int y] I J ∨ sp_X K mX10_worthOfShare mX11_worthOfShare [.int x, .int y] "java/lang/IndexOutOfBoundsException" 1 I J := by
  have hh := h
  obtain ⟨n, k, v, ow, nl, nb, u, q, hc, hu, _⟩ := hh
  have hk := hc.k6
  have hn := hc.n24
  by_cases z : (0 ≤ x ∧ x < nI k) ∧ (0 ≤ y ∧ y < nI k)
  · obtain ⟨s, hs, rfl⟩ := sp_inB (by omega) z.1
    obtain ⟨o, hs2, rfl⟩ := sp_inB (by omega) z.2
    exact Or.inl ⟨_, _, _, fc_worthOfShare hc.cv hc.oI hs hs2, fr_worthOfShare hc.rv hc.n1 hc.oJ hs hs2, rfl, h⟩
  · exact Or.inr ⟨_, _, _, ft_worthOfShare hFT hl hc.cv z, fx_worthOfShare hc.rv z, rfl, h⟩
theorem ca_envies (hFT : cw_FT (cw_f (cc_w K))) (hl : K.1.stackTraces = false) (h : sp_Rel I J) {x y : Int32} : sp_Q K mX10_envies mX11_envies [.int x, .int y] I J ∨ sp_X K mX10_envies mX11_envies [.int x, .int y] "java/lang/IndexOutOfBoundsException" 1 I J := by
  have hh := h
  obtain ⟨n, k, v, ow, nl, nb, u, q, hc, hu, _⟩ := hh
  have hk := hc.k6
  have hn := hc.n24
  by_cases z : (0 ≤ x ∧ x < nI k) ∧ (0 ≤ y ∧ y < nI k)
  · obtain ⟨s, hs, rfl⟩ := sp_inB (by omega) z.1
    obtain ⟨o, hs2, rfl⟩ := sp_inB (by omega) z.2
    exact Or.inl ⟨_, _, _, fc_envies hc.cv hc.oI hs hs2, fr_envies hc.rv hc.n1 hc.oJ hs hs2, rfl, h⟩
  · exact Or.inr ⟨_, _, _, ft_envies hFT hl hc.cv z, fx_envies hc.rv z, rfl, h⟩
theorem ca_wouldSwap (hFT : cw_FT (cw_f (cc_w K))) (hl : K.1.stackTraces = false) (h : sp_Rel I J) {x y : Int32} : sp_Q K mX10_wouldSwap mX11_wouldSwap [.int x, .int y] I J ∨ sp_X K mX10_wouldSwap mX11_wouldSwap [.int x, .int y] "java/lang/IndexOutOfBoundsException" 1 I J := by
  have hh := h
  obtain ⟨n, k, v, ow, nl, nb, u, q, hc, hu, _⟩ := hh
  have hk := hc.k6
  have hn := hc.n24
  by_cases z : (0 ≤ x ∧ x < nI k) ∧ (0 ≤ y ∧ y < nI k)
  · obtain ⟨s, hs, rfl⟩ := sp_inB (by omega) z.1
    obtain ⟨o, hs2, rfl⟩ := sp_inB (by omega) z.2
    exact Or.inl ⟨_, _, _, fc_wouldSwap hc.cv hc.oI hs hs2, fr_wouldSwap hc.rv hc.oJ hs hs2, rfl, h⟩
  · exact Or.inr ⟨_, _, _, ft_wouldSwap hFT hl hc.cv z, fx_wouldSwap hc.rv z, rfl, h⟩
theorem ca_welfareByRobin (hFT : cw_FT (cw_f (cc_w K))) (hl : K.1.stackTraces = false) (h : sp_Rel I J) {x y : Int32} : sp_Q K mX10_welfareByRobin mX11_welfareByRobin [.int x, .int y] I J ∨ sp_X K mX10_welfareByRobin mX11_welfareByRobin [.int x, .int y] "java/lang/IndexOutOfBoundsException" 1 I J := by
  have hh := h
  obtain ⟨n, k, v, ow, nl, nb, u, q, hc, hu, _⟩ := hh
  have hk := hc.k6
  have hn := hc.n24
  by_cases z : (0 ≤ x ∧ x < nI k) ∧ (0 ≤ y ∧ y < nI k)
  · obtain ⟨s, hs, rfl⟩ := sp_inB (by omega) z.1
    obtain ⟨o, hs2, rfl⟩ := sp_inB (by omega) z.2
    exact Or.inl ⟨_, _, _, fc_welfareByRobin hc.cv hs hs2, fr_welfareByRobin hc.rv hs hs2, rfl, h.A⟩
  · exact Or.inr ⟨_, _, _, ft_welfareByRobin hFT hl hc.cv z, fx_welfareByRobin hc.rv z, rfl, h⟩
theorem ca_value (hFT : cw_FT (cw_f (cc_w K))) (hl : K.1.stackTraces = false) (h : sp_Rel I J) {x y : Int32} : sp_Q K mX10_value mX11_value [.int x, .int y] I J ∨ sp_X K mX10_value mX11_value [.int x, .int y] "java/lang/IndexOutOfBoundsException" 1 I J := by
  have hh := h
  obtain ⟨n, k, v, ow, nl, nb, u, q, hc, hu, _⟩ := hh
  have hk := hc.k6
  have hn := hc.n24
  by_cases z : (0 ≤ x ∧ x < nI k) ∧ (0 ≤ y ∧ y < nI n)
  · obtain ⟨s, hs, rfl⟩ := sp_inB (by omega) z.1
    obtain ⟨o, hs2, rfl⟩ := sp_inB (by omega) z.2
    exact Or.inl ⟨_, _, _, fc_value hc.cv hs hs2, fr_value hc.rv hs hs2, rfl, h⟩
  · exact Or.inr ⟨_, _, _, ft_value hFT hl hc.cv z, fx_value hc.rv z, rfl, h⟩
theorem ca_isMild (hFT : cw_FT (cw_f (cc_w K))) (hl : K.1.stackTraces = false) (h : sp_Rel I J) {x y : Int32} : sp_Q K mX10_isMild mX11_isMild [.int x, .int y] I J ∨ sp_X K mX10_isMild mX11_isMild [.int x, .int y] "java/lang/IndexOutOfBoundsException" 1 I J ∨ sp_X K mX10_isMild mX11_isMild [.int x, .int y] "java/lang/IllegalStateException" 2 I J := by
  have hh := h
  obtain ⟨n, k, v, ow, nl, nb, u, q, hc, hu, _⟩ := hh
  have hk := hc.k6
  by_cases z : (0 ≤ x ∧ x < nI k) ∧ (0 ≤ y ∧ y < nI k)
  · obtain ⟨s, hs, rfl⟩ := sp_inB (by omega) z.1
    obtain ⟨o, hs2, rfl⟩ := sp_inB (by omega) z.2
    by_cases he : sp_envy v ow n s o
    · exact Or.inl ⟨_, _, _, fc_isMild hc.cv hc.oI hs hs2 he, fr_isMild hc.rv hc.oJ hs hs2 he, rfl, h⟩
    · exact Or.inr (Or.inr ⟨_, _, _, ft_isMild2 hFT hl hc.cv hc.oI hs hs2 he, fx_isMild2 hc.rv hc.oJ hs hs2 he, rfl, h⟩)
  · exact Or.inr (Or.inl ⟨_, _, _, ft_isMild1 hFT hl hc.cv z, fx_isMild1 hc.rv z, rfl, h⟩)
/-- the ends of consecutive cells, as numbers -/
theorem sp_rng_num {n : Nat} (hn : n ≤ 24) {y z : Int32} (h : sp_rng n y z) : ∃ a e, a ≤ e ∧ e < n ∧ y = nI a ∧ z = nI e := by
  obtain ⟨h1, h2, h3⟩ := h
  obtain ⟨a, ha, rfl⟩ := sp_inB (by omega) h1
  obtain ⟨e, he, rfl⟩ := sp_inB (by omega) h2
  exact ⟨a, e, Nat.le_of_not_lt (fun z => h3 ((nI_ltI (by omega) (by omega)).mpr z)), he, rfl, rfl⟩
theorem ca_worth (hFT : cw_FT (cw_f (cc_w K))) (hl : K.1.stackTraces = false) (h : sp_Rel I J) {x y z : Int32} : sp_Q K mX10_worth mX11_worth [.int x, .int y, .int z] I J ∨ sp_X K mX10_worth mX11_worth [.int x, .int y, .int z] "java/lang/IndexOutOfBoundsException" 1 I J ∨ sp_X K mX10_worth mX11_worth [.int x, .int y, .int z] "java/lang/IllegalArgumentException" 2 I J := by
  have hh := h
  obtain ⟨n, k, v, ow, nl, nb, u, q, hc, hu, _⟩ := hh
  have hk := hc.k6
  by_cases z1 : 0 ≤ x ∧ x < nI k
  · by_cases z2 : sp_rng n y z
    · obtain ⟨s, hs, rfl⟩ := sp_inB (by omega) z1
      obtain ⟨a, e, ha, he, rfl, rfl⟩ := sp_rng_num hc.n24 z2
      exact Or.inl ⟨_, _, _, fc_worth hc.cv hs ha he, fr_worth hc.rv hs ha he, rfl, h⟩
    · exact Or.inr (Or.inr ⟨_, _, _, ft_worth2 hFT hl hc.cv z1 z2, fx_worth2 hc.rv z1 z2, rfl, h⟩)
  · exact Or.inr (Or.inl ⟨_, _, _, ft_worth1 hFT hl hc.cv z1, fx_worth1 hc.rv z1, rfl, h⟩)
theorem ca_errorCode (h : sp_Rel I J) : sp_Q K mX10_errorCode mX11_errorCode [] I J := ⟨_, _, _, eX10_errorCode_0 ⟨rfl, rfl⟩, eX11_errorCode_0 ⟨congrArg (fun x => some (Value.int x)) h.RE.1, rfl⟩, rfl, h⟩
theorem ca_errorPosition (h : sp_Rel I J) : sp_Q K mX10_errorPosition mX11_errorPosition [] I J := ⟨_, _, _, eX10_errorPosition_0 ⟨rfl, rfl⟩, eX11_errorPosition_0 ⟨congrArg (fun x => some (Value.int x)) h.RE.2, rfl⟩, rfl, h⟩
end RELQ
