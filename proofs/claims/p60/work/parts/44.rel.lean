/-! ## what the law carries along: the class's ints I and the reference's ints J hold the same -/
/-- an owner of k siblings' cake -/
def sp_okw (k : Nat) (x : Int32) : Prop := x = -1 ∨ ∃ s, s < k ∧ x = nI s
def sp_GD (n k : Nat) (v : Nat → Nat → Nat) (ow : Nat → Int32) : Prop := sp_dig v n k ∧ ∀ c, c < n → sp_okw k (ow c)
/-- a block of the reference -/
def sp_BK (n k : Nat) (v : Nat → Nat → Nat) (ow : Nat → Int32) (nl : Nat → Nat) (nb : Nat → Nat → Int32) (f : Nat → Int32) : Prop :=
  f 0 = nI n ∧ f 1 = nI k ∧ (∀ c, c < n → f (2 + c) = ow c) ∧ (∀ s c, s < k → c < n → f (33 + s * 31 + c) = nI (v s c)) ∧ ∀ s, s < k → f (26 + s * 31) = nI (nl s) ∧ ∀ i, i < nl s → f (27 + s * 31 + i) = nb s i
/-- owners and values of the class -/
def sp_PL (n k : Nat) (v : Nat → Nat → Nat) (ow : Nat → Int32) (fo fv : Nat → Int32) : Prop := (∀ c, c < n → fo c = ow c) ∧ ∀ s c, s < k → c < n → fv (s * 24 + c) = nI (v s c)
/-- the class's place p and the reference's block b hold the same earlier state -/
def sp_PB (n k : Nat) (nl : Nat → Nat) (nb : Nat → Nat → Int32) (fo fv m : Nat → Int32) (p b : Nat) : Prop := ∃ (v : Nat → Nat → Nat) (ow : Nat → Int32), sp_GD n k v ow ∧ sp_PL n k v ow (fun c => fo (p * 24 + c)) (fun j => fv (p * 144 + j)) ∧ sp_BK n k v ow nl nb (fun j => m (b * 212 + j))
def sp_NM (k : Nat) (nl : Nat → Nat) (nb : Nat → Nat → Int32) (c6 c7 : Nat → Int32) : Prop := ∀ s, s < k → nl s ≤ 6 ∧ c7 s = nI (nl s) ∧ ∀ i, i < nl s → c6 (s * 6 + i) = nb s i
/-- the cake of now -/
def sp_RC (n k : Nat) (v : Nat → Nat → Nat) (ow : Nat → Int32) (nl : Nat → Nat) (nb : Nat → Nat → Int32) (I : cw_M) (m : Nat → Int32) : Prop := 1 ≤ n ∧ n ≤ 24 ∧ 1 ≤ k ∧ k ≤ 6 ∧ sp_GD n k v ow ∧ I 5 0 = nI n ∧ I 5 1 = nI k ∧ sp_PL n k v ow (I 9) (I 8) ∧ sp_NM k nl nb (I 6) (I 7) ∧ sp_BK n k v ow nl nb m
/-- the earlier states -/
def sp_RU (n k : Nat) (nl : Nat → Nat) (nb : Nat → Nat → Int32) (u q : Nat) (I : cw_M) (ju : Int32) (m js : Nat → Int32) : Prop := I 28 0 = nI u ∧ I 28 2 = nI q ∧ ju = nI u ∧ u ≤ 6 ∧ q < 6 ∧ (∀ i, i < u → sp_PB n k nl nb (I 30) (I 31) m ((q + 6 - u + i) % 6) (i + 1)) ∧ ∀ t, t < 2 → (I 29 t = 0 ∧ js t = 0) ∨ (I 29 t = 1 ∧ js t = 1 ∧ sp_PB n k nl nb (I 30) (I 31) m (6 + t) (7 + t))
def sp_RT (I J : cw_M) : Prop := ∃ L, L ≤ 600 ∧ I 1 1 = nI L ∧ J 0 4 = nI L ∧ ∀ j, j < L → I 2 j = J 3 j
def sp_RO (I J : cw_M) : Prop := ∃ W, W ≤ 240 ∧ I 3 1 = nI W ∧ J 0 8 = nI W ∧ ∀ j, j < W → I 4 j = J 4 j
def sp_RE (I J : cw_M) : Prop := I 15 0 = J 0 5 ∧ I 15 1 = J 0 6
def sp_P (n k : Nat) (v : Nat → Nat → Nat) (ow : Nat → Int32) (nl : Nat → Nat) (nb : Nat → Nat → Int32) (u q : Nat) (I J : cw_M) : Prop := sp_RC n k v ow nl nb I (J 1) ∧ sp_RU n k nl nb u q I (J 0 2) (J 1) (J 2) ∧ sp_RT I J ∧ sp_RO I J ∧ sp_RE I J
section REL
variable {n k u q : Nat} {v : Nat → Nat → Nat} {ow : Nat → Int32} {nl : Nat → Nat} {nb : Nat → Nat → Int32}
theorem sp_RC.cv {I : cw_M} {m : Nat → Int32} (h : sp_RC n k v ow nl nb I m) : sp_cv n k v I := by
  obtain ⟨_, a2, _, a4, ⟨a5, _⟩, a7, a8, ⟨_, a10⟩, _⟩ := h
  exact ⟨a7, a8, a2, a4, a5, a10⟩
theorem sp_RC.rv {I J : cw_M} (h : sp_RC n k v ow nl nb I (J 1)) : sp_rv n k v J := by
  obtain ⟨_, a2, _, a4, ⟨a5, _⟩, _, _, _, _, b1, b2, _, b4, _⟩ := h
  exact ⟨b1, b2, a2, a4, a5, b4⟩
theorem sp_RC.oI {I : cw_M} {m : Nat → Int32} (h : sp_RC n k v ow nl nb I m) : ∀ c, c < n → I 9 c = ow c := h.2.2.2.2.2.2.2.1.1
theorem sp_RC.oJ {I : cw_M} {m : Nat → Int32} (h : sp_RC n k v ow nl nb I m) : ∀ c, c < n → m (2 + c) = ow c := h.2.2.2.2.2.2.2.2.2.2.2.1
theorem sp_RC.n1 {I : cw_M} {m : Nat → Int32} (h : sp_RC n k v ow nl nb I m) : 1 ≤ n := h.1
theorem sp_RC.n24 {I : cw_M} {m : Nat → Int32} (h : sp_RC n k v ow nl nb I m) : n ≤ 24 := h.2.1
theorem sp_RC.k1 {I : cw_M} {m : Nat → Int32} (h : sp_RC n k v ow nl nb I m) : 1 ≤ k := h.2.2.1
theorem sp_RC.k6 {I : cw_M} {m : Nat → Int32} (h : sp_RC n k v ow nl nb I m) : k ≤ 6 := h.2.2.2.1
theorem sp_RC.nl6 {I : cw_M} {m : Nat → Int32} (h : sp_RC n k v ow nl nb I m) : ∀ s, s < k → nl s ≤ 6 := fun s hs => (h.2.2.2.2.2.2.2.2.1 s hs).1
theorem sp_BK.cg {f g : Nat → Int32} (h : sp_BK n k v ow nl nb f) (hn : n ≤ 24) (hk : k ≤ 6) (hnl : ∀ s, s < k → nl s ≤ 6) (e : ∀ j, j < 212 → g j = f j) : sp_BK n k v ow nl nb g := by
  obtain ⟨b1, b2, b3, b4, b5⟩ := h
  refine ⟨by rw [e 0 (by omega)]; exact b1, by rw [e 1 (by omega)]; exact b2, fun c hc => by rw [e (2 + c) (by omega)]; exact b3 c hc, fun s c hs hc => by rw [e (33 + s * 31 + c) (by omega)]; exact b4 s c hs hc, fun s hs => ⟨by rw [e (26 + s * 31) (by omega)]; exact (b5 s hs).1, fun i hi => ?_⟩⟩
  have := hnl s hs
  rw [e (27 + s * 31 + i) (by omega)]
  exact (b5 s hs).2 i hi
/-- the same state elsewhere -/
theorem sp_PB.mv {fo fv m fo2 fv2 m2 : Nat → Int32} {p b p2 b2 : Nat} (h : sp_PB n k nl nb fo fv m p b) (hn : n ≤ 24) (hk : k ≤ 6) (hnl : ∀ s, s < k → nl s ≤ 6) (eo : ∀ c, c < 24 → fo2 (p2 * 24 + c) = fo (p * 24 + c)) (ev : ∀ j, j < 144 → fv2 (p2 * 144 + j) = fv (p * 144 + j)) (em : ∀ j, j < 212 → m2 (b2 * 212 + j) = m (b * 212 + j)) : sp_PB n k nl nb fo2 fv2 m2 p2 b2 := by
  obtain ⟨v, ow, g, ⟨p1, p3⟩, bk⟩ := h
  exact ⟨v, ow, g, ⟨fun c hc => (eo c (by omega)).trans (p1 c hc), fun s c hs hc => (ev (s * 24 + c) (by omega)).trans (p3 s c hs hc)⟩, bk.cg hn hk hnl em⟩
theorem sp_RC.m {I : cw_M} {m m2 : Nat → Int32} (h : sp_RC n k v ow nl nb I m) (e : ∀ j, j < 212 → m2 j = m j) : sp_RC n k v ow nl nb I m2 := by
  have hnl := h.nl6
  obtain ⟨a1, a2, a3, a4, a5, a7, a8, a9, a11, b⟩ := h
  exact ⟨a1, a2, a3, a4, a5, a7, a8, a9, a11, b.cg a2 a4 hnl e⟩
theorem sp_RU.m {I : cw_M} {ju : Int32} {m m2 js : Nat → Int32} (h : sp_RU n k nl nb u q I ju m js) (hn : n ≤ 24) (hk : k ≤ 6) (hnl : ∀ s, s < k → nl s ≤ 6) (e : ∀ j, 212 ≤ j → j < 1908 → m2 j = m j) : sp_RU n k nl nb u q I ju m2 js := by
  obtain ⟨a1, a2, a3, a4, a5, a6, a7⟩ := h
  refine ⟨a1, a2, a3, a4, a5, fun i hi => (a6 i hi).mv hn hk hnl (fun _ _ => rfl) (fun _ _ => rfl) (fun j hj => e _ (by omega) (by omega)), fun t ht => ?_⟩
  rcases a7 t ht with z | ⟨z1, z2, z3⟩
  · exact Or.inl z
  · exact Or.inr ⟨z1, z2, z3.mv hn hk hnl (fun _ _ => rfl) (fun _ _ => rfl) (fun j hj => e _ (by omega) (by omega))⟩
theorem sp_P.low {I J : cw_M} (h : sp_P n k v ow nl nb u q I J) {m : Nat → Int32} (e : ∀ j, j < 1908 → m j = J 1 j) : sp_P n k v ow nl nb u q I (cw_up J 1 m) := by
  obtain ⟨hc, hu, ht, ho, he⟩ := h
  exact ⟨hc.m (fun j hj => e j (by omega)), hu.m hc.n24 hc.k6 hc.nl6 (fun j _ hj => e j hj), ht, ho, he⟩
end REL
section RELQ
variable {K : cw_K} {I J : cw_M}
end RELQ
