/-! ## remembering and changing keep the relation -/
theorem sp_cb_at (f : Nat → Int32) (a b c : Nat) {j : Nat} (hj : j < 212) : sp_cb f a b (c * 212 + j) = if c = b then f (a * 212 + j) else f (c * 212 + j) := by
  unfold sp_cb sp_cbp
  by_cases z : c = b
  · subst z
    rw [if_pos rfl, if_pos (by omega), show c * 212 + j - c * 212 = j by omega]
  · rw [if_neg z, if_neg (by omega)]
theorem sp_shf_at (f : Nat → Int32) (c : Nat) {j : Nat} (hj : j < 212) : ∀ i, sp_shf f i (c * 212 + j) = if 1 ≤ c ∧ c ≤ i then f ((c + 1) * 212 + j) else f (c * 212 + j)
  | 0 => by rw [if_neg (by omega)]; rfl
  | i + 1 => by
    show sp_cb (sp_shf f i) (i + 2) (i + 1) (c * 212 + j) = _
    rw [sp_cb_at _ _ _ _ hj]
    by_cases z : c = i + 1
    · subst z
      rw [if_pos rfl, sp_shf_at f (i + 2) hj i, if_neg (by omega), if_pos (by omega)]
    · rw [if_neg z, sp_shf_at f c hj i]
      by_cases y : 1 ≤ c ∧ c ≤ i
      · rw [if_pos y, if_pos (by omega)]
      · rw [if_neg y, if_neg (by omega)]
/-- the blocks behind 'remember' -/
theorem sp_rem_at (J : cw_M) {u c j : Nat} (hu : u ≤ 6) (hc : 1 ≤ c) (hc9 : c ≤ 9) (hj : j < 212) : (sp_rem J u) 1 (c * 212 + j) = if c = min (u + 1) 6 then J 1 j else if u = 6 ∧ c < 6 then J 1 ((c + 1) * 212 + j) else J 1 (c * 212 + j) := by
  unfold sp_rem
  by_cases z : u < 6
  · rw [if_pos z]
    show sp_cb (J 1) 0 (u + 1) (c * 212 + j) = _
    rw [sp_cb_at _ _ _ _ hj, show min (u + 1) 6 = u + 1 by omega]
    by_cases y : c = u + 1
    · rw [if_pos y, if_pos y, show 0 * 212 + j = j by omega]
    · rw [if_neg y, if_neg y, if_neg (by omega)]
  · rw [if_neg z]
    show sp_cb (sp_shf (J 1) 5) 0 6 (c * 212 + j) = _
    rw [sp_cb_at _ _ _ _ hj, show min (u + 1) 6 = 6 by omega]
    by_cases y : c = 6
    · rw [if_pos y, if_pos y, show 0 * 212 + j = j by omega, sp_shf_low _ hj]
    · rw [if_neg y, if_neg y, sp_shf_at _ _ hj]
      by_cases x : c < 6
      · rw [if_pos (by omega), if_pos (by omega)]
      · rw [if_neg (by omega), if_neg (by omega)]
theorem sp_rem_u (J : cw_M) {u : Nat} (hu : u ≤ 6) : (sp_rem J u) 0 2 = nI (min (u + 1) 6) := by
  unfold sp_rem
  by_cases z : u < 6
  · rw [if_pos z, show min (u + 1) 6 = u + 1 by omega]; rfl
  · rw [if_neg z, show min (u + 1) 6 = 6 by omega]; rfl
theorem sp_rem_0 (J : cw_M) (u : Nat) {p : Nat} (hp : p ≠ 2) : (sp_rem J u) 0 p = J 0 p := by
  unfold sp_rem
  by_cases z : u < 6
  · rw [if_pos z]
    show upd (J 0) 2 _ p = _
    simp only [upd, if_neg hp]
  · rw [if_neg z]
    show upd (J 0) 2 _ p = _
    simp only [upd, if_neg hp]
theorem sp_rem_o (J : cw_M) (u : Nat) {o : Nat} (h0 : o ≠ 0) (h1 : o ≠ 1) : (sp_rem J u) o = J o := by
  unfold sp_rem
  by_cases z : u < 6
  · rw [if_pos z]
    simp only [cw_st, cw_up, if_neg h0, if_neg h1]
  · rw [if_neg z]
    simp only [cw_st, cw_up, if_neg h0, if_neg h1]
theorem sp_R_low (J : cw_M) (u : Nat) {j : Nat} (hj : j < 212) : (sp_R J u) 1 j = J 1 j := sp_rem_low _ u hj
theorem sp_cpy24 (f g : Nat → Int32) (q p : Nat) {c : Nat} (hc : c < 24) : va_cpy f g 0 (q * 24) 24 (p * 24 + c) = if p = q then f c else g (p * 24 + c) := by
  unfold va_cpy
  by_cases z : p = q
  · subst z; rw [if_pos (by omega), if_pos rfl, show 0 + (p * 24 + c - p * 24) = c by omega]
  · rw [if_neg (by omega), if_neg z]
theorem sp_cpy144 (f g : Nat → Int32) (q p : Nat) {c : Nat} (hc : c < 144) : va_cpy f g 0 (q * 144) 144 (p * 144 + c) = if p = q then f c else g (p * 144 + c) := by
  unfold va_cpy
  by_cases z : p = q
  · subst z; rw [if_pos (by omega), if_pos rfl, show 0 + (p * 144 + c - p * 144) = c by omega]
  · rw [if_neg (by omega), if_neg z]
section REM
variable {n k u q : Nat} {v : Nat → Nat → Nat} {ow : Nat → Int32} {nl : Nat → Nat} {nb : Nat → Nat → Int32} {I J : cw_M}
theorem sp_P.rem (h : sp_P n k v ow nl nb u q I J) : sp_P n k v ow nl nb (min (u + 1) 6) (sp_nq q) (sp_mem I q u) (sp_R J u) := by
  obtain ⟨hc, hu, ⟨L, l1, l2, l3, l4⟩, ⟨W, w1, w2, w3, w4⟩, e1, e2⟩ := h
  have hn := hc.n24
  have hk := hc.k6
  have hnl := hc.nl6
  have hc2 : sp_RC n k v ow nl nb (sp_mem I q u) ((sp_R J u) 1) := hc.m (m2 := (sp_R J u) 1) (fun j hj => sp_R_low J u hj)
  refine ⟨hc2, ?_, ⟨L, l1, l2, ?_, ?_⟩, ⟨W, w1, w2, ?_, ?_⟩, ?_, ?_⟩
  · obtain ⟨a1, a2, a3, a4, a5, a6, a7⟩ := hu
    have hq6 : sp_nq q < 6 := by
      show (if q + 1 < 6 then q + 1 else 0) < 6
      split <;> omega
    refine ⟨rfl, rfl, sp_rem_u _ a4, by omega, hq6, fun i hi => ?_, fun t ht => ?_⟩
    · by_cases z : i + 1 = min (u + 1) 6
      · have ep : (sp_nq q + 6 - min (u + 1) 6 + i) % 6 = q := by
          show ((if q + 1 < 6 then q + 1 else 0) + 6 - min (u + 1) 6 + i) % 6 = q
          split <;> omega
        rw [ep]
        obtain ⟨_, _, _, _, g, _, _, ⟨p1, p2⟩, _, b⟩ := hc
        refine ⟨v, ow, g, ⟨fun c hc => ?_, fun s c hs hc => ?_⟩, b.cg hn hk hnl (fun j hj => ?_)⟩
        · show va_cpy (I 9) (I 30) 0 (q * 24) 24 (q * 24 + c) = _
          rw [sp_cpy24 _ _ _ _ (by omega), if_pos rfl]
          exact p1 c hc
        · show va_cpy (I 8) (I 31) 0 (q * 144) 144 (q * 144 + (s * 24 + c)) = _
          rw [sp_cpy144 _ _ _ _ (by omega), if_pos rfl]
          exact p2 s c hs hc
        · show (sp_rem (cw_st J 0 9 0) u) 1 ((i + 1) * 212 + j) = _
          rw [sp_rem_at _ a4 (by omega) (by omega) hj, if_pos z]
          rfl
      · have hi' : i + 1 < min (u + 1) 6 := by omega
        have ep : (sp_nq q + 6 - min (u + 1) 6 + i) % 6 = (q + 6 - u + (if u = 6 then i + 1 else i)) % 6 ∧ (q + 6 - u + (if u = 6 then i + 1 else i)) % 6 ≠ q := by
          show ((if q + 1 < 6 then q + 1 else 0) + 6 - min (u + 1) 6 + i) % 6 = _ ∧ _
          split <;> split <;> omega
        rw [ep.1]
        refine (a6 (if u = 6 then i + 1 else i) (by split <;> omega)).mv hn hk hnl (fun c hc => ?_) (fun j hj => ?_) (fun j hj => ?_)
        · show va_cpy (I 9) (I 30) 0 (q * 24) 24 _ = _
          rw [sp_cpy24 _ _ _ _ hc, if_neg ep.2]
        · show va_cpy (I 8) (I 31) 0 (q * 144) 144 _ = _
          rw [sp_cpy144 _ _ _ _ hj, if_neg ep.2]
        · show (sp_rem (cw_st J 0 9 0) u) 1 ((i + 1) * 212 + j) = _
          rw [sp_rem_at _ a4 (by omega) (by omega) hj, if_neg z]
          by_cases y : u = 6
          · rw [if_pos (by omega), if_pos y]; rfl
          · rw [if_neg (by omega), if_neg y]; rfl
    · have e2 : (sp_R J u) 2 t = J 2 t := by rw [show (sp_R J u) 2 = J 2 from sp_rem_o _ u (by omega) (by omega)]
      rcases a7 t ht with ⟨z1, z2⟩ | ⟨z1, z2, z3⟩
      · exact Or.inl ⟨z1, by rw [e2]; exact z2⟩
      · refine Or.inr ⟨z1, by rw [e2]; exact z2, z3.mv hn hk hnl (fun c hc => ?_) (fun j hj => ?_) (fun j hj => ?_)⟩
        · show va_cpy (I 9) (I 30) 0 (q * 24) 24 _ = _
          rw [sp_cpy24 _ _ _ _ hc, if_neg (by omega)]
        · show va_cpy (I 8) (I 31) 0 (q * 144) 144 _ = _
          rw [sp_cpy144 _ _ _ _ hj, if_neg (by omega)]
        · show (sp_rem (cw_st J 0 9 0) u) 1 ((7 + t) * 212 + j) = _
          rw [sp_rem_at _ a4 (by omega) (by omega) hj, if_neg (by omega), if_neg (by omega)]
          rfl
  · rw [show (sp_R J u) 0 4 = J 0 4 from sp_rem_0 _ u (by omega)]; exact l3
  · intro j hj
    rw [show (sp_R J u) 3 = J 3 from sp_rem_o _ u (by omega) (by omega)]; exact l4 j hj
  · rw [show (sp_R J u) 0 8 = J 0 8 from sp_rem_0 _ u (by omega)]; exact w3
  · intro j hj
    rw [show (sp_R J u) 4 = J 4 from sp_rem_o _ u (by omega) (by omega)]; exact w4 j hj
  · rw [show (sp_R J u) 0 5 = J 0 5 from sp_rem_0 _ u (by omega)]; exact e1
  · rw [show (sp_R J u) 0 6 = J 0 6 from sp_rem_0 _ u (by omega)]; exact e2
/-- other owners -/
theorem sp_P.own (h : sp_P n k v ow nl nb u q I J) {fC m : Nat → Int32} (g : ∀ c, c < n → sp_okw k (fC c)) (em : ∀ c, c < n → m (2 + c) = fC c) (el : ∀ j, ¬ (2 ≤ j ∧ j < 26) → m j = J 1 j) : sp_P n k v fC nl nb u q (cw_up I 9 fC) (cw_up J 1 m) := by
  obtain ⟨hc, hu, ht, ho, he⟩ := h
  have hu2 := hu.m (m2 := m) hc.n24 hc.k6 hc.nl6 (fun j hj _ => el j (by omega))
  have hnl := hc.nl6
  obtain ⟨a1, a2, a3, a4, ⟨a5, _⟩, a7, a8, ⟨_, a9⟩, a11, b1, b2, b3, b4, b5⟩ := hc
  refine ⟨⟨a1, a2, a3, a4, ⟨a5, g⟩, a7, a8, ⟨fun c _ => rfl, a9⟩, a11, ?_⟩, hu2, ht, ho, he⟩
  show sp_BK n k v fC nl nb m
  refine ⟨by rw [el 0 (by omega)]; exact b1, by rw [el 1 (by omega)]; exact b2, em, fun s c hs hc => by rw [el (33 + s * 31 + c) (by omega)]; exact b4 s c hs hc, fun s hs => ⟨by rw [el (26 + s * 31) (by omega)]; exact (b5 s hs).1, fun i hi => ?_⟩⟩
  rw [el (27 + s * 31 + i) (by omega)]
  exact (b5 s hs).2 i hi
/-- another value -/
theorem sp_P.val (h : sp_P n k v ow nl nb u q I J) {s c d : Nat} (hs : s < k) (hcn : c < n) (hd : d ≤ 9) : sp_P n k (fun a b => if a = s ∧ b = c then d else v a b) ow nl nb u q (cw_st I 8 (s * 24 + c) (nI d)) (cw_st J 1 (33 + s * 31 + c) (nI d)) := by
  obtain ⟨hc, hu, ht, ho, he⟩ := h
  have hn := hc.n24
  have hk := hc.k6
  have hu2 := hu.m (m2 := upd (J 1) (33 + s * 31 + c) (nI d)) hc.n24 hc.k6 hc.nl6 (fun j hj _ => by simp only [upd]; rw [if_neg (by omega)])
  have hnl := hc.nl6
  obtain ⟨a1, a2, a3, a4, ⟨a5, a6⟩, a7, a8, ⟨a9, a10⟩, a11, b1, b2, b3, b4, b5⟩ := hc
  refine ⟨⟨a1, a2, a3, a4, ⟨fun a b ha hb => ?_, a6⟩, a7, a8, ⟨a9, fun a b ha hb => ?_⟩, a11, ?_⟩, hu2, ht, ho, he⟩
  · show (if a = s ∧ b = c then d else v a b) ≤ 9
    split
    · exact hd
    · exact a5 a b ha hb
  · show upd (I 8) (s * 24 + c) (nI d) (a * 24 + b) = nI (if a = s ∧ b = c then d else v a b)
    simp only [upd]
    by_cases z : a = s ∧ b = c
    · rw [if_pos z, if_pos (by rw [z.1, z.2])]
    · rw [if_neg z, if_neg (by omega)]
      exact a10 a b ha hb
  · show sp_BK n k _ ow nl nb (upd (J 1) (33 + s * 31 + c) (nI d))
    refine ⟨by simp only [upd]; rw [if_neg (by omega)]; exact b1, by simp only [upd]; rw [if_neg (by omega)]; exact b2, fun a ha => by simp only [upd]; rw [if_neg (by omega)]; exact b3 a ha, fun a b ha hb => ?_, fun a ha => ⟨by simp only [upd]; rw [if_neg (by omega)]; exact (b5 a ha).1, fun i hi => ?_⟩⟩
    · show upd (J 1) (33 + s * 31 + c) (nI d) (33 + a * 31 + b) = nI (if a = s ∧ b = c then d else v a b)
      simp only [upd]
      by_cases z : a = s ∧ b = c
      · rw [if_pos z, if_pos (by rw [z.1, z.2])]
      · rw [if_neg z, if_neg (by omega)]
        exact b4 a b ha hb
    · have := hnl a ha
      simp only [upd]
      rw [if_neg (by omega)]
      exact (b5 a ha).2 i hi
/-! owners stay owners -/
theorem sp_okw_nI {s : Nat} (hs : s < k) : sp_okw k (nI s) := Or.inr ⟨s, hs, rfl⟩
theorem sp_okw_put {f : Nat → Int32} (h : ∀ c, c < n → sp_okw k (f c)) {x : Int32} (hx : sp_okw k x) (a e : Nat) : ∀ c, c < n → sp_okw k (sp_put f x a e c) := fun c hc => by
  unfold sp_put
  split
  · exact hx
  · exact h c hc
theorem sp_okw_x {f : Nat → Int32} (h : ∀ c, c < n → sp_okw k (f c)) {a b : Int32} (ha : sp_okw k a) (hb : sp_okw k b) (m : Nat) : ∀ c, c < n → sp_okw k (sp_x f a b m c) := fun c hc => by
  unfold sp_x
  split
  · split
    · exact hb
    · split
      · exact ha
      · exact h c hc
  · exact h c hc
theorem sp_okw_dv {f : Nat → Int32} (h : ∀ c, c < n → sp_okw k (f c)) {a b : Nat} (ha : a < k) (hb : b < k) : ∀ c, c < n → sp_okw k (sp_dv v n a b f c) := fun c hc => by
  unfold sp_dv
  by_cases y1 : c < sp_ct v n a n
  · rw [if_pos y1]
    split
    · exact sp_okw_nI hb
    · exact sp_okw_nI ha
  · rw [if_neg y1]
    by_cases y2 : c < n
    · rw [if_pos y2]
      split
      · exact sp_okw_nI ha
      · exact sp_okw_nI hb
    · rw [if_neg y2]
      exact h c hc
theorem sp_okw_rb : ∀ (d : Nat) (f : Nat → Int32) (t m : Nat), t < k → (∀ c, c < n → sp_okw k (f c)) → ∀ c, c < n → sp_okw k ((sp_rb v n k d f t m).1 c)
  | 0, _, _, _, _, h => h
  | d + 1, f, t, m, ht, h => by
    intro c hc
    unfold sp_rb
    split
    · exact h c hc
    · rename_i b _
      refine sp_okw_rb d (upd f b (nI t)) (sp_nx k t) (m + 1) ?_ (fun c hc => ?_) c hc
      · unfold sp_nx
        split <;> omega
      · simp only [upd]
        split
        · exact sp_okw_nI ht
        · exact h c hc
theorem sp_okw_kn : ∀ (w S a : Nat) (f : Nat → Int32), (∀ c, c < n → sp_okw k (f c)) → ∀ c, c < n → sp_okw k (sp_kn v n k w S a f c)
  | 0, _, _, _, h => h
  | w + 1, S, a, f, h => by
    intro c hc
    unfold sp_kn
    by_cases y : n ≤ a
    · rw [if_pos y]; exact h c hc
    · rw [if_neg y]
      cases e : sp_fc S (sp_g v n a (w + 1)) k with
      | none => exact h c hc
      | some t => exact sp_okw_kn w _ _ _ (sp_okw_put h (sp_okw_nI (sp_fc_lt e).1) _ _) c hc
theorem sp_okw_mp {f : Nat → Int32} (h : ∀ c, c < n → sp_okw k (f c)) {w : Nat → Nat → Nat} {st len : Nat} (hst : st < k) (hk : k ≤ 6) (hl : sp_len w k st = some len) (m : Nat) : ∀ c, c < n → sp_okw k (sp_mp (sp_ro w k st len) f m c) := fun c hc => by
  have h2 := (sp_len_spec hl).1
  unfold sp_mp
  split
  · unfold sp_ro
    split
    · exact h c hc
    · exact sp_okw_nI (sp_cy_spec hst hk hl _ (Nat.mod_lt _ (by omega))).1
  · exact h c hc
end REM
