/-! ## the face: setValue, mark, rotate, the cycle's members -/
section CH2
variable {K : cw_K} {I J : cw_M} {n k u q : Nat} {v : Nat → Nat → Nat} {ow : Nat → Int32} {nl : Nat → Nat} {nb : Nat → Nat → Int32}
/-- x is one of the numbers 0 .. m -/
theorem sp_inC {x : Int32} {m : Nat} (hm : m < 2 ^ 30) (h : 0 ≤ x ∧ x ≤ nI m) : ∃ d, d ≤ m ∧ x = nI d := by
  obtain ⟨d, hd, e⟩ := sp_inB (x := x) (k := m + 1) (by omega) ⟨h.1, Int32.lt_of_le_of_lt h.2 (nI_lt (by omega) (by omega))⟩
  exact ⟨d, by omega, e⟩
theorem sc_putValue {s c : Nat} {x : Int32} (hs : s < 6) (hc : c < 24) : cw_C (cc_w K) mX1_putValue [.ref (cw_a (cc_w K) 5), .int (nI s), .int (nI c), .int x] I none (cw_st I 8 (s * 24 + c) x) := by
  refine eX1_putValue_5 ?_
  rw [sp_24]
  exact ⟨vp_in_nI (by omega) (by omega), rfl, by rw [nI_clamp (by omega)]⟩
theorem ft_setValue1 (hFT : cw_FT (cw_f (cc_w K))) (hl : K.1.stackTraces = false) (h : sp_cv n k v I) {x y z : Int32} (hx : ¬ ((0 ≤ x ∧ x < nI k) ∧ (0 ≤ y ∧ y < nI n))) : cw_T (cc_w K) mX10_setValue [.ref (cw_a (cc_w K) 0), .int x, .int y, .int z] I "java/lang/IndexOutOfBoundsException" I := by
  by_cases w : 0 ≤ x ∧ x < nI k
  · exact xX10_setValue_0 hFT hl (Or.inl ⟨_, sc_requireSibling h w, Or.inr ⟨_, _, st_requireCell hFT hl h (fun y => hx ⟨w, y⟩), rfl, rfl⟩⟩)
  · exact xX10_setValue_0 hFT hl (Or.inr ⟨_, _, st_requireSibling hFT hl h w, rfl, rfl⟩)
theorem ft_mark1 (hFT : cw_FT (cw_f (cc_w K))) (hl : K.1.stackTraces = false) (h : sp_cv n k v I) {x y z : Int32} (hx : ¬ ((0 ≤ x ∧ x < nI k) ∧ (0 ≤ y ∧ y < nI n))) : cw_T (cc_w K) mX10_mark [.ref (cw_a (cc_w K) 0), .int x, .int y, .int z] I "java/lang/IndexOutOfBoundsException" I := by
  by_cases w : 0 ≤ x ∧ x < nI k
  · exact xX10_mark_0 hFT hl (Or.inl ⟨_, sc_requireSibling h w, Or.inr ⟨_, _, st_requireCell hFT hl h (fun y => hx ⟨w, y⟩), rfl, rfl⟩⟩)
  · exact xX10_mark_0 hFT hl (Or.inr ⟨_, _, st_requireSibling hFT hl h w, rfl, rfl⟩)
theorem ca_setValue (hFT : cw_FT (cw_f (cc_w K))) (hl : K.1.stackTraces = false) (h : sp_Rel I J) {x y z : Int32} : sp_Q K mX10_setValue mX11_setValue [.int x, .int y, .int z] I J ∨ sp_X K mX10_setValue mX11_setValue [.int x, .int y, .int z] "java/lang/IndexOutOfBoundsException" 1 I J ∨ sp_X K mX10_setValue mX11_setValue [.int x, .int y, .int z] "java/lang/IllegalArgumentException" 2 I J := by
  have hh := h
  obtain ⟨n, k, v, ow, nl, nb, u, q, hP⟩ := hh
  have hR := hP.rem
  obtain ⟨hc, hu, _⟩ := hP
  have hk := hc.k6
  have hn := hc.n24
  by_cases z1 : (0 ≤ x ∧ x < nI k) ∧ (0 ≤ y ∧ y < nI n)
  · by_cases z2 : 0 ≤ z ∧ z ≤ 9
    · obtain ⟨s, hs, ex⟩ := sp_inB (by omega) z1.1
      obtain ⟨c, hcn, ey⟩ := sp_inB (by omega) z1.2
      obtain ⟨d, hd, ez⟩ := sp_inC (m := 9) (by omega) z2
      have hM : sp_cv n k v (sp_mem I q u) := sp_mem_cv hc.cv
      have h1 : cw_C (cc_w K) mX1_valueOf [.ref (cw_a (cc_w K) 5), .int x, .int y] (sp_mem I q u) (some (.int (nI (v s c)))) (sp_mem I q u) := by rw [ex, ey]; exact sc_valueOf hM hs hcn
      have h2 : cw_C (cc_w K) mX1_putValue [.ref (cw_a (cc_w K) 5), .int x, .int y, .int z] (sp_mem I q u) none (cw_st (sp_mem I q u) 8 (s * 24 + c) (nI d)) := by rw [ex, ey, ez]; exact sc_putValue (by omega) (by omega)
      have g1 : cw_C (cr_w K) mX11_valueOf [.ref (cw_a (cr_w K) 0), .int x, .int y] (sp_R J u) (some (.int (nI (v s c)))) (sp_R J u) := by rw [ex, ey]; exact sr_valueOf hR.1.rv hs hcn
      have g2 : 26 + x * 31 + 7 + y = nI (33 + s * 31 + c) := by rw [ex, ey]; exact sp_ixr s c
      have hO := hR.val hs hcn hd
      refine Or.inl ⟨_, _, _, eX10_setValue_0 ⟨_, sc_requireSibling hc.cv z1.1, _, sc_requireCell hc.cv z1.2, fun q => absurd z2.1 (Int32.not_le.mpr q), fun _ => ⟨fun _ => ⟨_, sc_remember hu.qI hu.q6 hu.uI hu.u6, _, _, h1, _, h2, rfl, rfl⟩, fun q => absurd z2.2 q⟩⟩, eX11_setValue_0 ⟨_, _, sr_isSibling hc.rv, fun q => absurd z1.1 (sp_bit0 q), fun _ => ⟨_, _, sr_isCell hc.rv, fun _ => ⟨_, _, sr_in, fun _ => ⟨_, _, sr_fails0, fun _ => ⟨_, sr_R hu.uJ hu.u6, _, _, g1, ?_⟩, fun q => absurd rfl q⟩, fun q => absurd z2 (sp_bit0 q)⟩, fun q => absurd z1.2 (sp_bit0 q)⟩⟩, ?_, n, k, _, ow, nl, nb, _, _, hO⟩
      · rw [g2]
        exact ⟨vp_in_nI (by omega) (by omega), rfl, by rw [nI_clamp (by omega), ez]⟩
      · exact sp_R9 J u
    · refine Or.inr (Or.inr ⟨_, _, _, xX10_setValue_0 hFT hl (Or.inl ⟨_, sc_requireSibling hc.cv z1.1, Or.inl ⟨_, sc_requireCell hc.cv z1.2, fun _ => ⟨rfl, rfl⟩, fun q => ⟨fun q2 => absurd ⟨Int32.not_lt.mp q, q2⟩ z2, fun _ => ⟨rfl, rfl⟩⟩⟩⟩), eX11_setValue_0 ⟨_, _, sr_isSibling hc.rv, fun q => absurd z1.1 (sp_bit0 q), fun _ => ⟨_, _, sr_isCell hc.rv, fun _ => ⟨_, _, sr_in, fun q => absurd (sp_bit1 q) z2, fun _ => ⟨_, _, sr_fails2, fun q => absurd q (by decide), fun _ => ⟨rfl, rfl⟩⟩⟩, fun q => absurd z1.2 (sp_bit0 q)⟩⟩, rfl, h⟩)
  · refine Or.inr (Or.inl ⟨_, _, _, ft_setValue1 hFT hl hc.cv z1, eX11_setValue_0 ⟨_, _, sr_isSibling hc.rv, fun _ => ⟨_, _, sr_in, fun _ => ⟨_, _, sr_fails1, fun q => absurd q (by decide), fun _ => ⟨rfl, rfl⟩⟩, fun _ => ⟨_, _, sr_fails1, fun q => absurd q (by decide), fun _ => ⟨rfl, rfl⟩⟩⟩, fun q => ⟨_, _, sr_isCell hc.rv, fun q2 => absurd ⟨sp_bit1 q, sp_bit1 q2⟩ z1, fun _ => ⟨_, _, sr_in, fun _ => ⟨_, _, sr_fails1, fun q => absurd q (by decide), fun _ => ⟨rfl, rfl⟩⟩, fun _ => ⟨_, _, sr_fails1, fun q => absurd q (by decide), fun _ => ⟨rfl, rfl⟩⟩⟩⟩⟩, rfl, h⟩)
theorem ca_mark (hFT : cw_FT (cw_f (cc_w K))) (hl : K.1.stackTraces = false) (h : sp_Rel I J) {x y z : Int32} : sp_Q K mX10_mark mX11_mark [.int x, .int y, .int z] I J ∨ sp_X K mX10_mark mX11_mark [.int x, .int y, .int z] "java/lang/IndexOutOfBoundsException" 1 I J ∨ sp_X K mX10_mark mX11_mark [.int x, .int y, .int z] "java/lang/IllegalArgumentException" 2 I J := by
  have hh := h
  obtain ⟨n, k, v, ow, nl, nb, u, q, hP⟩ := hh
  obtain ⟨hc, hu, _⟩ := hP
  have hk := hc.k6
  have hn := hc.n24
  by_cases z1 : (0 ≤ x ∧ x < nI k) ∧ (0 ≤ y ∧ y < nI n)
  · by_cases z2 : 1 ≤ z ∧ z ≤ 24
    · obtain ⟨s, hs, ex⟩ := sp_inB (by omega) z1.1
      obtain ⟨c, hcn, ey⟩ := sp_inB (by omega) z1.2
      obtain ⟨d, hd, ez⟩ := sp_inC (m := 24) (by omega) ⟨Int32.le_trans (by decide) z2.1, z2.2⟩
      have hd1 : 1 ≤ d := by
        have h1 := z2.1
        rw [ez] at h1
        exact (nI_leI (a := 1) (by omega) (by omega)).mp h1
      have h1 : cw_C (cc_w K) mX6_markOf [.ref (cw_a (cc_w K) 20), .int x, .int y, .int z] I (some (.int (nI (sp_mk v n s c d)))) I := by rw [ex, ey, ez]; exact sc_markOf hc.cv hs hcn hd1 hd
      have g1 : cw_C (cr_w K) mX11_markOf [.ref (cw_a (cr_w K) 0), .int x, .int y, .int z] (cw_st J 0 9 0) (some (.int (nI (sp_mk v n s c d)))) (cw_st J 0 9 0) := by rw [ex, ey, ez]; exact sr_markOf (hc.rv.st0 9 0) hs hcn hd1 hd
      exact Or.inl ⟨_, _, _, eX10_mark_0 ⟨_, sc_requireSibling hc.cv z1.1, _, sc_requireCell hc.cv z1.2, fun q => absurd z2.1 (Int32.not_le.mpr q), fun _ => ⟨fun _ => ⟨_, _, h1, rfl, rfl⟩, fun q => absurd z2.2 q⟩⟩, eX11_mark_0 ⟨_, _, sr_isSibling hc.rv, fun q => absurd z1.1 (sp_bit0 q), fun _ => ⟨_, _, sr_isCell hc.rv, fun _ => ⟨_, _, sr_in, fun _ => ⟨_, _, sr_fails0, fun _ => ⟨_, _, g1, rfl, rfl⟩, fun q => absurd rfl q⟩, fun q => absurd z2 (sp_bit0 q)⟩, fun q => absurd z1.2 (sp_bit0 q)⟩⟩, rfl, h⟩
    · refine Or.inr (Or.inr ⟨_, _, _, xX10_mark_0 hFT hl (Or.inl ⟨_, sc_requireSibling hc.cv z1.1, Or.inl ⟨_, sc_requireCell hc.cv z1.2, fun _ => ⟨rfl, rfl⟩, fun q => ⟨fun q2 => absurd ⟨Int32.not_lt.mp q, q2⟩ z2, fun _ => ⟨rfl, rfl⟩⟩⟩⟩), eX11_mark_0 ⟨_, _, sr_isSibling hc.rv, fun q => absurd z1.1 (sp_bit0 q), fun _ => ⟨_, _, sr_isCell hc.rv, fun _ => ⟨_, _, sr_in, fun q => absurd (sp_bit1 q) z2, fun _ => ⟨_, _, sr_fails2, fun q => absurd q (by decide), fun _ => ⟨rfl, rfl⟩⟩⟩, fun q => absurd z1.2 (sp_bit0 q)⟩⟩, rfl, h⟩)
  · refine Or.inr (Or.inl ⟨_, _, _, ft_mark1 hFT hl hc.cv z1, eX11_mark_0 ⟨_, _, sr_isSibling hc.rv, fun _ => ⟨_, _, sr_in, fun _ => ⟨_, _, sr_fails1, fun q => absurd q (by decide), fun _ => ⟨rfl, rfl⟩⟩, fun _ => ⟨_, _, sr_fails1, fun q => absurd q (by decide), fun _ => ⟨rfl, rfl⟩⟩⟩, fun q => ⟨_, _, sr_isCell hc.rv, fun q2 => absurd ⟨sp_bit1 q, sp_bit1 q2⟩ z1, fun _ => ⟨_, _, sr_in, fun _ => ⟨_, _, sr_fails1, fun q => absurd q (by decide), fun _ => ⟨rfl, rfl⟩⟩, fun _ => ⟨_, _, sr_fails1, fun q => absurd q (by decide), fun _ => ⟨rfl, rfl⟩⟩⟩⟩⟩, rfl, h⟩)
theorem sp_oi_no : sp_oi none = -1 := rfl
theorem sp_oi_len {w : Nat → Nat → Nat} {st len : Nat} (hk : k ≤ 6) (h : sp_len w k st = some len) : ¬ sp_oi (sp_len w k st) = -1 := by
  have h2 := sp_len_spec h
  rw [h]
  intro z
  have z2 : nI len = -1 := z
  have z3 : (0 : Int32) ≤ nI len := nI_le (a := 0) (by omega) (by omega)
  rw [z2] at z3
  exact absurd z3 (by decide)
theorem ca_rotate (hFT : cw_FT (cw_f (cc_w K))) (hl : K.1.stackTraces = false) (h : sp_Rel I J) {x : Int32} : sp_Q K mX10_rotate mX11_rotate [.int x] I J ∨ sp_X K mX10_rotate mX11_rotate [.int x] "java/lang/IndexOutOfBoundsException" 1 I J ∨ sp_X K mX10_rotate mX11_rotate [.int x] "java/lang/IllegalStateException" 2 I J := by
  have hh := h
  obtain ⟨n, k, v, ow, nl, nb, u, q, hP⟩ := hh
  obtain ⟨hc, hu, hw⟩ := hP
  have hk := hc.k6
  have hn := hc.n24
  by_cases z1 : 0 ≤ x ∧ x < nI k
  · obtain ⟨s, hs, rfl⟩ := sp_inB (by omega) z1
    obtain ⟨f17, f18, f19, -, h1⟩ := sc_findCycle (K := K) hc.cv hc.oI hs
    obtain ⟨f5, f6, -, g1⟩ := sr_findCycle (K := K) hc.rv hc.oJ hs
    cases e : sp_len (sp_w v ow n) k s with
    | none =>
      have e0 : sp_oi (sp_len (sp_w v ow n) k s) = -1 := by rw [e]; rfl
      exact Or.inr (Or.inr ⟨_, _, _, xX10_rotate_0 hFT hl (Or.inl ⟨_, sc_requireSibling hc.cv z1, _, _, h1, fun q => absurd e0 q, fun _ => ⟨rfl, rfl⟩⟩), eX11_rotate_0 ⟨_, _, sr_isSibling hc.rv, fun q => ⟨fun q2 => absurd q2 q, fun _ => ⟨_, _, g1, fun q => absurd e0 q, fun _ => ⟨_, _, sr_fails2, fun q => absurd q (by decide), fun _ => ⟨rfl, rfl⟩⟩⟩⟩, fun q => absurd z1 (sp_bit0 q)⟩, rfl, h⟩)
    | some len =>
      have e0 := sp_oi_len hk e
      have hP1 : sp_P n k v ow nl nb u q (sp_cyI I f17 f18 f19) (sp_cyJ J f5 f6) := ⟨hc, hu, hw⟩
      have hR := hP1.rem
      obtain ⟨a17, a18, a19, h2⟩ := sc_rotateThrough (K := K) hR.1.cv hR.1.oI hs e
      obtain ⟨b5, b6, g2⟩ := sr_turnCycle (K := K) hR.1.rv hR.1.oJ hs e
      have ec : ∀ c, c < n → sp_mp (sp_ro (sp_w v ow n) k s len) (fun c => (sp_R (sp_cyJ J f5 f6) u) 1 (2 + c)) n c = sp_mp (sp_ro (sp_w v ow n) k s len) (I 9) n c := fun c hc' => by
        have e1 : (fun c => (sp_R (sp_cyJ J f5 f6) u) 1 (2 + c)) c = I 9 c := by rw [hc.oI c hc']; exact hR.1.oJ c hc'
        unfold sp_mp
        rw [if_pos hc', if_pos hc', e1]
      have hO := hR.own (fC := sp_mp (sp_ro (sp_w v ow n) k s len) (I 9) n) (m := sp_sh (sp_mp (sp_ro (sp_w v ow n) k s len) (fun c => (sp_R (sp_cyJ J f5 f6) u) 1 (2 + c)) n) ((sp_R (sp_cyJ J f5 f6) u) 1)) (sp_okw_mp hc.gI hs hk e n) (fun c hc' => by rw [sp_shv _ _ (by omega)]; exact ec c hc') (sp_sh_el _ _)
      exact Or.inl ⟨_, _, _, eX10_rotate_0 ⟨_, sc_requireSibling hc.cv z1, _, _, h1, fun _ => ⟨_, sc_remember (I := sp_cyI I f17 f18 f19) hu.qI hu.q6 hu.uI hu.u6, _, _, h2, rfl, rfl⟩, fun q => absurd q e0⟩, eX11_rotate_0 ⟨_, _, sr_isSibling hc.rv, fun q => ⟨fun q2 => absurd q2 q, fun _ => ⟨_, _, g1, fun _ => ⟨_, _, sr_fails0, fun _ => ⟨_, sr_R (J := sp_cyJ J f5 f6) hu.uJ hu.u6, _, _, g2, rfl, rfl⟩, fun q => absurd rfl q⟩, fun q => absurd q e0⟩⟩, fun q => absurd z1 (sp_bit0 q)⟩, sp_R9 (sp_cyJ J f5 f6) u, n, k, v, _, nl, nb, _, _, hO⟩
  · exact Or.inr (Or.inl ⟨_, _, _, xX10_rotate_0 hFT hl (Or.inr ⟨_, _, st_requireSibling hFT hl hc.cv z1, rfl, rfl⟩), eX11_rotate_0 ⟨_, _, sr_isSibling hc.rv, fun q => absurd (sp_bit1 q) z1, fun q => ⟨fun _ => ⟨_, _, sr_fails1, fun q => absurd q (by decide), fun _ => ⟨rfl, rfl⟩⟩, fun q2 => absurd q q2⟩⟩, rfl, h⟩)
/-- a place in a cycle -/
theorem sp_mem_pos {w : Nat → Nat → Nat} {st : Nat} (hk : k ≤ 6) {y : Int32} (h0 : 0 ≤ y) (h : y < sp_oi (sp_len w k st)) : ∃ len p, sp_len w k st = some len ∧ p < len ∧ y = nI p := by
  cases e : sp_len w k st with
  | none =>
    rw [e] at h
    exact absurd (Int32.lt_of_le_of_lt h0 h) (by decide)
  | some len =>
    have h2 := sp_len_spec e
    rw [e] at h
    obtain ⟨p, hp, ep⟩ := sp_inB (x := y) (k := len) (by omega) ⟨h0, h⟩
    exact ⟨len, p, rfl, hp, ep⟩
theorem sp_oi_pred {w : Nat → Nat → Nat} {st : Nat} (hk : k ≤ 6) {y : Int32} (h0 : 0 ≤ y) : (y ≤ sp_oi (sp_len w k st) - 1) = (y < sp_oi (sp_len w k st)) := by
  cases e : sp_len w k st with
  | none =>
    apply propext
    constructor
    · intro z
      exact absurd (Int32.le_trans h0 z) (by decide)
    · intro z
      exact absurd (Int32.lt_of_le_of_lt h0 z) (by decide)
  | some len =>
    have h2 := sp_len_spec e
    exact sp_pred (x := y) (m := len) (by omega)
theorem ca_envyCycleMember (hFT : cw_FT (cw_f (cc_w K))) (hl : K.1.stackTraces = false) (h : sp_Rel I J) {x y : Int32} : sp_Q K mX10_envyCycleMember mX11_envyCycleMember [.int x, .int y] I J ∨ sp_X K mX10_envyCycleMember mX11_envyCycleMember [.int x, .int y] "java/lang/IndexOutOfBoundsException" 1 I J ∨ sp_X K mX10_envyCycleMember mX11_envyCycleMember [.int x, .int y] "java/util/NoSuchElementException" 2 I J := by
  have hh := h
  obtain ⟨n, k, v, ow, nl, nb, u, q, hP⟩ := hh
  obtain ⟨hc, hu, hw⟩ := hP
  have hk := hc.k6
  have hn := hc.n24
  by_cases z1 : 0 ≤ x ∧ x < nI k
  · obtain ⟨s, hs, rfl⟩ := sp_inB (by omega) z1
    obtain ⟨f17, f18, f19, h0, h1⟩ := sc_findCycle (K := K) hc.cv hc.oI hs
    obtain ⟨f5, f6, g0, g1⟩ := sr_findCycle (K := K) hc.rv hc.oJ hs
    by_cases z2 : 0 ≤ y ∧ y < sp_oi (sp_len (sp_w v ow n) k s)
    · obtain ⟨len, p, el, hp, ep⟩ := sp_mem_pos hk z2.1 z2.2
      have hl6 := sp_len_spec el
      have e1 : (sp_cyI I f17 f18 f19) 17 y.toNatClampNeg = nI (sp_cy (sp_w v ow n) k s len p) := by
        rw [ep, nI_clamp (by omega)]
        exact h0 len el p hp
      have e2 : (cw_st (sp_cyJ J f5 f6) 0 9 0) 6 y.toNatClampNeg = nI (sp_cy (sp_w v ow n) k s len p) := by
        rw [ep, nI_clamp (by omega)]
        exact g0 len el p hp
      have e3 : vp_in y 6 := by rw [ep]; exact vp_in_nI (by omega) (by omega)
      exact Or.inl ⟨nI (sp_cy (sp_w v ow n) k s len p), _, _, eX10_envyCycleMember_0 ⟨_, sc_requireSibling hc.cv z1, fun q => absurd z2.1 (Int32.not_le.mpr q), fun _ => ⟨_, _, h1, fun _ => ⟨e3, by rw [e1], rfl⟩, fun q => absurd z2.2 q⟩⟩, eX11_envyCycleMember_0 ⟨_, _, sr_isSibling hc.rv, fun q => ⟨fun q2 => absurd q2 q, fun _ => ⟨fun q2 => absurd q2 q, fun _ => ⟨_, _, g1, _, _, sr_in, fun _ => ⟨_, _, sr_fails0, fun _ => ⟨e3, by rw [e2], rfl⟩, fun q => absurd rfl q⟩, fun q => absurd ⟨z2.1, by rw [sp_oi_pred hk z2.1]; exact z2.2⟩ (sp_bit0 q)⟩⟩⟩, fun q => absurd z1 (sp_bit0 q)⟩, rfl, h⟩
    · have e5 : ¬ (0 ≤ y ∧ y ≤ sp_oi (sp_len (sp_w v ow n) k s) - 1) := fun z => z2 ⟨z.1, by rw [← sp_oi_pred hk z.1]; exact z.2⟩
      have hr : cw_C (cr_w K) mX11_envyCycleMember [.ref (cw_a (cr_w K) 0), .int (nI s), .int y] J (some (.int 0)) (cw_st (sp_cyJ J f5 f6) 0 9 2) := eX11_envyCycleMember_0 ⟨_, _, sr_isSibling hc.rv, fun q => ⟨fun q2 => absurd q2 q, fun _ => ⟨fun q2 => absurd q2 q, fun _ => ⟨_, _, g1, _, _, sr_in, fun q => absurd (sp_bit1 q) e5, fun _ => ⟨_, _, sr_fails2, fun q => absurd q (by decide), fun _ => ⟨rfl, rfl⟩⟩⟩⟩⟩, fun q => absurd z1 (sp_bit0 q)⟩
      by_cases y0 : y < 0
      · exact Or.inr (Or.inr ⟨_, _, _, xX10_envyCycleMember_0 hFT hl (Or.inl ⟨_, sc_requireSibling hc.cv z1, fun _ => ⟨rfl, rfl⟩, fun q => absurd y0 q⟩), hr, rfl, h⟩)
      · exact Or.inr (Or.inr ⟨_, sp_cyI I f17 f18 f19, _, xX10_envyCycleMember_0 hFT hl (Or.inl ⟨_, sc_requireSibling hc.cv z1, fun q => absurd q y0, fun _ => ⟨_, _, h1, fun q => absurd ⟨Int32.not_lt.mp y0, q⟩ z2, fun _ => ⟨rfl, rfl⟩⟩⟩), hr, rfl, h⟩)
  · exact Or.inr (Or.inl ⟨_, _, _, xX10_envyCycleMember_0 hFT hl (Or.inr ⟨_, _, st_requireSibling hFT hl hc.cv z1, rfl, rfl⟩), eX11_envyCycleMember_0 ⟨_, _, sr_isSibling hc.rv, fun q => absurd (sp_bit1 q) z1, fun q => ⟨fun _ => ⟨_, _, sr_fails1, fun q => absurd q (by decide), fun _ => ⟨rfl, rfl⟩⟩, fun q2 => absurd q q2⟩⟩, rfl, h⟩)
end CH2
