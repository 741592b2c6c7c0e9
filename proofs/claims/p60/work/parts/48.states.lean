/-! ## the face: undo, save, restore; inconsistencies; nameByte -/
theorem sp_bb24 (f g : Nat → Int32) (p : Nat) {c : Nat} (hc : c < 24) : va_cpy f g (p * 24) 0 24 c = f (p * 24 + c) := by
  unfold va_cpy
  rw [if_pos (by omega), show c - 0 = c by omega]
theorem sp_bb144 (f g : Nat → Int32) (p : Nat) {c : Nat} (hc : c < 144) : va_cpy f g (p * 144) 0 144 c = f (p * 144 + c) := by
  unfold va_cpy
  rw [if_pos (by omega), show c - 0 = c by omega]
theorem sp_cb0_at (f : Nat → Int32) (b : Nat) {j : Nat} (hj : j < 212) : sp_cb f b 0 j = f (b * 212 + j) := by
  have h := sp_cb_at f b 0 0 hj
  rw [show 0 * 212 + j = j by omega, if_pos rfl] at h
  exact h
theorem sp_cb0_hi (f : Nat → Int32) (b : Nat) {j : Nat} (hj : 212 ≤ j) : sp_cb f b 0 j = f j := by
  unfold sp_cb sp_cbp
  rw [if_neg (by omega)]
section STA
variable {K : cw_K} {I J : cw_M} {n k u q : Nat} {v : Nat → Nat → Nat} {ow : Nat → Int32} {nl : Nat → Nat} {nb : Nat → Nat → Int32}
/-- an earlier state brought back -/
theorem sp_P.back (h : sp_P n k v ow nl nb u q I J) {p b : Nat} (hB : sp_PB n k nl nb (I 30) (I 31) (J 1) p b) : ∃ (v2 : Nat → Nat → Nat) (ow2 : Nat → Int32), sp_P n k v2 ow2 nl nb u q (sp_bb I p) (cw_up J 1 (sp_cb (J 1) b 0)) := by
  obtain ⟨hc, hu, hw⟩ := h
  have hu2 := hu.m (m2 := sp_cb (J 1) b 0) hc.n24 hc.k6 hc.nl6 (fun j hj _ => sp_cb0_hi _ _ hj)
  have hnl := hc.nl6
  obtain ⟨a1, a2, a3, a4, _, a7, a8, _, a11, _⟩ := hc
  obtain ⟨v2, ow2, g, ⟨p1, p2⟩, bk⟩ := hB
  exact ⟨v2, ow2, ⟨a1, a2, a3, a4, g, a7, a8, ⟨fun c hc => (sp_bb24 (I 30) (I 9) p (by omega)).trans (p1 c hc), fun s c hs hc => (sp_bb144 (I 31) (I 8) p (by omega)).trans (p2 s c hs hc)⟩, a11, bk.cg a2 a4 hnl (fun j hj => sp_cb0_at (J 1) b hj)⟩, hu2, hw⟩
theorem sp_le1 {x : Int32} : (x ≤ 1) = (x < 2) := by
  have h := sp_pred (x := x) (m := 2) (by omega)
  rw [show nI 2 - 1 = 1 by decide, show nI 2 = 2 from rfl] at h
  exact h
/-! inconsistencies -/
def sp_inc (ow : Nat → Int32) (n : Nat) : Nat → Int32
  | 0 => nI n - nI (sp_cnt ow (-1) n)
  | i + 1 => sp_inc ow n i - nI (sp_cnt ow (nI i) n)
theorem sl_inconsistencies (h : sp_cv n k v I) (ho : ∀ c, c < n → I 9 c = ow c) : ∀ d i : Nat, i + d = k → bX10_inconsistencies_0_19 K (some (.int (sp_inc ow n k))) I (sp_inc ow n i) (nI i) I := by
  have hk := h.2.2.2.1
  intro d
  induction d with
  | zero =>
    intro i hi
    have e0 : i = k := by omega
    subst e0
    exact tbX10_inconsistencies_0_19 (br_t (by rw [h.2.1]; exact Int32.le_refl _) ⟨rfl, rfl⟩)
  | succ d ih =>
    intro i hi
    refine tbX10_inconsistencies_0_19 (br_f (by rw [h.2.1]; exact fun z => absurd ((nI_leI (by omega) (by omega)).mp z) (by omega)) ⟨_, _, sc_countOwned h ho (nI i), _, _, sc_hasEnvy h ho (show i < k by omega), fun _ => ?_, fun q => absurd (sp_bit1 q) (Nat.lt_irrefl _)⟩)
    rw [nI_1]
    exact ih (i + 1) (by omega)
/-! names -/
theorem sp_6 (s c : Nat) : nI s * 6 + nI c = nI (s * 6 + c) := sp_ix 6 s c
theorem sp_ixn (s : Nat) : 26 + nI s * 31 = nI (26 + s * 31) := by
  rw [show nI s * 31 = nI (s * 31) from sp_mul s 31]
  exact nI_add 26 (s * 31)
theorem sp_ixn2 (s i : Nat) : 26 + nI s * 31 + 1 + nI i = nI (27 + s * 31 + i) := by
  rw [sp_ixn, show nI (26 + s * 31) + 1 = nI (26 + s * 31 + 1) from nI_add _ 1, nI_add]
  congr 1
  omega
end STA
