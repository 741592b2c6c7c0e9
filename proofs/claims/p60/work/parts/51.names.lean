/-! ## names: findName against siblingNamed -/
def sp_NB (k : Nat) (nl : Nat → Nat) (nb : Nat → Nat → Int32) (f : Nat → Int32) : Prop := ∀ s, s < k → f (26 + s * 31) = nI (nl s) ∧ ∀ i, i < nl s → f (27 + s * 31 + i) = nb s i
section NAM
variable {K : cw_K} {I J : cw_M} {k L a len : Nat} {nl : Nat → Nat} {nb : Nat → Nat → Int32}
theorem sn_is_10 (hk : k ≤ 6) (hN : sp_NM k nl nb (I 11) (I 12)) (hB : sp_NB k nl nb (J 1)) (hT : ∀ j, j < L → I 2 j = J 3 j) (hL : L ≤ 600) (ha : a + len ≤ L) {s : Nat} (hs : s < k) (hl : nl s = len) : ∀ d i : Nat, i + d = len → ∃ b : Bool, bX1_isName_10_1_16 K (some (.int (if b then 1 else 0))) I (nI s) (nI a) (nI len) (nI i) I ∧ (∀ r F, (b = false → bY11_siblingNamed_0_2 K r F (nI a) (nI len) (nI s + 1) J) → (b = true → (r = some (.int (nI s)) ∧ F = J)) → bY11_siblingNamed_0_42 K r F (nI a) (nI len) (nI s) (26 + nI s * 31) 1 (nI i) J) := by
  have h6 := (hN s hs).1
  intro d
  induction d with
  | zero =>
    intro i hi
    have e0 : i = len := by omega
    subst e0
    exact ⟨true, tbX1_isName_10_1_16 (br_t (Int32.le_refl _) ⟨rfl, rfl⟩), fun r F _ h2 => tbY11_siblingNamed_0_42 ⟨fun q => absurd q (by decide), fun _ => br_t (Int32.le_refl _) ⟨fun q => absurd q (by decide), fun _ => h2 rfl⟩⟩⟩
  | succ d ih =>
    intro i hi
    have z1 : ¬ nI len ≤ nI i := fun z => absurd ((nI_leI (by omega) (by omega)).mp z) (by omega)
    have i1 : vp_in (nI s * 6 + nI i) 36 := by rw [sp_6]; exact vp_in_nI (by omega) (by omega)
    have i2 : vp_in (nI a + nI i) 600 := by rw [nI_add]; exact vp_in_nI (by omega) (by omega)
    have i3 : vp_in (26 + nI s * 31 + 1 + nI i) 2120 := by rw [sp_ixn2]; exact vp_in_nI (by omega) (by omega)
    have e1 : I 11 (nI s * 6 + nI i).toNatClampNeg = nb s i := by rw [sp_6, nI_clamp (by omega)]; exact (hN s hs).2.2 i (by omega)
    have e2 : I 2 (nI a + nI i).toNatClampNeg = J 3 (nI a + nI i).toNatClampNeg := by rw [nI_add, nI_clamp (by omega)]; exact hT _ (by omega)
    have e3 : J 1 (26 + nI s * 31 + 1 + nI i).toNatClampNeg = nb s i := by rw [sp_ixn2, nI_clamp (by omega)]; exact (hB s hs).2 i (by omega)
    by_cases y : nb s i = J 3 (nI a + nI i).toNatClampNeg
    · obtain ⟨b, a1, b1⟩ := ih (i + 1) (by omega)
      refine ⟨b, tbX1_isName_10_1_16 (br_f z1 ⟨i1, i2, fun _ => ?_, fun q => absurd (by rw [e1, e2]; exact y) q⟩), fun r F h1 h2 => tbY11_siblingNamed_0_42 ⟨fun q => absurd q (by decide), fun _ => br_f z1 ⟨i3, i2, fun q => absurd (by rw [e3]; exact y) q, fun _ => ?_⟩⟩⟩
      · rw [nI_1]; exact a1
      · rw [nI_1]; exact b1 r F h1 h2
    · refine ⟨false, tbX1_isName_10_1_16 (br_f z1 ⟨i1, i2, fun q => absurd (by rw [e1, e2] at q; exact q) y, fun _ => ⟨rfl, rfl⟩⟩), fun r F h1 h2 => tbY11_siblingNamed_0_42 ⟨fun q => absurd q (by decide), fun _ => br_f z1 ⟨i3, i2, fun _ => ?_, fun q => absurd (by rw [e3] at q; exact q) y⟩⟩⟩
      exact tbY11_siblingNamed_0_42 ⟨fun _ => ⟨fun _ => h1 rfl, fun q => absurd rfl q⟩, fun q => absurd rfl q⟩
theorem sn_loop_10 (hk : k ≤ 6) (k1 : I 10 1 = nI k) (k2 : J 1 1 = nI k) (hN : sp_NM k nl nb (I 11) (I 12)) (hB : sp_NB k nl nb (J 1)) (hT : ∀ j, j < L → I 2 j = J 3 j) (hL : L ≤ 600) (ha : a + len ≤ L) : ∀ d s : Nat, s + d = k → ∃ r : Int32, sp_okw k r ∧ bX1_findName_10_1_3 K (some (.int r)) I (nI a) (nI len) (nI s) I ∧ bY11_siblingNamed_0_2 K (some (.int r)) J (nI a) (nI len) (nI s) J := by
  intro d
  induction d with
  | zero =>
    intro s hs
    have e0 : s = k := by omega
    subst e0
    exact ⟨-1, Or.inl rfl, tbX1_findName_10_1_3 (br_t (by rw [k1]; exact Int32.le_refl _) ⟨rfl, rfl⟩), tbY11_siblingNamed_0_2 (br_t (by rw [k2]; exact Int32.le_refl _) ⟨rfl, rfl⟩)⟩
  | succ d ih =>
    intro s hs
    have hsk : s < k := by omega
    have z1 : ¬ I 10 1 ≤ nI s := by rw [k1]; exact fun z => absurd ((nI_leI (by omega) (by omega)).mp z) (by omega)
    have z2 : ¬ J 1 1 ≤ nI s := by rw [k2]; exact fun z => absurd ((nI_leI (by omega) (by omega)).mp z) (by omega)
    obtain ⟨r, hr, a1, b1⟩ := ih (s + 1) (by omega)
    have b2 : bY11_siblingNamed_0_2 K (some (.int r)) J (nI a) (nI len) (nI s + 1) J := by rw [nI_1]; exact b1
    have a2 : bX1_findName_10_1_3 K (some (.int r)) I (nI a) (nI len) (nI s + 1) I := by rw [nI_1]; exact a1
    have i0 : vp_in (nI s) 6 := vp_in_nI (by omega) (by omega)
    have i1 : vp_in (26 + nI s * 31) 2120 := by rw [sp_ixn]; exact vp_in_nI (by omega) (by omega)
    have h6 := (hN s hsk).1
    have e1 : I 12 (nI s).toNatClampNeg = nI (nl s) := by rw [nI_clamp (by omega)]; exact (hN s hsk).2.1
    have e2 : J 1 (26 + nI s * 31).toNatClampNeg = nI (nl s) := by rw [sp_ixn, nI_clamp (by omega)]; exact (hB s hsk).1
    by_cases y : nl s = len
    · obtain ⟨b, a3, b3⟩ := sn_is_10 (K := K) hk hN hB hT hL ha hsk y len 0 (by omega)
      have g1 : cw_C (cc_w K) mX1_isName [.ref (cw_a (cc_w K) 10), .int (nI s), .ref (cw_a (cc_w K) 1), .int (nI a), .int (nI len)] I (some (.int (if b then 1 else 0))) I := eX1_isName_10_1 ⟨i0, fun _ => a3, fun q => absurd (by rw [e1, y]) q⟩
      cases b with
      | false =>
        exact ⟨r, hr, tbX1_findName_10_1_3 (br_f z1 ⟨_, _, g1, fun _ => a2, fun q => absurd rfl q⟩), tbY11_siblingNamed_0_2 (br_f z2 ⟨i1, fun q => absurd (by rw [e2, y]) q, fun _ => b3 _ _ (fun _ => b2) (fun q => by cases q)⟩)⟩
      | true =>
        exact ⟨nI s, Or.inr ⟨s, hsk, rfl⟩, tbX1_findName_10_1_3 (br_f z1 ⟨_, _, g1, fun q => absurd q (by decide), fun _ => ⟨rfl, rfl⟩⟩), tbY11_siblingNamed_0_2 (br_f z2 ⟨i1, fun q => absurd (by rw [e2, y]) q, fun _ => b3 _ _ (fun q => by cases q) (fun _ => ⟨rfl, rfl⟩)⟩)⟩
    · have y2 : ¬ nI (nl s) = nI len := fun q => y ((nI_eq (by omega) (by omega)).mp q)
      have g1 : cw_C (cc_w K) mX1_isName [.ref (cw_a (cc_w K) 10), .int (nI s), .ref (cw_a (cc_w K) 1), .int (nI a), .int (nI len)] I (some (.int 0)) I := eX1_isName_10_1 ⟨i0, fun q => absurd (by rw [e1] at q; exact q) y2, fun _ => ⟨rfl, rfl⟩⟩
      exact ⟨r, hr, tbX1_findName_10_1_3 (br_f z1 ⟨_, _, g1, fun _ => a2, fun q => absurd rfl q⟩), tbY11_siblingNamed_0_2 (br_f z2 ⟨i1, fun _ => tbY11_siblingNamed_0_42 ⟨fun _ => ⟨fun _ => b2, fun q => absurd rfl q⟩, fun q => absurd rfl q⟩, fun q => absurd (by rw [e2] at q; exact q) y2⟩)⟩
theorem sn_10 (hk : k ≤ 6) (k1 : I 10 1 = nI k) (k2 : J 1 1 = nI k) (hN : sp_NM k nl nb (I 11) (I 12)) (hB : sp_NB k nl nb (J 1)) (hT : ∀ j, j < L → I 2 j = J 3 j) (hL : L ≤ 600) (ha : a + len ≤ L) : ∃ r : Int32, sp_okw k r ∧ cw_C (cc_w K) mX1_findName [.ref (cw_a (cc_w K) 10), .ref (cw_a (cc_w K) 1), .int (nI a), .int (nI len)] I (some (.int r)) I ∧ rw_C K mY11_siblingNamed [.ref (cw_a (cc_w K) 0), .int (nI a), .int (nI len)] J (some (.int r)) J := by
  obtain ⟨r, hr, a1, b1⟩ := sn_loop_10 (K := K) hk k1 k2 hN hB hT hL ha k 0 (by omega)
  exact ⟨r, hr, eX1_findName_10_1 a1, eY11_siblingNamed_0 b1⟩
theorem sp_okw_n1 {r : Int32} (h : sp_okw k r) (hk : k ≤ 6) : r = -1 ∨ (¬ r = -1 ∧ ∃ s, s < k ∧ r = nI s) := by
  rcases h with h | ⟨s, hs, rfl⟩
  · exact Or.inl h
  · refine Or.inr ⟨fun y => ?_, s, hs, rfl⟩
    have z3 : (0 : Int32) ≤ nI s := nI_le (a := 0) (by omega) (by omega)
    rw [y] at z3
    exact absurd z3 (by decide)
end NAM
