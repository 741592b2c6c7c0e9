/-! ## reading a script's commands, both sides -/
/-- what a command's numbers say: w the command, p its place of the class, q of the reference -/
def cg (k w : Nat) (f g : Nat → Int32) (p q : Nat) : Prop :=
  ((w = 0 ∨ w = 3) → ∃ s a b, s < k ∧ a ≤ 99 ∧ b ≤ 99 ∧ f p = nI s ∧ g (q + 1) = nI s ∧ f (p + 1) = nI a ∧ g (q + 2) = nI a ∧ f (p + 2) = nI b ∧ g (q + 3) = nI b) ∧
  (w = 1 → ∃ a b, a ≤ 99 ∧ b ≤ 99 ∧ f p = nI a ∧ g (q + 2) = nI a ∧ f (p + 1) = nI b ∧ g (q + 3) = nI b) ∧
  ((w = 2 ∨ w = 4) → ∃ s t, s < k ∧ t < k ∧ f p = nI s ∧ g (q + 1) = nI s ∧ f (p + 1) = nI t ∧ g (q + 2) = nI t) ∧
  ((w = 6 ∨ w = 7) → ∃ s, s < k ∧ f p = nI s ∧ g (q + 1) = nI s)
theorem cg.mv {k w p q : Nat} {f g f2 g2 : Nat → Int32} (h : cg k w f g p q) (hf : ∀ i, i < 3 → f2 (p + i) = f (p + i)) (hg : ∀ i, i < 4 → g2 (q + i) = g (q + i)) : cg k w f2 g2 p q := by
  unfold cg
  rw [show f2 p = f p from hf 0 (by omega), hf 1 (by omega), hf 2 (by omega), hg 1 (by omega), hg 2 (by omega), hg 3 (by omega)]
  exact h
def cm (k : Nat) (f26 f27 g : Nat → Int32) (c : Nat) : Prop := ∃ w, w < 8 ∧ f26 c = nI (w + 1) ∧ g (c * 4) = nI w ∧ cg k w f27 g (c * 3) (c * 4)
/-- the arguments of command c and nothing else -/
def as (c : Nat) (I J I2 J2 : cw_M) : Prop := I2 25 = I 25 ∧ I2 26 = I 26 ∧ (∀ p, ¬ (c * 3 ≤ p ∧ p < c * 3 + 3) → I2 27 p = I 27 p) ∧ (∀ p, ¬ (c * 4 + 1 ≤ p ∧ p < c * 4 + 4) → J2 10 p = J 10 p) ∧ fc I J I2 J2
theorem as.refl (c : Nat) (I J : cw_M) : as c I J I J := ⟨rfl, rfl, fun _ _ => rfl, fun _ _ => rfl, fc.refl I J⟩
theorem as.trans {c : Nat} {I J I2 J2 I3 J3 : cw_M} (h : as c I J I2 J2) (g : as c I2 J2 I3 J3) : as c I J I3 J3 := ⟨g.1.trans h.1, g.2.1.trans h.2.1, fun p hp => (g.2.2.1 p hp).trans (h.2.2.1 p hp), fun p hp => (g.2.2.2.1 p hp).trans (h.2.2.2.1 p hp), h.2.2.2.2.trans g.2.2.2.2⟩
theorem ar.as {I J I2 J2 : cw_M} {c p t : Nat} {x : Int32} (h : ar I J I2 J2 p t x) (hp : c * 3 ≤ p ∧ p < c * 3 + 3) (ht : c * 4 + 1 ≤ t ∧ t < c * 4 + 4) : as c I J I2 J2 := ⟨h.2.2.1 25 (by omega) (by omega), h.2.2.1 26 (by omega) (by omega), fun j hj => by rw [h.1]; exact sp_upd_ne _ _ (fun z => hj (by rw [z]; exact hp)), fun j hj => by rw [h.2.1]; exact sp_upd_ne _ _ (fun z => hj (by rw [z]; exact ht)), h.fc⟩
section SCR2
variable {K : cw_K} {I J I0 J0 : cw_M} {L kd a e k c : Nat} {va : Int32} {nl : Nat → Nat} {nb : Nat → Nat → Int32}
/-- the arguments of a command: read by both -/
def ag (K : cw_K) (L k c w : Nat) (I J : cw_M) : Prop := ∃ b I2 J2, (∀ (r : Option Value) (F : cw_M), (b = 0 → r = some (.int 0) ∧ F = I2) → (b = 1 → bX5_readCommand_15_25_5_27 K r F w (nI (cw_tx (cw_pat w)).length) I2) → bX5_readCommand_15_25_5_27 K r F w (nI 0) I) ∧ cw_C (cr_w K) mX11_parseArguments [.ref (cw_a (cr_w K) 0), .int (nI w), .int (nI (c * 4 + 1))] J (some (.int b)) J2 ∧ ((b = 0 ∧ sp_RE I2 J2 ∧ fc I J I2 J2) ∨ (b = 1 ∧ (∃ kd a e va, cu L kd a e va I2 J2) ∧ as c I J I2 J2 ∧ cg k w (I2 27) (J2 10) (c * 3) (c * 4)))
theorem ag_0 (hFS : cw_FS (cw_Fc K) (cw_sd K) (cw_sv K)) (hFV : cw_FV K) (h : cu L kd a e va I J) (hs : sx k nl nb I J) (h25 : I 25 0 = nI (c + 1)) (hc : c < 30) : ag K L k c 0 I J := by
  have t1 : nI (c * 4 + 1) + 1 = nI (c * 4 + 1 + 1) := nI_add _ 1
  have t2 : nI (c * 4 + 1) + 2 = nI (c * 4 + 1 + 2) := nI_add _ 2
  obtain ⟨b0, I1, J1, l0, m0, o0⟩ := al_nam (K := K) hFS hFV (w := 0) (i := 0) (c := c) (t := c * 4 + 1) (by decide) (by decide) (by decide) (by decide) (by decide) h hs h25 hc (by omega)
  rcases o0 with ⟨rfl, hr, hf⟩ | ⟨rfl, d0, hd0, ⟨kd1, a1, e1, va1, hc1⟩, hA1⟩
  · exact ⟨0, I1, J1, fun r F f0 _ => l0 r F f0 (fun q => absurd q (by decide)), eX11_parseArguments_0 ⟨fun _ => ⟨_, _, m0, fun _ => ⟨rfl, rfl⟩, fun q => absurd rfl q⟩, fun q => absurd q (by decide), fun q => absurd q (by decide), fun q => absurd q (by decide), fun q => absurd q (by decide), fun q => absurd q (by decide), fun q0 q1 q2 q3 q4 q5 => absurd rfl q0⟩, Or.inl ⟨rfl, hr, hf⟩⟩
  · have h251 : I1 25 0 = nI (c + 1) := by rw [hA1.2.2.1 25 (by omega) (by omega)]; exact h25
    have hs1 := hs.fc hA1.fc
    obtain ⟨b1, I2, J2, l1, m1, o1⟩ := al_num (K := K) hFS hFV (w := 0) (i := 1) (c := c) (t := c * 4 + 1 + 1) (by decide) (by decide) (by decide) (by decide) (by decide) hc1 h251 hc (by omega)
    rw [← t1] at m1
    rcases o1 with ⟨rfl, hr, hf⟩ | ⟨rfl, d1, hd1, ⟨kd2, a2, e2, va2, hc2⟩, hA2⟩
    · exact ⟨0, I2, J2, fun r F f0 _ => l0 r F (fun q => absurd q (by decide)) (fun _ => l1 r F f0 (fun q => absurd q (by decide))), eX11_parseArguments_0 ⟨fun _ => ⟨_, _, m0, fun q => absurd q (by decide), fun _ => ⟨_, _, m1, fun _ => ⟨rfl, rfl⟩, fun q => absurd rfl q⟩⟩, fun q => absurd q (by decide), fun q => absurd q (by decide), fun q => absurd q (by decide), fun q => absurd q (by decide), fun q => absurd q (by decide), fun q0 q1 q2 q3 q4 q5 => absurd rfl q0⟩, Or.inl ⟨rfl, hr, hA1.fc.trans hf⟩⟩
    · have h252 : I2 25 0 = nI (c + 1) := by rw [hA2.2.2.1 25 (by omega) (by omega)]; exact h251
      have hs2 := hs1.fc hA2.fc
      obtain ⟨b2, I3, J3, l2, m2, o2⟩ := al_num (K := K) hFS hFV (w := 0) (i := 2) (c := c) (t := c * 4 + 1 + 2) (by decide) (by decide) (by decide) (by decide) (by decide) hc2 h252 hc (by omega)
      rw [← t2] at m2
      rcases o2 with ⟨rfl, hr, hf⟩ | ⟨rfl, d2, hd2, ⟨kd3, a3, e3, va3, hc3⟩, hA3⟩
      · exact ⟨0, I3, J3, fun r F f0 _ => l0 r F (fun q => absurd q (by decide)) (fun _ => l1 r F (fun q => absurd q (by decide)) (fun _ => l2 r F f0 (fun q => absurd q (by decide)))), eX11_parseArguments_0 ⟨fun _ => ⟨_, _, m0, fun q => absurd q (by decide), fun _ => ⟨_, _, m1, fun q => absurd q (by decide), fun _ => ⟨_, _, m2, fun _ => ⟨rfl, rfl⟩, fun q => absurd rfl q⟩⟩⟩, fun q => absurd q (by decide), fun q => absurd q (by decide), fun q => absurd q (by decide), fun q => absurd q (by decide), fun q => absurd q (by decide), fun q0 q1 q2 q3 q4 q5 => absurd rfl q0⟩, Or.inl ⟨rfl, hr, hA1.fc.trans (hA2.fc.trans hf)⟩⟩
      · have e27 : I3 27 = upd (upd (upd (I 27) (c * 3) (nI d0)) (c * 3 + 1) (nI d1)) (c * 3 + 2) (nI d2) := by simp only [hA3.1, hA2.1, hA1.1, Nat.add_zero]
        have e10 : J3 10 = upd (upd (upd (J 10) (c * 4 + 1) (nI d0)) (c * 4 + 1 + 1) (nI d1)) (c * 4 + 1 + 2) (nI d2) := by simp only [hA3.2.1, hA2.2.1, hA1.2.1]
        exact ⟨1, I3, J3, fun r F _ f1 => l0 r F (fun q => absurd q (by decide)) (fun _ => l1 r F (fun q => absurd q (by decide)) (fun _ => l2 r F (fun q => absurd q (by decide)) f1)), eX11_parseArguments_0 ⟨fun _ => ⟨_, _, m0, fun q => absurd q (by decide), fun _ => ⟨_, _, m1, fun q => absurd q (by decide), fun _ => ⟨_, _, m2, fun q => absurd q (by decide), fun _ => ⟨rfl, rfl⟩⟩⟩⟩, fun q => absurd q (by decide), fun q => absurd q (by decide), fun q => absurd q (by decide), fun q => absurd q (by decide), fun q => absurd q (by decide), fun q0 q1 q2 q3 q4 q5 => absurd rfl q0⟩, Or.inr ⟨rfl, ⟨_, _, _, _, hc3⟩, ((hA1.as (by omega) (by omega)).trans (hA2.as (by omega) (by omega))).trans (hA3.as (by omega) (by omega)), fun _ => ⟨d0, d1, d2, hd0, hd1, hd2, by rw [e27, sp_upd_ne _ _ (by omega), sp_upd_ne _ _ (by omega), sp_upd_same], by rw [e10, sp_upd_ne _ _ (by omega), sp_upd_ne _ _ (by omega), sp_upd_same], by rw [e27, sp_upd_ne _ _ (by omega), sp_upd_same], by rw [e10, sp_upd_ne _ _ (by omega), sp_upd_same], by rw [e27, sp_upd_same], by rw [e10, sp_upd_same]⟩, fun q => absurd q (by decide), fun q => absurd q (by decide), fun q => absurd q (by decide)⟩⟩
theorem ag_1 (hFS : cw_FS (cw_Fc K) (cw_sd K) (cw_sv K)) (hFV : cw_FV K) (h : cu L kd a e va I J) (hs : sx k nl nb I J) (h25 : I 25 0 = nI (c + 1)) (hc : c < 30) : ag K L k c 1 I J := by
  have t1 : nI (c * 4 + 1) + 1 = nI (c * 4 + 1 + 1) := nI_add _ 1
  have t2 : nI (c * 4 + 1) + 2 = nI (c * 4 + 1 + 2) := nI_add _ 2
  obtain ⟨b0, I1, J1, l0, m0, o0⟩ := al_num (K := K) hFS hFV (w := 1) (i := 0) (c := c) (t := c * 4 + 1 + 1) (by decide) (by decide) (by decide) (by decide) (by decide) h h25 hc (by omega)
  rw [← t1] at m0
  rcases o0 with ⟨rfl, hr, hf⟩ | ⟨rfl, d0, hd0, ⟨kd1, a1, e1, va1, hc1⟩, hA1⟩
  · exact ⟨0, I1, J1, fun r F f0 _ => l0 r F f0 (fun q => absurd q (by decide)), eX11_parseArguments_0 ⟨fun q => absurd q (by decide), fun _ => ⟨_, _, m0, fun _ => ⟨rfl, rfl⟩, fun q => absurd rfl q⟩, fun q => absurd q (by decide), fun q => absurd q (by decide), fun q => absurd q (by decide), fun q => absurd q (by decide), fun q0 q1 q2 q3 q4 q5 => absurd rfl q1⟩, Or.inl ⟨rfl, hr, hf⟩⟩
  · have h251 : I1 25 0 = nI (c + 1) := by rw [hA1.2.2.1 25 (by omega) (by omega)]; exact h25
    have hs1 := hs.fc hA1.fc
    obtain ⟨b1, I2, J2, l1, m1, o1⟩ := al_num (K := K) hFS hFV (w := 1) (i := 1) (c := c) (t := c * 4 + 1 + 2) (by decide) (by decide) (by decide) (by decide) (by decide) hc1 h251 hc (by omega)
    rw [← t2] at m1
    rcases o1 with ⟨rfl, hr, hf⟩ | ⟨rfl, d1, hd1, ⟨kd2, a2, e2, va2, hc2⟩, hA2⟩
    · exact ⟨0, I2, J2, fun r F f0 _ => l0 r F (fun q => absurd q (by decide)) (fun _ => l1 r F f0 (fun q => absurd q (by decide))), eX11_parseArguments_0 ⟨fun q => absurd q (by decide), fun _ => ⟨_, _, m0, fun q => absurd q (by decide), fun _ => ⟨_, _, m1, fun _ => ⟨rfl, rfl⟩, fun q => absurd rfl q⟩⟩, fun q => absurd q (by decide), fun q => absurd q (by decide), fun q => absurd q (by decide), fun q => absurd q (by decide), fun q0 q1 q2 q3 q4 q5 => absurd rfl q1⟩, Or.inl ⟨rfl, hr, hA1.fc.trans hf⟩⟩
    · have e27 : I2 27 = upd (upd (I 27) (c * 3) (nI d0)) (c * 3 + 1) (nI d1) := by simp only [hA2.1, hA1.1, Nat.add_zero]
      have e10 : J2 10 = upd (upd (J 10) (c * 4 + 1 + 1) (nI d0)) (c * 4 + 1 + 2) (nI d1) := by simp only [hA2.2.1, hA1.2.1]
      exact ⟨1, I2, J2, fun r F _ f1 => l0 r F (fun q => absurd q (by decide)) (fun _ => l1 r F (fun q => absurd q (by decide)) f1), eX11_parseArguments_0 ⟨fun q => absurd q (by decide), fun _ => ⟨_, _, m0, fun q => absurd q (by decide), fun _ => ⟨_, _, m1, fun q => absurd q (by decide), fun _ => ⟨rfl, rfl⟩⟩⟩, fun q => absurd q (by decide), fun q => absurd q (by decide), fun q => absurd q (by decide), fun q => absurd q (by decide), fun q0 q1 q2 q3 q4 q5 => absurd rfl q1⟩, Or.inr ⟨rfl, ⟨_, _, _, _, hc2⟩, (hA1.as (by omega) (by omega)).trans (hA2.as (by omega) (by omega)), fun q => absurd q (by decide), fun _ => ⟨d0, d1, hd0, hd1, by rw [e27, sp_upd_ne _ _ (by omega), sp_upd_same], by rw [e10, sp_upd_ne _ _ (by omega), sp_upd_same], by rw [e27, sp_upd_same], by rw [e10, sp_upd_same]⟩, fun q => absurd q (by decide), fun q => absurd q (by decide)⟩⟩
theorem ag_2 (hFS : cw_FS (cw_Fc K) (cw_sd K) (cw_sv K)) (hFV : cw_FV K) (h : cu L kd a e va I J) (hs : sx k nl nb I J) (h25 : I 25 0 = nI (c + 1)) (hc : c < 30) : ag K L k c 2 I J := by
  have t1 : nI (c * 4 + 1) + 1 = nI (c * 4 + 1 + 1) := nI_add _ 1
  obtain ⟨b0, I1, J1, l0, m0, o0⟩ := al_nam (K := K) hFS hFV (w := 2) (i := 0) (c := c) (t := c * 4 + 1) (by decide) (by decide) (by decide) (by decide) (by decide) h hs h25 hc (by omega)
  rcases o0 with ⟨rfl, hr, hf⟩ | ⟨rfl, d0, hd0, ⟨kd1, a1, e1, va1, hc1⟩, hA1⟩
  · exact ⟨0, I1, J1, fun r F f0 _ => l0 r F f0 (fun q => absurd q (by decide)), eX11_parseArguments_0 ⟨fun q => absurd q (by decide), fun q => absurd q (by decide), fun _ => ⟨_, _, m0, fun _ => ⟨rfl, rfl⟩, fun q => absurd rfl q⟩, fun q => absurd q (by decide), fun q => absurd q (by decide), fun q => absurd q (by decide), fun q0 q1 q2 q3 q4 q5 => absurd rfl q2⟩, Or.inl ⟨rfl, hr, hf⟩⟩
  · have h251 : I1 25 0 = nI (c + 1) := by rw [hA1.2.2.1 25 (by omega) (by omega)]; exact h25
    have hs1 := hs.fc hA1.fc
    obtain ⟨b1, I2, J2, l1, m1, o1⟩ := al_nam (K := K) hFS hFV (w := 2) (i := 1) (c := c) (t := c * 4 + 1 + 1) (by decide) (by decide) (by decide) (by decide) (by decide) hc1 hs1 h251 hc (by omega)
    rw [← t1] at m1
    rcases o1 with ⟨rfl, hr, hf⟩ | ⟨rfl, d1, hd1, ⟨kd2, a2, e2, va2, hc2⟩, hA2⟩
    · exact ⟨0, I2, J2, fun r F f0 _ => l0 r F (fun q => absurd q (by decide)) (fun _ => l1 r F f0 (fun q => absurd q (by decide))), eX11_parseArguments_0 ⟨fun q => absurd q (by decide), fun q => absurd q (by decide), fun _ => ⟨_, _, m0, fun q => absurd q (by decide), fun _ => ⟨_, _, m1, fun _ => ⟨rfl, rfl⟩, fun q => absurd rfl q⟩⟩, fun q => absurd q (by decide), fun q => absurd q (by decide), fun q => absurd q (by decide), fun q0 q1 q2 q3 q4 q5 => absurd rfl q2⟩, Or.inl ⟨rfl, hr, hA1.fc.trans hf⟩⟩
    · have e27 : I2 27 = upd (upd (I 27) (c * 3) (nI d0)) (c * 3 + 1) (nI d1) := by simp only [hA2.1, hA1.1, Nat.add_zero]
      have e10 : J2 10 = upd (upd (J 10) (c * 4 + 1) (nI d0)) (c * 4 + 1 + 1) (nI d1) := by simp only [hA2.2.1, hA1.2.1]
      exact ⟨1, I2, J2, fun r F _ f1 => l0 r F (fun q => absurd q (by decide)) (fun _ => l1 r F (fun q => absurd q (by decide)) f1), eX11_parseArguments_0 ⟨fun q => absurd q (by decide), fun q => absurd q (by decide), fun _ => ⟨_, _, m0, fun q => absurd q (by decide), fun _ => ⟨_, _, m1, fun q => absurd q (by decide), fun _ => ⟨rfl, rfl⟩⟩⟩, fun q => absurd q (by decide), fun q => absurd q (by decide), fun q => absurd q (by decide), fun q0 q1 q2 q3 q4 q5 => absurd rfl q2⟩, Or.inr ⟨rfl, ⟨_, _, _, _, hc2⟩, (hA1.as (by omega) (by omega)).trans (hA2.as (by omega) (by omega)), fun q => absurd q (by decide), fun q => absurd q (by decide), fun _ => ⟨d0, d1, hd0, hd1, by rw [e27, sp_upd_ne _ _ (by omega), sp_upd_same], by rw [e10, sp_upd_ne _ _ (by omega), sp_upd_same], by rw [e27, sp_upd_same], by rw [e10, sp_upd_same]⟩, fun q => absurd q (by decide)⟩⟩
theorem ag_3 (hFS : cw_FS (cw_Fc K) (cw_sd K) (cw_sv K)) (hFV : cw_FV K) (h : cu L kd a e va I J) (hs : sx k nl nb I J) (h25 : I 25 0 = nI (c + 1)) (hc : c < 30) : ag K L k c 3 I J := by
  have t1 : nI (c * 4 + 1) + 1 = nI (c * 4 + 1 + 1) := nI_add _ 1
  have t2 : nI (c * 4 + 1) + 2 = nI (c * 4 + 1 + 2) := nI_add _ 2
  obtain ⟨b0, I1, J1, l0, m0, o0⟩ := al_nam (K := K) hFS hFV (w := 3) (i := 0) (c := c) (t := c * 4 + 1) (by decide) (by decide) (by decide) (by decide) (by decide) h hs h25 hc (by omega)
  rcases o0 with ⟨rfl, hr, hf⟩ | ⟨rfl, d0, hd0, ⟨kd1, a1, e1, va1, hc1⟩, hA1⟩
  · exact ⟨0, I1, J1, fun r F f0 _ => l0 r F f0 (fun q => absurd q (by decide)), eX11_parseArguments_0 ⟨fun q => absurd q (by decide), fun q => absurd q (by decide), fun q => absurd q (by decide), fun _ => ⟨_, _, m0, fun _ => ⟨rfl, rfl⟩, fun q => absurd rfl q⟩, fun q => absurd q (by decide), fun q => absurd q (by decide), fun q0 q1 q2 q3 q4 q5 => absurd rfl q3⟩, Or.inl ⟨rfl, hr, hf⟩⟩
  · have h251 : I1 25 0 = nI (c + 1) := by rw [hA1.2.2.1 25 (by omega) (by omega)]; exact h25
    have hs1 := hs.fc hA1.fc
    obtain ⟨b1, I2, J2, l1, m1, o1⟩ := al_num (K := K) hFS hFV (w := 3) (i := 1) (c := c) (t := c * 4 + 1 + 1) (by decide) (by decide) (by decide) (by decide) (by decide) hc1 h251 hc (by omega)
    rw [← t1] at m1
    rcases o1 with ⟨rfl, hr, hf⟩ | ⟨rfl, d1, hd1, ⟨kd2, a2, e2, va2, hc2⟩, hA2⟩
    · exact ⟨0, I2, J2, fun r F f0 _ => l0 r F (fun q => absurd q (by decide)) (fun _ => l1 r F f0 (fun q => absurd q (by decide))), eX11_parseArguments_0 ⟨fun q => absurd q (by decide), fun q => absurd q (by decide), fun q => absurd q (by decide), fun _ => ⟨_, _, m0, fun q => absurd q (by decide), fun _ => ⟨_, _, m1, fun _ => ⟨rfl, rfl⟩, fun q => absurd rfl q⟩⟩, fun q => absurd q (by decide), fun q => absurd q (by decide), fun q0 q1 q2 q3 q4 q5 => absurd rfl q3⟩, Or.inl ⟨rfl, hr, hA1.fc.trans hf⟩⟩
    · have h252 : I2 25 0 = nI (c + 1) := by rw [hA2.2.2.1 25 (by omega) (by omega)]; exact h251
      have hs2 := hs1.fc hA2.fc
      obtain ⟨b2, I3, J3, l2, m2, o2⟩ := al_num (K := K) hFS hFV (w := 3) (i := 2) (c := c) (t := c * 4 + 1 + 2) (by decide) (by decide) (by decide) (by decide) (by decide) hc2 h252 hc (by omega)
      rw [← t2] at m2
      rcases o2 with ⟨rfl, hr, hf⟩ | ⟨rfl, d2, hd2, ⟨kd3, a3, e3, va3, hc3⟩, hA3⟩
      · exact ⟨0, I3, J3, fun r F f0 _ => l0 r F (fun q => absurd q (by decide)) (fun _ => l1 r F (fun q => absurd q (by decide)) (fun _ => l2 r F f0 (fun q => absurd q (by decide)))), eX11_parseArguments_0 ⟨fun q => absurd q (by decide), fun q => absurd q (by decide), fun q => absurd q (by decide), fun _ => ⟨_, _, m0, fun q => absurd q (by decide), fun _ => ⟨_, _, m1, fun q => absurd q (by decide), fun _ => ⟨_, _, m2, fun _ => ⟨rfl, rfl⟩, fun q => absurd rfl q⟩⟩⟩, fun q => absurd q (by decide), fun q => absurd q (by decide), fun q0 q1 q2 q3 q4 q5 => absurd rfl q3⟩, Or.inl ⟨rfl, hr, hA1.fc.trans (hA2.fc.trans hf)⟩⟩
      · have e27 : I3 27 = upd (upd (upd (I 27) (c * 3) (nI d0)) (c * 3 + 1) (nI d1)) (c * 3 + 2) (nI d2) := by simp only [hA3.1, hA2.1, hA1.1, Nat.add_zero]
        have e10 : J3 10 = upd (upd (upd (J 10) (c * 4 + 1) (nI d0)) (c * 4 + 1 + 1) (nI d1)) (c * 4 + 1 + 2) (nI d2) := by simp only [hA3.2.1, hA2.2.1, hA1.2.1]
        exact ⟨1, I3, J3, fun r F _ f1 => l0 r F (fun q => absurd q (by decide)) (fun _ => l1 r F (fun q => absurd q (by decide)) (fun _ => l2 r F (fun q => absurd q (by decide)) f1)), eX11_parseArguments_0 ⟨fun q => absurd q (by decide), fun q => absurd q (by decide), fun q => absurd q (by decide), fun _ => ⟨_, _, m0, fun q => absurd q (by decide), fun _ => ⟨_, _, m1, fun q => absurd q (by decide), fun _ => ⟨_, _, m2, fun q => absurd q (by decide), fun _ => ⟨rfl, rfl⟩⟩⟩⟩, fun q => absurd q (by decide), fun q => absurd q (by decide), fun q0 q1 q2 q3 q4 q5 => absurd rfl q3⟩, Or.inr ⟨rfl, ⟨_, _, _, _, hc3⟩, ((hA1.as (by omega) (by omega)).trans (hA2.as (by omega) (by omega))).trans (hA3.as (by omega) (by omega)), fun _ => ⟨d0, d1, d2, hd0, hd1, hd2, by rw [e27, sp_upd_ne _ _ (by omega), sp_upd_ne _ _ (by omega), sp_upd_same], by rw [e10, sp_upd_ne _ _ (by omega), sp_upd_ne _ _ (by omega), sp_upd_same], by rw [e27, sp_upd_ne _ _ (by omega), sp_upd_same], by rw [e10, sp_upd_ne _ _ (by omega), sp_upd_same], by rw [e27, sp_upd_same], by rw [e10, sp_upd_same]⟩, fun q => absurd q (by decide), fun q => absurd q (by decide), fun q => absurd q (by decide)⟩⟩
theorem ag_4 (hFS : cw_FS (cw_Fc K) (cw_sd K) (cw_sv K)) (hFV : cw_FV K) (h : cu L kd a e va I J) (hs : sx k nl nb I J) (h25 : I 25 0 = nI (c + 1)) (hc : c < 30) : ag K L k c 4 I J := by
  have t1 : nI (c * 4 + 1) + 1 = nI (c * 4 + 1 + 1) := nI_add _ 1
  obtain ⟨b0, I1, J1, l0, m0, o0⟩ := al_nam (K := K) hFS hFV (w := 4) (i := 0) (c := c) (t := c * 4 + 1) (by decide) (by decide) (by decide) (by decide) (by decide) h hs h25 hc (by omega)
  rcases o0 with ⟨rfl, hr, hf⟩ | ⟨rfl, d0, hd0, ⟨kd1, a1, e1, va1, hc1⟩, hA1⟩
  · exact ⟨0, I1, J1, fun r F f0 _ => l0 r F f0 (fun q => absurd q (by decide)), eX11_parseArguments_0 ⟨fun q => absurd q (by decide), fun q => absurd q (by decide), fun q => absurd q (by decide), fun q => absurd q (by decide), fun _ => ⟨_, _, m0, fun _ => ⟨rfl, rfl⟩, fun q => absurd rfl q⟩, fun q => absurd q (by decide), fun q0 q1 q2 q3 q4 q5 => absurd rfl q4⟩, Or.inl ⟨rfl, hr, hf⟩⟩
  · have h251 : I1 25 0 = nI (c + 1) := by rw [hA1.2.2.1 25 (by omega) (by omega)]; exact h25
    have hs1 := hs.fc hA1.fc
    obtain ⟨b1, I2, J2, l1, m1, o1⟩ := al_nam (K := K) hFS hFV (w := 4) (i := 1) (c := c) (t := c * 4 + 1 + 1) (by decide) (by decide) (by decide) (by decide) (by decide) hc1 hs1 h251 hc (by omega)
    rw [← t1] at m1
    rcases o1 with ⟨rfl, hr, hf⟩ | ⟨rfl, d1, hd1, ⟨kd2, a2, e2, va2, hc2⟩, hA2⟩
    · exact ⟨0, I2, J2, fun r F f0 _ => l0 r F (fun q => absurd q (by decide)) (fun _ => l1 r F f0 (fun q => absurd q (by decide))), eX11_parseArguments_0 ⟨fun q => absurd q (by decide), fun q => absurd q (by decide), fun q => absurd q (by decide), fun q => absurd q (by decide), fun _ => ⟨_, _, m0, fun q => absurd q (by decide), fun _ => ⟨_, _, m1, fun _ => ⟨rfl, rfl⟩, fun q => absurd rfl q⟩⟩, fun q => absurd q (by decide), fun q0 q1 q2 q3 q4 q5 => absurd rfl q4⟩, Or.inl ⟨rfl, hr, hA1.fc.trans hf⟩⟩
    · have e27 : I2 27 = upd (upd (I 27) (c * 3) (nI d0)) (c * 3 + 1) (nI d1) := by simp only [hA2.1, hA1.1, Nat.add_zero]
      have e10 : J2 10 = upd (upd (J 10) (c * 4 + 1) (nI d0)) (c * 4 + 1 + 1) (nI d1) := by simp only [hA2.2.1, hA1.2.1]
      exact ⟨1, I2, J2, fun r F _ f1 => l0 r F (fun q => absurd q (by decide)) (fun _ => l1 r F (fun q => absurd q (by decide)) f1), eX11_parseArguments_0 ⟨fun q => absurd q (by decide), fun q => absurd q (by decide), fun q => absurd q (by decide), fun q => absurd q (by decide), fun _ => ⟨_, _, m0, fun q => absurd q (by decide), fun _ => ⟨_, _, m1, fun q => absurd q (by decide), fun _ => ⟨rfl, rfl⟩⟩⟩, fun q => absurd q (by decide), fun q0 q1 q2 q3 q4 q5 => absurd rfl q4⟩, Or.inr ⟨rfl, ⟨_, _, _, _, hc2⟩, (hA1.as (by omega) (by omega)).trans (hA2.as (by omega) (by omega)), fun q => absurd q (by decide), fun q => absurd q (by decide), fun _ => ⟨d0, d1, hd0, hd1, by rw [e27, sp_upd_ne _ _ (by omega), sp_upd_same], by rw [e10, sp_upd_ne _ _ (by omega), sp_upd_same], by rw [e27, sp_upd_same], by rw [e10, sp_upd_same]⟩, fun q => absurd q (by decide)⟩⟩
theorem ag_5 (hFS : cw_FS (cw_Fc K) (cw_sd K) (cw_sv K)) (hFV : cw_FV K) (h : cu L kd a e va I J) (hs : sx k nl nb I J) (h25 : I 25 0 = nI (c + 1)) (hc : c < 30) : ag K L k c 5 I J := by
  exact ⟨1, I, J, fun r F _ f1 => f1 rfl, eX11_parseArguments_0 ⟨fun q => absurd q (by decide), fun q => absurd q (by decide), fun q => absurd q (by decide), fun q => absurd q (by decide), fun q => absurd q (by decide), fun _ => ⟨rfl, rfl⟩, fun q0 q1 q2 q3 q4 q5 => absurd rfl q5⟩, Or.inr ⟨rfl, ⟨_, _, _, _, h⟩, as.refl c I J, fun q => absurd q (by decide), fun q => absurd q (by decide), fun q => absurd q (by decide), fun q => absurd q (by decide)⟩⟩
theorem ag_6 (hFS : cw_FS (cw_Fc K) (cw_sd K) (cw_sv K)) (hFV : cw_FV K) (h : cu L kd a e va I J) (hs : sx k nl nb I J) (h25 : I 25 0 = nI (c + 1)) (hc : c < 30) : ag K L k c 6 I J := by
  obtain ⟨b0, I1, J1, l0, m0, o0⟩ := al_nam (K := K) hFS hFV (w := 6) (i := 0) (c := c) (t := c * 4 + 1) (by decide) (by decide) (by decide) (by decide) (by decide) h hs h25 hc (by omega)
  rcases o0 with ⟨rfl, hr, hf⟩ | ⟨rfl, d0, hd0, ⟨kd1, a1, e1, va1, hc1⟩, hA1⟩
  · exact ⟨0, I1, J1, fun r F f0 _ => l0 r F f0 (fun q => absurd q (by decide)), eX11_parseArguments_0 ⟨fun q => absurd q (by decide), fun q => absurd q (by decide), fun q => absurd q (by decide), fun q => absurd q (by decide), fun q => absurd q (by decide), fun q => absurd q (by decide), fun _ _ _ _ _ _ => ⟨_, _, m0, Or.inl rfl, rfl, rfl⟩⟩, Or.inl ⟨rfl, hr, hf⟩⟩
  · have e27 : I1 27 = upd (I 27) (c * 3) (nI d0) := by simp only [hA1.1, Nat.add_zero]
    have e10 : J1 10 = upd (J 10) (c * 4 + 1) (nI d0) := by simp only [hA1.2.1]
    exact ⟨1, I1, J1, fun r F _ f1 => l0 r F (fun q => absurd q (by decide)) f1, eX11_parseArguments_0 ⟨fun q => absurd q (by decide), fun q => absurd q (by decide), fun q => absurd q (by decide), fun q => absurd q (by decide), fun q => absurd q (by decide), fun q => absurd q (by decide), fun _ _ _ _ _ _ => ⟨_, _, m0, Or.inr rfl, rfl, rfl⟩⟩, Or.inr ⟨rfl, ⟨_, _, _, _, hc1⟩, hA1.as (by omega) (by omega), fun q => absurd q (by decide), fun q => absurd q (by decide), fun q => absurd q (by decide), fun _ => ⟨d0, hd0, by rw [e27, sp_upd_same], by rw [e10, sp_upd_same]⟩⟩⟩
theorem ag_7 (hFS : cw_FS (cw_Fc K) (cw_sd K) (cw_sv K)) (hFV : cw_FV K) (h : cu L kd a e va I J) (hs : sx k nl nb I J) (h25 : I 25 0 = nI (c + 1)) (hc : c < 30) : ag K L k c 7 I J := by
  obtain ⟨b0, I1, J1, l0, m0, o0⟩ := al_nam (K := K) hFS hFV (w := 7) (i := 0) (c := c) (t := c * 4 + 1) (by decide) (by decide) (by decide) (by decide) (by decide) h hs h25 hc (by omega)
  rcases o0 with ⟨rfl, hr, hf⟩ | ⟨rfl, d0, hd0, ⟨kd1, a1, e1, va1, hc1⟩, hA1⟩
  · exact ⟨0, I1, J1, fun r F f0 _ => l0 r F f0 (fun q => absurd q (by decide)), eX11_parseArguments_0 ⟨fun q => absurd q (by decide), fun q => absurd q (by decide), fun q => absurd q (by decide), fun q => absurd q (by decide), fun q => absurd q (by decide), fun q => absurd q (by decide), fun _ _ _ _ _ _ => ⟨_, _, m0, Or.inl rfl, rfl, rfl⟩⟩, Or.inl ⟨rfl, hr, hf⟩⟩
  · have e27 : I1 27 = upd (I 27) (c * 3) (nI d0) := by simp only [hA1.1, Nat.add_zero]
    have e10 : J1 10 = upd (J 10) (c * 4 + 1) (nI d0) := by simp only [hA1.2.1]
    exact ⟨1, I1, J1, fun r F _ f1 => l0 r F (fun q => absurd q (by decide)) f1, eX11_parseArguments_0 ⟨fun q => absurd q (by decide), fun q => absurd q (by decide), fun q => absurd q (by decide), fun q => absurd q (by decide), fun q => absurd q (by decide), fun q => absurd q (by decide), fun _ _ _ _ _ _ => ⟨_, _, m0, Or.inr rfl, rfl, rfl⟩⟩, Or.inr ⟨rfl, ⟨_, _, _, _, hc1⟩, hA1.as (by omega) (by omega), fun q => absurd q (by decide), fun q => absurd q (by decide), fun q => absurd q (by decide), fun _ => ⟨d0, hd0, by rw [e27, sp_upd_same], by rw [e10, sp_upd_same]⟩⟩⟩
theorem ag_all (hFS : cw_FS (cw_Fc K) (cw_sd K) (cw_sv K)) (hFV : cw_FV K) (h : cu L kd a e va I J) (hs : sx k nl nb I J) (h25 : I 25 0 = nI (c + 1)) (hc : c < 30) : ∀ w, w < 8 → ag K L k c w I J
  | 0, _ => ag_0 hFS hFV h hs h25 hc
  | 1, _ => ag_1 hFS hFV h hs h25 hc
  | 2, _ => ag_2 hFS hFV h hs h25 hc
  | 3, _ => ag_3 hFS hFV h hs h25 hc
  | 4, _ => ag_4 hFS hFV h hs h25 hc
  | 5, _ => ag_5 hFS hFV h hs h25 hc
  | 6, _ => ag_6 hFS hFV h hs h25 hc
  | 7, _ => ag_7 hFS hFV h hs h25 hc
  | w + 8, h => absurd h (by omega)
/-- the outcome of reading a script -/
def rs_o (k : Nat) (I0 J0 : cw_M) (b m : Int32) (I2 J2 : cw_M) : Prop := (b = 0 ∧ m = -1 ∧ sp_RE I2 J2 ∧ fc I0 J0 I2 J2) ∨ (b = 1 ∧ sp_RE I2 J2 ∧ fc I0 J0 I2 J2 ∧ ∃ c, c ≤ 30 ∧ m = nI c ∧ I2 25 0 = nI c ∧ ∀ i, i < c → cm k (I2 26) (I2 27) (J2 10) i)
theorem cw_pat_lt : ∀ w, w < 8 → cw_pat w < 16 := by decide
theorem rc_loop (hFS : cw_FS (cw_Fc K) (cw_sd K) (cw_sv K)) (hFV : cw_FV K) (hFC : cw_FC K) : ∀ (d c : Nat) (I J : cw_M) (kd a e : Nat) (va : Int32), c + d = 30 → cu L kd a e va I J → sx k nl nb I J → fc I0 J0 I J → I 25 0 = nI c → (∀ i, i < c → cm k (I 26) (I 27) (J 10) i) → ∃ b m I2 J2, bX5_readScript_15_25_5_10 K (some (.int b)) I2 (nI c) I ∧ bX11_parseScript_0_2 K (some (.int m)) J2 (nI c) J ∧ rs_o k I0 J0 b m I2 J2 := by
  intro d
  induction d with
  | zero =>
    intro c I J kd a e va hcd hc hs hf h25 hcm
    have e0 : c = 30 := by omega
    subst e0
    have c1 : (30 : Int32) ≤ nI 30 := Int32.le_refl _
    have c2 : ¬ nI 30 < 30 := by decide
    have hI := cu_cI hc (c := 0) (by omega)
    have hJ := cu_cJ hc (c := 0) (by omega)
    by_cases z : kd = 0
    · exact ⟨1, nI 30, I, J, tbX5_readScript_15_25_5_10 (br_t c1 ⟨fun _ => ⟨rfl, rfl⟩, fun q => absurd (hI.mpr z) q⟩), tbX11_parseScript_0_2 ⟨fun _ => ⟨rfl, rfl⟩, fun q => absurd (hJ.mpr z) q⟩, Or.inr ⟨rfl, cu_RE hc, hf, 30, by omega, rfl, h25, hcm⟩⟩
    · rcases kv_verb (K := K) hFS hFV hFC hc with ⟨va1, vb1⟩ | ⟨w, hw, va1, vb1⟩
      · have h2 := kw_RE hc 1
        exact ⟨0, -1, _, _, tbX5_readScript_15_25_5_10 (br_t c1 ⟨fun q => absurd (hI.mp q) z, fun _ => Or.inl ⟨_, va1, _, _, sc_refuse 1, fun _ => ⟨rfl, rfl⟩, fun q => absurd rfl q⟩⟩), tbX11_parseScript_0_2 ⟨fun q => absurd (hJ.mp q) z, fun _ => ⟨_, _, vb1, fun _ => ⟨_, _, sr_wrong 1, fun q => absurd rfl q, fun _ => ⟨rfl, rfl⟩⟩, fun q => absurd rfl q⟩⟩, Or.inl ⟨rfl, rfl, h2.1, hf.trans h2.2.fc⟩⟩
      · have h2 := kw_RE hc 4
        have hw1 : ¬ nI w = -1 := fun y => by
          have z3 : (0 : Int32) ≤ nI w := nI_le (a := 0) (by omega) (by omega)
          rw [y] at z3
          exact absurd z3 (by decide)
        exact ⟨0, -1, _, _, tbX5_readScript_15_25_5_10 (br_t c1 ⟨fun q => absurd (hI.mp q) z, fun _ => Or.inr ⟨_, _, va1, _, _, sc_refuse 4, fun _ => ⟨rfl, rfl⟩, fun q => absurd rfl q⟩⟩), tbX11_parseScript_0_2 ⟨fun q => absurd (hJ.mp q) z, fun _ => ⟨_, _, vb1, fun q => absurd q hw1, fun _ => ⟨fun q => absurd q c2, fun _ => ⟨_, _, sr_wrong 4, fun _ => ⟨rfl, rfl⟩, fun q => absurd rfl q⟩⟩⟩⟩, Or.inl ⟨rfl, rfl, h2.1, hf.trans h2.2.fc⟩⟩
  | succ d ih =>
    intro c I J kd a e va hcd hc hs hf h25 hcm
    have c1 : ¬ (30 : Int32) ≤ nI c := fun q => absurd ((nI_leI (a := 30) (by omega) (by omega)).mp q) (by omega)
    have c2 : nI c < 30 := nI_lt (b := 30) (by omega) (by omega)
    have hI := cu_cI hc (c := 0) (by omega)
    have hJ := cu_cJ hc (c := 0) (by omega)
    by_cases z : kd = 0
    · exact ⟨1, nI c, I, J, tbX5_readScript_15_25_5_10 (br_f c1 ⟨fun q => absurd (hI.mpr z) q, fun _ => ⟨rfl, rfl⟩⟩), tbX11_parseScript_0_2 ⟨fun _ => ⟨rfl, rfl⟩, fun q => absurd (hJ.mpr z) q⟩, Or.inr ⟨rfl, cu_RE hc, hf, c, by omega, rfl, h25, hcm⟩⟩
    · rcases kv_verb (K := K) hFS hFV hFC hc with ⟨va1, vb1⟩ | ⟨w, hw, va1, vb1⟩
      · have h2 := kw_RE hc 1
        exact ⟨0, -1, _, _, tbX5_readScript_15_25_5_10 (br_f c1 ⟨fun _ => ⟨_, _, eX5_readCommand_15_25_5 (Or.inl ⟨_, va1, _, _, sc_refuse 1, Or.inl rfl, rfl, rfl⟩), fun q => absurd rfl q, fun _ => ⟨rfl, rfl⟩⟩, fun q => absurd (hI.mp q) z⟩), tbX11_parseScript_0_2 ⟨fun q => absurd (hJ.mp q) z, fun _ => ⟨_, _, vb1, fun _ => ⟨_, _, sr_wrong 1, fun q => absurd rfl q, fun _ => ⟨rfl, rfl⟩⟩, fun q => absurd rfl q⟩⟩, Or.inl ⟨rfl, rfl, h2.1, hf.trans h2.2.fc⟩⟩
      · have hw1 : ¬ nI w = -1 := fun y => by
          have z3 : (0 : Int32) ≤ nI w := nI_le (a := 0) (by omega) (by omega)
          rw [y] at z3
          exact absurd z3 (by decide)
        have av : cw_C (cc_w K) mX7_addVerb [.ref (cw_a (cc_w K) 25), .ref (cw_vd K w)] I none (cw_st (cw_st I 26 c (nI (w + 1))) 25 0 (nI (c + 1))) := by
          refine eX7_addVerb_25 hFV (br_f (by rw [h25]; exact c1) ⟨⟨hw, by rw [h25]; exact vp_in_nI (by omega) (by omega)⟩, rfl, ?_⟩)
          have e3 : ∀ f, (cw_up I 26 f) 25 0 + 1 = nI (c + 1) := fun f => by
            show I 25 0 + 1 = _
            rw [h25, nI_1]
          rw [e3, h25, nI_clamp (by omega)]
        have hcA : cu L kd a e va (cw_st (cw_st I 26 c (nI (w + 1))) 25 0 (nI (c + 1))) J := hc
        have hfA : fc I J (cw_st (cw_st I 26 c (nI (w + 1))) 25 0 (nI (c + 1))) J := (fc_up I J (o := 26) (by omega) _).trans (fc_up _ _ (o := 25) (by omega) _)
        obtain ⟨kd1, a1, e1, va2, I1, J1, n1, m1, hc1, hk1, _⟩ := kn_next (K := K) hcA
        have hcB : cu L kd1 a1 e1 va2 I1 (cw_st J1 10 (c * 4) (nI w)) := hc1
        have hfB : fc I J I1 (cw_st J1 10 (c * 4) (nI w)) := (hfA.trans hk1.fc).trans (fc_st10 _ _ _)
        have hsB := hs.fc hfB
        have h25B : I1 25 0 = nI (c + 1) := by rw [hk1.1 25 (by omega)]; exact sp_st_at _ 25 0 _
        have h26B : I1 26 = upd (I 26) c (nI (w + 1)) := by rw [hk1.1 26 (by omega)]; rfl
        have h27B : I1 27 = I 27 := by rw [hk1.1 27 (by omega)]; rfl
        have h10B : (cw_st J1 10 (c * 4) (nI w)) 10 = upd (J 10) (c * 4) (nI w) := by
          show upd (J1 10) (c * 4) (nI w) = _
          rw [hk1.2.1 10 (by omega)]
        have hin : vp_in (nI c * 4) 120 := by rw [show nI c * 4 = nI (c * 4) from sp_mul c 4]; exact vp_in_nI (by omega) (by omega)
        have e4 : (nI c * 4).toNatClampNeg = c * 4 := by rw [show nI c * 4 = nI (c * 4) from sp_mul c 4, nI_clamp (by omega)]
        have e5 : nI c * 4 + 1 = nI (c * 4 + 1) := by rw [show nI c * 4 = nI (c * 4) from sp_mul c 4, nI_1]
        obtain ⟨b, I2, J2, l2, m2, o2⟩ := ag_all (K := K) hFS hFV hcB hsB h25B (show c < 30 by omega) w hw
        rw [← e5] at m2
        rcases o2 with ⟨rfl, hr, hf2⟩ | ⟨rfl, ⟨kd2, a2, e2, va3, hc2⟩, hA, hcg⟩
        · have cr : cw_C (cc_w K) mX5_readCommand [.ref (cw_a (cc_w K) 15), .ref (cw_a (cc_w K) 25), .ref (cw_a (cc_w K) 5)] I (some (.int 0)) I2 := eX5_readCommand_15_25_5 (Or.inr ⟨_, _, va1, _, av, _, n1, l2 _ _ (fun _ => ⟨rfl, rfl⟩) (fun q => absurd q (by decide))⟩)
          refine ⟨0, -1, I2, J2, tbX5_readScript_15_25_5_10 (br_f c1 ⟨fun _ => ⟨_, _, cr, fun q => absurd rfl q, fun _ => ⟨rfl, rfl⟩⟩, fun q => absurd (hI.mp q) z⟩), tbX11_parseScript_0_2 ⟨fun q => absurd (hJ.mp q) z, fun _ => ⟨_, _, vb1, fun q => absurd q hw1, fun _ => ⟨fun _ => ⟨_, m1, hin, 0, J2, ?_, fun _ => ⟨rfl, rfl⟩, fun q => absurd rfl q⟩, fun q => absurd c2 q⟩⟩⟩, Or.inl ⟨rfl, rfl, hr, (hf.trans hfB).trans hf2⟩⟩
          rw [e4]; exact m2
        · obtain ⟨b3, I3, J3, n3, m3, o3⟩ := ks_semicolon (K := K) hc2
          have hfin : ∀ x : Int32, cw_C (cc_w K) mX5_takeSemicolon [.ref (cw_a (cc_w K) 15)] I2 (some (.int x)) I3 → (x = 0 ∨ x = 1) → cw_C (cc_w K) mX5_readCommand [.ref (cw_a (cc_w K) 15), .ref (cw_a (cc_w K) 25), .ref (cw_a (cc_w K) 5)] I (some (.int x)) I3 := fun x hx hx2 => eX5_readCommand_15_25_5 (Or.inr ⟨_, _, va1, _, av, _, n1, l2 _ _ (fun q => absurd q (by decide)) (fun _ => tbX5_readCommand_15_25_5_27 hFS hFV ⟨hw, cw_pat_lt w hw, br_t (Int32.le_refl _) ⟨_, _, hx, hx2, rfl, rfl⟩⟩)⟩)
          rcases o3 with ⟨rfl, hr, hk3⟩ | ⟨rfl, ⟨kd3, a3, e3, va4, hc3⟩, hk3⟩
          · refine ⟨0, -1, I3, J3, tbX5_readScript_15_25_5_10 (br_f c1 ⟨fun _ => ⟨_, _, hfin 0 n3 (Or.inl rfl), fun q => absurd rfl q, fun _ => ⟨rfl, rfl⟩⟩, fun q => absurd (hI.mp q) z⟩), tbX11_parseScript_0_2 ⟨fun q => absurd (hJ.mp q) z, fun _ => ⟨_, _, vb1, fun q => absurd q hw1, fun _ => ⟨fun _ => ⟨_, m1, hin, 1, J2, ?_, fun q => absurd q (by decide), fun _ => ⟨_, _, m3, fun q => absurd rfl q, fun _ => ⟨rfl, rfl⟩⟩⟩, fun q => absurd c2 q⟩⟩⟩, Or.inl ⟨rfl, rfl, hr, ((hf.trans hfB).trans hA.2.2.2.2).trans hk3.fc⟩⟩
            rw [e4]; exact m2
          · have e25 : I3 25 0 = nI (c + 1) := by rw [hk3.1 25 (by omega), hA.1]; exact h25B
            have e26 : I3 26 = upd (I 26) c (nI (w + 1)) := by rw [hk3.1 26 (by omega), hA.2.1, h26B]
            have e27 : ∀ p, ¬ (c * 3 ≤ p ∧ p < c * 3 + 3) → I3 27 p = I 27 p := fun p hp => by rw [hk3.1 27 (by omega), hA.2.2.1 p hp, h27B]
            have e10 : ∀ p, ¬ (c * 4 ≤ p ∧ p < c * 4 + 4) → J3 10 p = J 10 p := fun p hp => by rw [hk3.2.1 10 (by omega), hA.2.2.2.1 p (by omega), h10B, sp_upd_ne _ _ (by omega)]
            have hcm3 : ∀ i, i < c + 1 → cm k (I3 26) (I3 27) (J3 10) i := fun i hi => by
              by_cases y : i = c
              · subst y
                refine ⟨w, hw, by rw [e26, sp_upd_same], ?_, ?_⟩
                · rw [hk3.2.1 10 (by omega), hA.2.2.2.1 _ (by omega), h10B, sp_upd_same]
                · rw [hk3.1 27 (by omega), hk3.2.1 10 (by omega)]; exact hcg
              · obtain ⟨w2, hw2, q1, q2, q3⟩ := hcm i (by omega)
                exact ⟨w2, hw2, by rw [e26, sp_upd_ne _ _ y]; exact q1, by rw [e10 _ (by omega)]; exact q2, q3.mv (fun j hj => e27 _ (by omega)) (fun j hj => e10 _ (by omega))⟩
            obtain ⟨b5, m5, I5, J5, r5, s5, o5⟩ := ih (c + 1) I3 J3 _ _ _ _ (by omega) hc3 ((hsB.fc hA.2.2.2.2).fc hk3.fc) (((hf.trans hfB).trans hA.2.2.2.2).trans hk3.fc) e25 hcm3
            refine ⟨b5, m5, I5, J5, tbX5_readScript_15_25_5_10 (br_f c1 ⟨fun _ => ⟨_, _, hfin 1 n3 (Or.inr rfl), fun _ => ?_, fun q => absurd q (by decide)⟩, fun q => absurd (hI.mp q) z⟩), tbX11_parseScript_0_2 ⟨fun q => absurd (hJ.mp q) z, fun _ => ⟨_, _, vb1, fun q => absurd q hw1, fun _ => ⟨fun _ => ⟨_, m1, hin, 1, J2, ?_, fun q => absurd q (by decide), fun _ => ⟨_, _, m3, fun _ => ?_, fun q => absurd q (by decide)⟩⟩, fun q => absurd c2 q⟩⟩⟩, o5⟩
            · rw [nI_1]; exact r5
            · rw [e4]; exact m2
            · rw [nI_1]; exact s5
theorem rd_script (hFS : cw_FS (cw_Fc K) (cw_sd K) (cw_sv K)) (hFV : cw_FV K) (hFC : cw_FC K) (hT : sp_TL L I J) (hs : sx k nl nb I J) : ∃ b m I2 J1 J2, cw_C (cc_w K) mX5_readScript [.ref (cw_a (cc_w K) 15), .ref (cw_a (cc_w K) 25), .ref (cw_a (cc_w K) 5)] I (some (.int b)) I2 ∧ cw_C (cr_w K) mX11_begin [.ref (cw_a (cr_w K) 0)] J none J1 ∧ cw_C (cr_w K) mX11_parseScript [.ref (cw_a (cr_w K) 0)] J1 (some (.int m)) J2 ∧ rs_o k I J b m I2 J2 := by
  have hTb : sp_TL L (cw_st (cw_st (cw_st I 15 0 0) 15 1 (-1)) 15 4 0) (cw_st (cw_st (cw_st J 0 5 0) 0 6 (-1)) 0 15 0) := hT
  obtain ⟨kd, a, e, va, _, hf, ta, tb⟩ := tk_next (K := K) hTb (e0 := 0) (by omega) rfl rfl
  have hc1 : cu L kd a e va (tp_KI (cw_st (cw_st (cw_st I 15 0 0) 15 1 (-1)) 15 4 0) (nI kd) (nI a) (nI e)) (tp_KJ (cw_st (cw_st (cw_st J 0 5 0) 0 6 (-1)) 0 15 0) (nI e) (tp_ty kd) (nI a) va) := ⟨hT, hf, rfl, rfl, rfl, rfl, rfl, rfl, rfl, rfl, rfl⟩
  have hf1 : fc I J (tp_KI (cw_st (cw_st (cw_st I 15 0 0) 15 1 (-1)) 15 4 0) (nI kd) (nI a) (nI e)) (tp_KJ (cw_st (cw_st (cw_st J 0 5 0) 0 6 (-1)) 0 15 0) (nI e) (tp_ty kd) (nI a) va) := by
    refine ⟨fun o ho _ _ _ => by simp [cw_st, cw_up, ho], fun o ho _ => by simp [cw_st, cw_up, ho], fun p hp h5 h6 => ?_⟩
    show tp_g (upd (upd (upd (J 0) 5 0) 6 (-1)) 15 0) (nI e) (tp_ty kd) (nI a) va p = J 0 p
    unfold tp_g
    rw [if_neg (by omega), if_neg (by omega), if_neg (by omega), if_neg (by omega), sp_upd_ne _ _ (by omega), sp_upd_ne _ _ h6, sp_upd_ne _ _ h5]
  have ba : cw_C (cc_w K) mX5_begin [.ref (cw_a (cc_w K) 15)] I none (tp_KI (cw_st (cw_st (cw_st I 15 0 0) 15 1 (-1)) 15 4 0) (nI kd) (nI a) (nI e)) := eX5_begin_15 ⟨_, ta, rfl, rfl⟩
  have bb : cw_C (cr_w K) mX11_begin [.ref (cw_a (cr_w K) 0)] J none (tp_KJ (cw_st (cw_st (cw_st J 0 5 0) 0 6 (-1)) 0 15 0) (nI e) (tp_ty kd) (nI a) va) := eX11_begin_0 ⟨_, tb, rfl, rfl⟩
  revert ba bb hc1 hf1
  generalize tp_KI (cw_st (cw_st (cw_st I 15 0 0) 15 1 (-1)) 15 4 0) (nI kd) (nI a) (nI e) = I1
  generalize tp_KJ (cw_st (cw_st (cw_st J 0 5 0) 0 6 (-1)) 0 15 0) (nI e) (tp_ty kd) (nI a) va = J1
  intro hc1 hf1 ba bb
  have hc2 : cu L kd a e va (cw_st I1 25 0 0) J1 := hc1
  have hf2 : fc I J (cw_st I1 25 0 0) J1 := hf1.trans (fc_up _ _ (o := 25) (by omega) _)
  obtain ⟨b, m, I2, J2, r1, s1, o1⟩ := rc_loop (K := K) hFS hFV hFC 30 0 _ _ _ _ _ _ (by omega) hc2 (hs.fc hf2) hf2 rfl (fun i hi => absurd hi (by omega))
  exact ⟨b, m, I2, J1, J2, eX5_readScript_15_25_5 ⟨_, ba, _, eX7_clear_25 ⟨rfl, rfl⟩, r1⟩, bb, eX11_parseScript_0 s1, o1⟩
end SCR2
