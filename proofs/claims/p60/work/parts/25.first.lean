/-! ## the best first, and what does not hang on the old owners -/
theorem sp_own_congr {v : Nat → Nat → Nat} {s n : Nat} {o : Int32} {f g : Nat → Int32} (h : ∀ c, c < n → f c = g c) : sp_own v f s o n = sp_own v g s o n := sp_s_congr fun j hj => by
  unfold sp_o
  rw [h j hj]
theorem sp_fv_congr {x : Nat → Nat} {f g : Nat → Int32} : ∀ {n : Nat}, (∀ c, c < n → f c = g c) → sp_fv x f n = sp_fv x g n
  | 0, _ => rfl
  | n + 1, h => by
    unfold sp_fv
    rw [sp_fv_congr (fun c hc => h c (by omega)), h n (by omega)]
theorem sp_rb_congr {v : Nat → Nat → Nat} {n k : Nat} : ∀ (d : Nat) (f g : Nat → Int32) (t m : Nat), (∀ c, c < n → f c = g c) → (sp_rb v n k d f t m).2 = (sp_rb v n k d g t m).2 ∧ ∀ c, c < n → (sp_rb v n k d f t m).1 c = (sp_rb v n k d g t m).1 c
  | 0, f, g, t, m, h => ⟨rfl, h⟩
  | d + 1, f, g, t, m, h => by
    have e := sp_fv_congr (x := v t) h
    unfold sp_rb
    rw [e]
    cases sp_fv (v t) g n with
    | none => exact ⟨rfl, h⟩
    | some c =>
      refine sp_rb_congr d _ _ _ _ fun j hj => ?_
      unfold upd
      by_cases z : j = c
      · rw [if_pos z, if_pos z]
      · rw [if_neg z, if_neg z]
        exact h j hj
theorem sp_tr_congr {v : Nat → Nat → Nat} {n k t : Nat} (f g : Nat → Int32) : ∀ c, c < n → sp_tr v n k t f c = sp_tr v n k t g c := (sp_rb_congr n _ _ t 0 fun c hc => by
  unfold sp_put
  rw [if_pos ⟨Nat.zero_le c, hc⟩, if_pos ⟨Nat.zero_le c, hc⟩]).2
theorem sp_kn_congr {v : Nat → Nat → Nat} {n k : Nat} (hk : k < 7) : ∀ (w S a : Nat) (f g : Nat → Int32), S < 64 → sp_wt k S = w → (1 ≤ w ∨ n ≤ a) → (∀ c, c < a → c < n → f c = g c) → ∀ c, c < n → sp_kn v n k w S a f c = sp_kn v n k w S a g c
  | 0, S, a, f, g, _, _, h, hfg, c, hc => hfg c (by omega) hc
  | w + 1, S, a, f, g, hS, hw, h, hfg, c, hc => by
    by_cases ha : n ≤ a
    · rw [sp_kn_end ha, sp_kn_end ha]
      exact hfg c (by omega) hc
    · obtain ⟨t, ht⟩ := sp_fc_some (S := S) (g := sp_g v n a (w + 1)) (i := k) (by omega)
      obtain ⟨t1, t2⟩ := sp_fc_lt ht
      have e : ∀ f, sp_kn v n k (w + 1) S a f = sp_kn v n k w (S ||| 2 ^ t) (sp_g v n a (w + 1) t + 1) (sp_put f (nI t) a (sp_g v n a (w + 1) t + 1)) := fun f => by
        show (if n ≤ a then f else match sp_fc S (sp_g v n a (w + 1)) k with | none => f | some t => _) = _
        rw [if_neg ha, ht]
      rw [e f, e g]
      have h1 := sp_wt_set k hk S hS t t1 t2
      have h2 := (sp_set6 S hS t (by omega)).2.1
      refine sp_kn_congr hk w _ _ _ _ h2 (by omega) ?_ (fun j hj hj2 => ?_) c hc
      · by_cases z : 1 ≤ w
        · exact Or.inl z
        · refine Or.inr ?_
          have : w = 0 := by omega
          subst this
          show n ≤ (if 0 + 1 = 1 then n - 1 else _) + 1
          rw [if_pos rfl]
          omega
      · unfold sp_put
        by_cases z : a ≤ j ∧ j < sp_g v n a (w + 1) t + 1
        · rw [if_pos z, if_pos z]
        · rw [if_neg z, if_neg z]
          exact hfg j (by omega) hj2
section FIRC
variable {K : cw_K} {I : cw_M} {n k : Nat} {v : Nat → Nat → Nat}
end FIRC
theorem sp_rv.cb {J : cw_M} {n k : Nat} {v : Nat → Nat → Nat} (h : sp_rv n k v J) {a b : Nat} (hb : 1 ≤ b) : sp_rv n k v (cw_up J 1 (sp_cb (J 1) a b)) := by
  obtain ⟨h1, h2, h3, h4, h5, h6⟩ := h
  have e : ∀ j, j < 212 → (cw_up J 1 (sp_cb (J 1) a b)) 1 j = J 1 j := fun j hj => by
    show sp_cbp (J 1) a b 212 j = _
    unfold sp_cbp
    rw [if_neg (by omega)]
  exact ⟨by rw [e 0 (by omega)]; exact h1, by rw [e 1 (by omega)]; exact h2, h3, h4, h5, fun s c hs hc => by rw [e _ (by omega)]; exact h6 s c hs hc⟩
section FIRR
variable {K : cw_K} {J : cw_M} {n k : Nat} {v : Nat → Nat → Nat}
end FIRR
