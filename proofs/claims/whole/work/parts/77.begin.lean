/-! ## the law's two objects -/
theorem bg_in10 : ∀ x ∈ u_ws RX10 TX10 10, x ∈ lw_tbl := fun x hx => (gT_X10_init x ((by decide +kernel : ∀ x ∈ u_ws RX10 TX10 10, x ∈ wsX10_init) x hx)).1
theorem bg_in11 : ∀ x ∈ u_ws RX11 TX11 20, x ∈ lw_tbl := fun x hx => (gT_X11_init x (inX11_init_RX11 x hx)).1
section BG
variable {p : Program} {l : Launch} {e : Env} {R : Room} {s : State} {m : MethodId} {args : Array Value} {below : List Frame} {meth : Method} {c : Code} {H : Heap} {locs : List Loc} {cells slots pc : Nat} {Q : State → Prop} {ls : Array Slot} {stk st : List Value} {w : cw_G}
/-- behind a constructor -/
theorem bg_join {a sz2 mc2 ms2 : Nat} {I9 : cw_M} {as : Array Value} (hrun : va_Run p l e R s m args below meth c H locs cells slots mc2 ms2 (F0 m pc ls stk) st (kx_Q w a sz2 I9 as) (fun q => a ≤ q)) (hS : va_S (la_A s) s.heap H locs) (ha : s.heap.size ≤ a) (haH : a ≤ H.size)
    (kk : ∀ (H1 : Heap) (locs1 : List Loc), va_P (cw_d w) vwCl (cw_W w I9) H1 → H1.size = sz2 → (∀ q, q < a → H1[q]? = H[q]?) → va_S (la_A s) s.heap H1 locs1 → W p l e R s m args below meth c H1 locs1 (cells + mc2) (slots + ms2) Q (F0 m (pc + 3) ls st)) : W p l e R s m args below meth c H locs cells slots Q (F0 m pc ls stk) := by
  intro T0 hT X0
  obtain ⟨v, st₀, t, T', L1, h0, X', hL, e1, e2, ⟨hv9, ⟨hP1, hz1⟩, hz2, hk2⟩, stp⟩ := hrun T0 hT X0
  cases hv9
  rw [h0] at hz2 hk2
  obtain ⟨t2, a1, b1⟩ := kk T'.heap (locs ++ L1) (by rw [e1]; exact hP1) (by rw [e1]; exact hz1) (fun q hq => by rw [e1]; exact hk2 q (Nat.lt_of_lt_of_le hq haH) (by omega)) ⟨Nat.le_trans hS.1 (by rw [e1]; exact hz2), fun x h1 h2 => by rw [e1, hk2 x (Nat.lt_of_lt_of_le h1 hS.1) (fun z => h2 (Nat.le_trans ha z))]; exact hS.2.1 x h1 h2, fun x hx => by
      rcases List.mem_append.mp hx with h | h
      · exact hS.2.2 x h
      · exact Nat.le_trans ha (hL x h)⟩ T' rfl X'
  exact ⟨t2, stp t2 a1, b1⟩
end BG
