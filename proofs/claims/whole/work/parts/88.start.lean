/-! ## the law from its entry -/
set_option maxHeartbeats 4000000 in
/-- from the entry, for every script of at most 3072 ints, the law comes to its end with true -/
theorem whole_start {p : Program} {e : Env} {s : State} {m : MethodId} {below : List Frame} {meth : Method} {c : Code} (l : Launch) (hflags : l.flags = flags0) {b L : Nat} {xs : Nat → Int32} (hL : L ≤ 3072) (C0 : lw_At p s m meth c b L xs) : W p l e room_1 s m #[Value.ref b] below meth c s.heap [] 0 0 (lw_Z below #[Value.ref b] s) (entryFrame m ([Value.ref b] : List Value).toArray 10) := by
  obtain ⟨hx, hb, hr, hml, hown, hts, hX, hbl, hlocks, hgv⟩ := id C0
  have hn := nr_of hgv
  have hlf : l.stackTraces = false := by
    unfold Launch.stackTraces
    rw [hflags]
    decide +kernel
  obtain ⟨D, cy, cl, cd, hK, hKl, hKd⟩ := zu_all hts
  obtain ⟨vd, sd, sv, hF⟩ := zf_start (A := la_A s) hts hn (fun a ha => Nat.not_le.mpr ha)
  obtain ⟨I9, J1, J2, h2, g1, g2, hR⟩ := zt_start (K := kn_K l D cy s.heap.size vd sd sv (zf_F vd sd sv)) zf_FS zf_FC (N := (cw_tx 15).length) zt_len
  have hl := lv_entry ([.ref b] : List Value) (n := 10) (Nat.le_of_ble_eq_true rfl)
  rw [lg_entry_eq]
  generalize (lg_sl ([.ref b] : List Value) ++ List.replicate (10 - (lg_sl ([.ref b] : List Value)).length) Slot.unset).toArray = ls at hl ⊢
  have hl : lv_has ls 10 [(0, .ref b)] := hl
  exact bg_all ⟨hx, hb, hml, hown, hts⟩ hr hlocks hX hbl hL (zf_ck hts hn) (zf_la hlf) hK hKl hKd (zu_O hts) (zu_N hts) hF (zf_ok vd sd sv) zf_F2 rfl (by rw [zt_len]; decide) (kn_letters zf_FS rfl) h2 g1 g2 hR hl
