/-! ## executing a script, both sides -/
section EXE
variable {K : cw_K} {I J : cw_M} {n k u q c p t : Nat} {nl : Nat → Nat} {nb : Nat → Nat → Int32} {f26 f27 g : Nat → Int32}
theorem fc.P {I0 J0 : cw_M} {v : Nat → Nat → Nat} {ow : Nat → Int32} (hf : fc I0 J0 I J) (hr : sp_RE I J) (h : sp_P n k v ow nl nb u q I0 J0) : sp_P n k v ow nl nb u q (cw_st I 1 1 0) (cw_st J 0 4 0) := by
  obtain ⟨hc, hu, ht, ⟨W, w1, w2, w3, w4⟩, he⟩ := h
  have hc2 := hc.rI (I2 := cw_st I 1 1 0) (fun o h5 h9 => by simp only [cw_st, cw_up]; rw [if_neg (by omega)]; exact hf.1 o (by omega) (by omega) (by omega) (by omega))
  have hu2 := hu.rI (I2 := cw_st I 1 1 0) (fun o h5 => by simp only [cw_st, cw_up]; rw [if_neg (by omega)]; exact hf.1 o (by omega) (by omega) (by omega) (by omega))
  have e1 : (cw_st J 0 4 0) 1 = J0 1 := hf.2.1 1 (by omega) (by omega)
  have e2 : (cw_st J 0 4 0) 2 = J0 2 := hf.2.1 2 (by omega) (by omega)
  have e3 : (cw_st J 0 4 0) 0 2 = J0 0 2 := hf.2.2 2 (by omega) (by omega) (by omega)
  refine ⟨by rw [e1]; exact hc2, by rw [e1, e2, e3]; exact hu2, ⟨0, by omega, rfl, rfl, fun j hj => absurd hj (by omega)⟩, ⟨W, w1, ?_, ?_, fun j hj => ?_⟩, hr⟩
  · exact (congrFun (hf.1 3 (by omega) (by omega) (by omega) (by omega)) 1).trans w2
  · exact (hf.2.2 8 (by omega) (by omega) (by omega)).trans w3
  · show I 4 j = J 4 j
    rw [hf.1 4 (by omega) (by omega) (by omega) (by omega), hf.2.1 4 (by omega) (by omega)]; exact w4 j hj
end EXE
