/-! ## the law, out of the facts at its entry and the first setup's reading -/
theorem bg_N {l : Launch} {D : va_G} {cy : Nat → ClassId} {S : Nat} {vd sd sv : Nat → Nat} {F : cw_F} : la_N (kn_K l D cy S vd sd sv F) (S + 43) (S + 44) := by
  refine ⟨fun k hk => ⟨?_, ?_, fun j hj => ?_⟩, fun j hj => ⟨?_, ?_⟩, by omega⟩
  · show S + k ≠ S + 43
    omega
  · show S + k ≠ S + 44
    omega
  · show S + k ≠ S + (j + 32)
    omega
  · show S + (j + 32) ≠ S + 43
    omega
  · show S + (j + 32) ≠ S + 44
    omega
theorem bg_all {p : Program} {l : Launch} {e : Env} {s : State} {m : MethodId} {below : List Frame} {meth : Method} {c : Code} {ls : Array Slot} {b L : Nat} {xs : Nat → Int32} {D : va_G} {cy : Nat → ClassId} {vd sd sv : Nat → Nat} {F : cw_F} {cl cd : ClassId} {I1 I9 J1 J2 : cw_M} {r1 r2 : Int32} {N : Nat}
    (hX : CallFix p m c cL_law 10 s #[.ref b] lw_tbl RL) (hret : meth.sig.returnType = ret) (hlocks : meth.locks = false) (hXs : va_X b L xs s s.heap) (hb : b < s.heap.size) (hL : L ≤ 3072) (hck : ck s) (hFa : la_F (kn_K l D cy s.heap.size vd sd sv F))
    (hK : va_K D vwCl (cw_ty cy) s) (hKl : va_K D vwCl [(cl, .long)] s) (hKd : va_K D vwCl [(cd, .double)] s) (hO : va_AO RX9 s) (hNn : kn_N s) (hF : F (la_A s) s s.heap) (hFok : cw_Fok F) (hF2 : kn_F2 (kn_K l D cy s.heap.size vd sd sv F)) (hN : (cw_tx 15).length = N) (hT : N < 600)
    (h1 : cw_C (cc_w (kn_K l D cy s.heap.size vd sd sv F)) mX8_addLetters [.ref (cw_a (cc_w (kn_K l D cy s.heap.size vd sd sv F)) 1), .ref (sd 15)] kn_I0 none I1)
    (h2 : cw_C (cc_w (kn_K l D cy s.heap.size vd sd sv F)) mX10_adoptSetup [.ref (cw_a (cc_w (kn_K l D cy s.heap.size vd sd sv F)) 0)] I1 (some (.int r1)) I9)
    (g1 : cw_C (cr_w (kn_K l D cy s.heap.size vd sd sv F)) mX11_begin [.ref (cw_a (cr_w (kn_K l D cy s.heap.size vd sd sv F)) 0)] (cw_st (kn_M N kn_J0) 0 4 (nI N)) none J1)
    (g2 : cw_C (cr_w (kn_K l D cy s.heap.size vd sd sv F)) mX11_parseSetup [.ref (cw_a (cr_w (kn_K l D cy s.heap.size vd sd sv F)) 0)] J1 (some (.int r2)) J2)
    (hR : sp_Rel I9 (cw_st J2 0 4 0)) (hl : lv_has ls 10 [(0, .ref b)]) : W p l e room_1 s m #[.ref b] below meth c s.heap [] 0 0 (lw_Z below #[.ref b] s) (F0 m 0 ls []) := by
  have hX9 : la_X (kn_K l D cy s.heap.size vd sd sv F) p s m meth c b L xs (s.heap.size + 43) (s.heap.size + 44) cl cd := ⟨hX, hret, hlocks, ⟨hXs, hb⟩,
    ⟨hK, fun i j _ _ h => Nat.add_left_cancel h, hF, hFok, fun k _ => Nat.le_add_right _ k, fun q h => h⟩,
    ⟨hK, fun i j _ _ h => by
      have h : s.heap.size + (i + 32) = s.heap.size + (j + 32) := h
      omega, hF, hFok, fun k _ => Nat.le_add_right _ (k + 32), fun q h => h⟩, hKl, hKd, bg_N, ⟨Nat.le_add_right _ _, Nat.le_add_right _ _⟩, hck⟩
  exact bg_law hX hK hKl hKd hO hNn hF hFok hF2 hFa.2.2.1 hN hT h1 h2 g1 g2 hR hl (la_loop hX9 hFa hL 513 0 45 9603 (by omega) (by omega) (by omega) (by omega))
