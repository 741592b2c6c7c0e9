/-- where the model's constructor may be called: this stands at S + 32, last -/
def kx_InR (K : cw_K) (S : Nat) (fs : List Value) (U : State) : Prop := kn_I (cw_d (cr_w K)) K.2.2.1 (S + 33) [(S + 32, .inr (9, fs))] U ∧ cw_Fc K (fun q => S + 32 ≤ q) U U.heap
theorem kx_R {l : Launch} {D : va_G} {cy : Nat → ClassId} {S : Nat} {vd sd sv : Nat → Nat} {F : cw_F} {J1 J2 : cw_M} {b : Int32} {N : Nat} (hFok : cw_Fok F) (hF2 : kn_F2 (kn_K l D cy S vd sd sv F)) (hN : (cw_tx 15).length = N) (hT : N < 600) (hFS : cw_FS F sd sv)
    (h1 : cw_C (cr_w (kn_K l D cy S vd sd sv F)) mX11_begin [.ref (cw_a (cr_w (kn_K l D cy S vd sd sv F)) 0)] (cw_st (kn_M N kn_J0) 0 4 (nI N)) none J1)
    (h2 : cw_C (cr_w (kn_K l D cy S vd sd sv F)) mX11_parseSetup [.ref (cw_a (cr_w (kn_K l D cy S vd sd sv F)) 0)] J1 (some (.int b)) J2) :
    Met l yX11_init wsX11_init (cw_R mX11_init 10 4706) (va_Pc [.ref (S + 32)] (kx_InR (kn_K l D cy S vd sd sv F) S [.null, .null, .int 0, .null, .int 0, .int 0, .int 0, .null, .int 0, .int 0, .null, .null, .null, .null, .null, .int 0, .int 0, .int 0, .int 0, .null])) (kx_Q (cr_w (kn_K l D cy S vd sd sv F)) (S + 32) (S + 43) (cw_st J2 0 4 0)) 10 4706 (fun q => S + 32 ≤ q) := by
  refine Met.ofW (cc := cX11_init) (maxL := 3) (ret := none) (by decide +kernel) rfl ?_
  intro p e s m args below meth c s₁ B hml hv
  obtain ⟨rfl, ⟨hsz, hP, hK, hD0, hO⟩, hF⟩ := hv
  have hts := atoms_spec (ws := wsX11_init) B.pre
  have hown : s.vm.findClass RX11 = some m.cls := findClass_of_methodNamed B.named
  have hin : meth.name = "<init>" := (name_of_methodNamed B.named B.method).1
  have hlocks := B.notSynchronized
  have hr := B.returns
  have SS : CallFix p m c cX11_init 3 s #[.ref (S + 32)] wsX11_init RX11 := ⟨B.exec, B.bytes, hml, hown, hts⟩
  have hl := lv_entry ([.ref (S + 32)] : List Value) (n := 3) (Nat.le_of_ble_eq_true rfl)
  rw [lg_entry_eq]
  generalize (lg_sl ([.ref (S + 32)] : List Value) ++ List.replicate (3 - (lg_sl ([.ref (S + 32)] : List Value)).length) Slot.unset).toArray = ls at hl ⊢
  have hl : lv_has ls 3 [(0, .ref (S + 32))] := hl
  refine kn_buildR (o := S + 32) (sz := S + 33) (cy := cy) (D := D) SS hin hsz (fun q h => Or.inr (by rw [← hsz]; exact h)) hP hK (hD0.self (sz := S + 33)) hl (fun H locs hP hD hS hz => ?_)
  have hA0 : ∀ q, va_A [(S + 32, .inr (9, [.null, .null, .int 0, .null, .int 0, .int 0, .int 0, .null, .int 0, .int 0, .null, .null, .null, .null, .null, .int 0, .int 0, .int 0, .int 0, .null]))] (S + 33) q → S + 32 ≤ q := fun q hq => by
    rcases hq with ⟨k, e9, hk⟩ | hq
    · cases k with
      | zero =>
        cases hk
        exact Nat.le_refl _
      | succ k => simp at hk
    · omega
  have hS : va_S (fun q => S + 32 ≤ q) s.heap H locs := ⟨hS.1, fun q h1 h2 => hS.2.1 q h1 (fun h => h2 (hA0 q h)), fun x hx => hA0 _ (hS.2.2 x hx)⟩
  have hP : va_P D vwCl (cw_W (cr_w (kn_K l D cy S vd sd sv F)) kn_J0) H := hP
  have hwk : wk (cr_w (kn_K l D cy S vd sd sv F)) (fun q => S + 32 ≤ q) s := ⟨hK, fun i j _ _ h => by
    have h : S + (i + 32) = S + (j + 32) := h
    omega, hF, hFok, fun k _ => by
    show S + 32 ≤ S + (k + 32)
    omega, fun q h => by omega⟩
  refine kn_tailW (K := kn_K l D cy S vd sd sv F) hN hT hFS hF2 h1 h2 SS hwk hP hS hl (fun H1 locs1 ls1 hP1 hS1 => ?_)
  have hlo : S + 42 < H1.size := wk_lt hP1 (k := 10) (show 10 < 11 by decide)
  refine kn_size (by omega) (fun z => ?_)
  exact W.vret SS.1 SS.2.1 hr (fun t ht hW => ⟨rfl, ⟨by rw [ht]; exact hP1, by rw [ht]; omega⟩, hS1.F ht⟩) hS1.2.2 dX11_init_189
