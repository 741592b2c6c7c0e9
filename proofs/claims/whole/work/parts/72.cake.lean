/-! ## CakeDivision(), whole -/
def kn_tx : String := "cake 8;sibling ann 1 2 3 4 4 3 2 1;sibling bob 9 0 0 0 0 0 0 9;sibling cid 1 1 1 1 1 1 1 1;"
def kn_F2 (K : cw_K) : Prop := ∀ (A : Nat → Prop) (U : State) (H : Heap), cw_Fc K A U H → vk_R RX10 77 kn_tx (cw_sd K 15) U ∧ vk_R RX11 72 kn_tx (cw_sd K 15) U
/-- where a constructor's world may be called: this stands at S, last -/
def kx_In (K : cw_K) (S ci : Nat) (fs : List Value) (U : State) : Prop := kn_I (cw_d (cc_w K)) K.2.2.1 (S + 1) [(S, .inr (ci, fs))] U ∧ kn_N U ∧ cw_Fc K (fun q => S ≤ q) U U.heap
def kx_Q (w : cw_G) (S sz2 : Nat) (I9 : cw_M) : Array Value → State → Outcome → State → Prop := fun _ st oc t => oc = .returned none ∧ (va_P (cw_d w) vwCl (cw_W w I9) t.heap ∧ t.heap.size = sz2) ∧ va_F (fun q => S ≤ q) st t
theorem kx_C {l : Launch} {D : va_G} {cy : Nat → ClassId} {S : Nat} {vd sd sv : Nat → Nat} {F : cw_F} {I1 I9 : cw_M} {b : Int32} (hFok : cw_Fok F) (hF2 : kn_F2 (kn_K l D cy S vd sd sv F))
    (h1 : cw_C (cc_w (kn_K l D cy S vd sd sv F)) mX8_addLetters [.ref (cw_a (cc_w (kn_K l D cy S vd sd sv F)) 1), .ref (sd 15)] kn_I0 none I1)
    (h2 : cw_C (cc_w (kn_K l D cy S vd sd sv F)) mX10_adoptSetup [.ref (cw_a (cc_w (kn_K l D cy S vd sd sv F)) 0)] I1 (some (.int b)) I9) :
    Met l yX10_init wsX10_init (cw_R mX10_init 31 4865) (va_Pc [.ref S] (kx_In (kn_K l D cy S vd sd sv F) S 8 [.null, .null, .null, .null, .null, .null, .null, .null, .null, .null])) (kx_Q (cc_w (kn_K l D cy S vd sd sv F)) S (S + 32) I9) 31 4865 (fun q => S ≤ q) := by
  refine Met.ofW (cc := cX10_init) (maxL := 1) (ret := none) (by decide +kernel) rfl ?_
  intro p e s m args below meth c s₁ B hml hv
  obtain ⟨rfl, ⟨hsz, hP, hK, hD0, hO⟩, hN, hF⟩ := hv
  have hts := atoms_spec (ws := wsX10_init) B.pre
  have hown : s.vm.findClass RX10 = some m.cls := findClass_of_methodNamed B.named
  have hin : meth.name = "<init>" := (name_of_methodNamed B.named B.method).1
  have hlocks := B.notSynchronized
  have hr := B.returns
  have SS : CallFix p m c cX10_init 1 s #[.ref S] wsX10_init RX10 := ⟨B.exec, B.bytes, hml, hown, hts⟩
  have hl := lv_entry ([.ref S] : List Value) (n := 1) (Nat.le_of_ble_eq_true rfl)
  rw [lg_entry_eq]
  generalize (lg_sl ([.ref S] : List Value) ++ List.replicate (1 - (lg_sl ([.ref S] : List Value)).length) Slot.unset).toArray = ls at hl ⊢
  have hl : lv_has ls 1 [(0, .ref S)] := hl
  refine kn_build (o := S) (sz := S + 1) (cy := cy) (D := D) SS hin hsz (fun q h => Or.inr (by rw [← hsz]; exact h)) hP hK (hD0.self (sz := S + 1)) hO hN hl (fun H locs hP hD hS hz => ?_)
  have hA0 : ∀ q, va_A [(S, .inr (8, [.null, .null, .null, .null, .null, .null, .null, .null, .null, .null]))] (S + 1) q → S ≤ q := fun q hq => by
    rcases hq with ⟨k, e9, hk⟩ | hq
    · cases k with
      | zero =>
        cases hk
        exact Nat.le_refl _
      | succ k => simp at hk
    · omega
  have hS : va_S (fun q => S ≤ q) s.heap H locs := ⟨hS.1, fun q h1 h2 => hS.2.1 q h1 (fun h => h2 (hA0 q h)), fun x hx => hA0 _ (hS.2.2 x hx)⟩
  have hwk : wk (cc_w (kn_K l D cy S vd sd sv F)) (fun q => S ≤ q) s := ⟨hK, fun i j _ _ h => Nat.add_left_cancel h, hF, hFok, fun k _ => Nat.le_add_right S k, fun q h => by rw [hsz] at h; exact Nat.le_of_succ_le h⟩
  refine lv_aload_n SS.1 SS.2.1 dX10_init_142 rfl (lv_at hl 0 rfl) ?_
  refine va_get (D := D) (ci := 8) (v := .ref (S + 1)) (C := RX10) (T := TX10) (N := 10) SS.1 SS.2.1 SS.2.2.2.2 (by decide +kernel) SS.2.2.2.1 hK hP 0 rfl rfl 0 (by decide) (SS.2.2.2.2 (.fieldLink RX10 10 "CakeDivision" "input" "LCakeDivision$Text;") (by decide +kernel)) (fun _ h9 => h9) rfl dX10_init_143 ?_
  refine va_ldcS SS.1 SS.2.1 SS.2.2.2.1 (hF2 _ _ _ hF).1 dX10_init_146 ?_
  have hP : va_P D vwCl (cw_W (cc_w (kn_K l D cy S vd sd sv F)) kn_I0) H := hP
  refine wl_call (w := cc_w (kn_K l D cy S vd sd sv F)) (o := 1) (As := [.ref (sd 15)]) (R := cw_R mX10_init 31 4865) SS hwk h1 okX8_addLetters rfl gX10_init_X8_addLetters ⟨Nat.le_of_ble_eq_true rfl, Nat.le_of_ble_eq_true rfl⟩ ⟨Nat.le_of_ble_eq_true rfl, Nat.le_of_ble_eq_true rfl⟩ (show 1 < 32 by decide) rfl (ci := 7) (T := TX8) (N := 2) rfl hl.1 rfl (Nat.le_of_ble_eq_true rfl) dX10_init_148 hP hS (fun H1 locs1 hP1 hz1 hk1 hS1 => ?_)
  refine lv_aload_n SS.1 SS.2.1 dX10_init_151 rfl (lv_at hl 0 rfl) ?_
  refine wl_call (w := cc_w (kn_K l D cy S vd sd sv F)) (o := 0) (As := []) (R := cw_R mX10_init 31 4865) SS hwk h2 okX10_adoptSetup rfl gX10_init_X10_adoptSetup ⟨Nat.le_of_ble_eq_true rfl, Nat.le_of_ble_eq_true rfl⟩ ⟨Nat.le_of_ble_eq_true rfl, Nat.le_of_ble_eq_true rfl⟩ (show 0 < 32 by decide) rfl (ci := 8) (T := TX10) (N := 10) rfl hl.1 rfl (Nat.le_of_ble_eq_true rfl) dX10_init_152 hP1 hS1 (fun H2 locs2 hP2 hz2 hk2 hS2 => ?_)
  refine lv_pop SS.1 SS.2.1 dX10_init_155 rfl ?_
  refine kn_size (by omega) (fun z => ?_)
  exact W.vret SS.1 SS.2.1 hr (fun t ht hW => ⟨rfl, ⟨by rw [ht]; exact hP2, by rw [ht]; omega⟩, hS2.F ht⟩) hS2.2.2 dX10_init_156
