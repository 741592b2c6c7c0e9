/-! ## Text.addLetters, on the input's text -/
def kn_L : Nat → cw_M → cw_M
  | 0, I => I
  | i + 1, I => cw_st (cw_st (kn_L i I) 2 (kn_L i I 1 1).toNatClampNeg (cw_ch 15 (nI i))) 1 1 ((cw_st (kn_L i I) 2 (kn_L i I 1 1).toNatClampNeg (cw_ch 15 (nI i))) 1 1 + 1)
theorem kn_L11 {I : cw_M} (h : I 1 1 = 0) : ∀ i, kn_L i I 1 1 = nI i := by
  intro i
  induction i with
  | zero => exact h
  | succ i ih =>
    show kn_L i I 1 1 + 1 = nI (i + 1)
    rw [ih, nI_succ]
theorem kn_letters {K : cw_K} {I : cw_M} (hFS : cw_FS (cw_Fc K) (cw_sd K) (cw_sv K)) (h : I 1 1 = 0) : cw_C (cc_w K) mX8_addLetters [.ref (cw_a (cc_w K) 1), .ref (cw_sd K 15)] I none (kn_L (cw_tx 15).length I) := by
  have hT : (cw_tx 15).length < 600 := by decide +kernel
  have loop : ∀ d i, i + d = (cw_tx 15).length → cw_B (cc_w K) (cc_w K) mX8_addLetters (cw_Z (cc_w K) none (kn_L (cw_tx 15).length I)) 0 0 0 0 (kn_L i I) 2 [(2, .int (nI i)), (0, .ref (cw_a (cc_w K) 1)), (1, .ref (cw_sd K 15))] [] := by
    intro d
    induction d with
    | zero =>
      intro i hi
      refine cw_iload_n dX8_addLetters_2 0 rfl rfl ?_
      refine cw_aload_n dX8_addLetters_3 2 rfl rfl ?_
      refine cw_callK (As := []) (jd_length hFS (k := 15) (by unfold cw_tk; omega)) okJ0_length_8abf5 rfl gX8_addLetters_J0_length_8abf5 (by decide) (fun A U H q => (hFS.str A U H q (k := 15) (by unfold cw_tk; omega)).1) rfl (Nat.le_of_ble_eq_true rfl) dX8_addLetters_4 ?_
      refine cw_icmp_ge (tgt := 25) dX8_addLetters_7 (by decide) (fun q => ?_) (fun q => ?_)
      · exact cw_vret rfl dX8_addLetters_25 ⟨rfl, by rw [show i = (cw_tx 15).length by omega]⟩
      · exact absurd (nI_le (a := (cw_tx 15).length) (b := i) (by omega) (by omega)) q
    | succ d ih =>
      intro i hi
      have h1 := kn_L11 h i
      refine cw_iload_n dX8_addLetters_2 0 rfl rfl ?_
      refine cw_aload_n dX8_addLetters_3 2 rfl rfl ?_
      refine cw_callK (As := []) (jd_length hFS (k := 15) (by unfold cw_tk; omega)) okJ0_length_8abf5 rfl gX8_addLetters_J0_length_8abf5 (by decide) (fun A U H q => (hFS.str A U H q (k := 15) (by unfold cw_tk; omega)).1) rfl (Nat.le_of_ble_eq_true rfl) dX8_addLetters_4 ?_
      refine cw_icmp_ge (tgt := 25) dX8_addLetters_7 (by decide) (fun q => ?_) (fun q => ?_)
      · exact absurd q (nI_ge (a := i) (b := (cw_tx 15).length) (by omega) (by omega))
      · refine cw_aload_n dX8_addLetters_10 1 rfl rfl ?_
        refine cw_aload_n dX8_addLetters_11 2 rfl rfl ?_
        refine cw_iload_n dX8_addLetters_12 0 rfl rfl ?_
        refine cw_callK (As := [.int (nI i)]) (jd_charAt hFS (k := 15) (by unfold cw_tk; omega) (vp_in_nI (by omega) (by omega))) okJ0_charAt_5068e rfl gX8_addLetters_J0_charAt_5068e (by decide) (fun A U H q => (hFS.str A U H q (k := 15) (by unfold cw_tk; omega)).1) rfl (Nat.le_of_ble_eq_true rfl) dX8_addLetters_13 ?_
        refine cw_callV (o := 1) (As := [.int (cw_ch 15 (nI i))]) (eX8_add_1 (J0 := kn_L (i + 1) I) ⟨fun z => absurd z (by rw [h1]; exact (nI_ge (a := i) (b := 600) (by omega) (by decide) : ¬ nI 600 ≤ nI i)), fun _ => ⟨by rw [h1]; exact vp_in_nI (by omega) (by omega), rfl, rfl⟩⟩) okX8_add rfl gX8_addLetters_X8_add (by decide) (show 1 < 32 by decide) rfl (ci := 9) rfl rfl (Nat.le_of_ble_eq_true rfl) dX8_addLetters_16 ?_
        refine cw_iinc (v := nI (i + 1)) dX8_addLetters_19 (j := 0) rfl (nI_succ i).symm (by decide) rfl ?_
        refine cw_goto (tgt := 2) dX8_addLetters_22 (by decide) ?_
        exact ih (i + 1) (by omega)
  refine cw_entry okX8_addLetters (Nat.le_of_ble_eq_true rfl) (show cw_B (cc_w K) (cc_w K) mX8_addLetters (cw_Z (cc_w K) none (kn_L (cw_tx 15).length I)) 0 0 0 0 I 0 [(0, .ref (cw_a (cc_w K) 1)), (1, .ref (cw_sd K 15))] [] from ?_)
  refine cw_iconst (v := 0) dX8_addLetters_0 (by decide) ?_
  refine cw_istore_n dX8_addLetters_1 rfl (by decide) rfl ?_
  exact loop (cw_tx 15).length 0 (Nat.zero_add _)
/-! ## the two worlds as the constructors make them -/
/-- the worlds whose cells begin at S -/
abbrev kn_K (l : Launch) (D : va_G) (cy : Nat → ClassId) (S : Nat) (vd sd sv : Nat → Nat) (F : cw_F) : cw_K := (l, D, cy, fun k => S + k, vd, sd, sv, F)
def kn_I0 : cw_M := fun _ _ => 0
set_option maxRecDepth 20000 in
theorem kn_eqC {l : Launch} {D : va_G} {cy : Nat → ClassId} {S : Nat} {vd sd sv : Nat → Nat} {F : cw_F} : kn_full cy S (S + 1) = cw_W (cc_w (kn_K l D cy S vd sd sv F)) kn_I0 := rfl
set_option maxRecDepth 20000 in
/-! ## CakeDivision(), whole -/
def kn_tx : String := "cake 8;sibling ann 1 2 3 4 4 3 2 1;sibling bob 9 0 0 0 0 0 0 9;sibling cid 1 1 1 1 1 1 1 1;"
def kn_F2 (K : cw_K) : Prop := ∀ (A : Nat → Prop) (U : State) (H : Heap), cw_Fc K A U H → vk_R RX10 77 kn_tx (cw_sd K 15) U ∧ True
/-- where a constructor's world may be called: this stands at S, last -/
def kx_In (K : cw_K) (S ci : Nat) (fs : List Value) (U : State) : Prop := kn_I (cw_d (cc_w K)) K.2.2.1 (S + 1) [(S, .inr (ci, fs))] U ∧ kn_N U ∧ cw_Fc K (fun q => S ≤ q) U U.heap
def kx_Q (w : cw_G) (S sz2 : Nat) (I9 : cw_M) : Array Value → State → Outcome → State → Prop := fun _ st oc t => oc = .returned none ∧ (va_P (cw_d w) vwCl (cw_W w I9) t.heap ∧ t.heap.size = sz2) ∧ va_F (fun q => S ≤ q) st t
theorem kx_C {l : Launch} {D : va_G} {cy : Nat → ClassId} {S : Nat} {vd sd sv : Nat → Nat} {F : cw_F} {I1 I9 : cw_M} {b : Int32} (hFok : cw_Fok F) (hF2 : kn_F2 (kn_K l D cy S vd sd sv F))
    (h1 : cw_C (cc_w (kn_K l D cy S vd sd sv F)) mX8_addLetters [.ref (cw_a (cc_w (kn_K l D cy S vd sd sv F)) 1), .ref (sd 15)] kn_I0 none I1)
    (h2 : cw_C (cc_w (kn_K l D cy S vd sd sv F)) mX10_adoptSetup [.ref (cw_a (cc_w (kn_K l D cy S vd sd sv F)) 0)] I1 (some (.int b)) I9) :
    Met l yX10_init wsX10_init (cw_R mX10_init 31 4865) (va_Pc [.ref S] (kx_In (kn_K l D cy S vd sd sv F) S 10 [.null, .null, .null, .null, .null, .null, .null, .null, .null, .null])) (kx_Q (cc_w (kn_K l D cy S vd sd sv F)) S (S + 32) I9) 31 4865 (fun q => S ≤ q) := by
  refine Met.ofW (cc := cX10_init) (maxL := 1) (ret := none) (by decide +kernel) rfl ?_
  intro p e s m args below meth c s₁ B hml hv
  obtain ⟨rfl, ⟨hsz, hP, hK, hD0, hO⟩, hN, hF⟩ := hv
  have hts := atoms_spec (ws := wsX10_init) B.pre
  have hown : s.vm.findClass RX10 = some m.cls := findClass_of_methodNamed B.named
  have hin : meth.name = "<init>" := (name_of_methodNamed B.named B.method).1
  have hlocks := B.notSynchronized
  have hr := B.returns
  have SS : CallFix p m c cX10_init 1 s #[.ref S] wsX10_init RX10 := ⟨B.exec, B.bytes, hml, hown, hts⟩
  have hl := lv_entry ([.ref S] : List Value) (n := 1) (Nat.le_of_ble_eq_true rfl)
  rw [lg_entry_eq]
  generalize (lg_sl ([.ref S] : List Value) ++ List.replicate (1 - (lg_sl ([.ref S] : List Value)).length) Slot.unset).toArray = ls at hl ⊢
  have hl : lv_has ls 1 [(0, .ref S)] := hl
  refine kn_build (o := S) (sz := S + 1) (cy := cy) (D := D) SS hin hsz (fun q h => Or.inr (by rw [← hsz]; exact h)) hP hK (hD0.self (sz := S + 1)) hO hN hl (fun H locs hP hD hS hz => ?_)
  have hA0 : ∀ q, va_A [(S, .inr (10, [.null, .null, .null, .null, .null, .null, .null, .null, .null, .null]))] (S + 1) q → S ≤ q := fun q hq => by
    rcases hq with ⟨k, e9, hk⟩ | hq
    · cases k with
      | zero =>
        cases hk
        exact Nat.le_refl _
      | succ k => simp at hk
    · omega
  have hS : va_S (fun q => S ≤ q) s.heap H locs := ⟨hS.1, fun q h1 h2 => hS.2.1 q h1 (fun h => h2 (hA0 q h)), fun x hx => hA0 _ (hS.2.2 x hx)⟩
  have hwk : wk (cc_w (kn_K l D cy S vd sd sv F)) (fun q => S ≤ q) s := ⟨hK, fun i j _ _ h => Nat.add_left_cancel h, hF, hFok, fun k _ => Nat.le_add_right S k, fun q h => by rw [hsz] at h; exact Nat.le_of_succ_le h⟩
  refine lv_aload_n SS.1 SS.2.1 dX10_init_142 rfl (lv_at hl 0 rfl) ?_
  refine va_get (D := D) (ci := 10) (v := .ref (S + 1)) (C := RX10) (T := TX10) (N := 10) SS.1 SS.2.1 SS.2.2.2.2 (by decide +kernel) SS.2.2.2.1 hK hP 0 rfl rfl 0 (by decide) (SS.2.2.2.2 (.fieldLink RX10 10 "CakeDivision" "input" "LCakeDivision$Text;") (by decide +kernel)) (fun _ h9 => h9) rfl dX10_init_143 ?_
  refine va_ldcS SS.1 SS.2.1 SS.2.2.2.1 (hF2 _ _ _ hF).1 dX10_init_146 ?_
  have hP : va_P D vwCl (cw_W (cc_w (kn_K l D cy S vd sd sv F)) kn_I0) H := hP
  refine wl_call (w := cc_w (kn_K l D cy S vd sd sv F)) (o := 1) (As := [.ref (sd 15)]) (R := cw_R mX10_init 31 4865) SS hwk h1 okX8_addLetters rfl gX10_init_X8_addLetters ⟨Nat.le_of_ble_eq_true rfl, Nat.le_of_ble_eq_true rfl⟩ ⟨Nat.le_of_ble_eq_true rfl, Nat.le_of_ble_eq_true rfl⟩ (show 1 < 32 by decide) rfl (ci := 9) (T := TX8) (N := 2) rfl hl.1 rfl (Nat.le_of_ble_eq_true rfl) dX10_init_148 hP hS (fun H1 locs1 hP1 hz1 hk1 hS1 => ?_)
  refine lv_aload_n SS.1 SS.2.1 dX10_init_151 rfl (lv_at hl 0 rfl) ?_
  refine wl_call (w := cc_w (kn_K l D cy S vd sd sv F)) (o := 0) (As := []) (R := cw_R mX10_init 31 4865) SS hwk h2 okX10_adoptSetup rfl gX10_init_X10_adoptSetup ⟨Nat.le_of_ble_eq_true rfl, Nat.le_of_ble_eq_true rfl⟩ ⟨Nat.le_of_ble_eq_true rfl, Nat.le_of_ble_eq_true rfl⟩ (show 0 < 32 by decide) rfl (ci := 10) (T := TX10) (N := 10) rfl hl.1 rfl (Nat.le_of_ble_eq_true rfl) dX10_init_152 hP1 hS1 (fun H2 locs2 hP2 hz2 hk2 hS2 => ?_)
  refine lv_pop SS.1 SS.2.1 dX10_init_155 rfl ?_
  refine kn_size (by omega) (fun z => ?_)
  exact W.vret SS.1 SS.2.1 hr (fun t ht hW => ⟨rfl, ⟨by rw [ht]; exact hP2, by rw [ht]; omega⟩, hS2.F ht⟩) hS2.2.2 dX10_init_156
/-! ## the start: both sides hold the first setup -/
section ZB
variable {K : cw_K} {I J : cw_M}
theorem zt_L2 (h : I 1 1 = 0) : ∀ i, i ≤ 91 → ∀ j, j < i → kn_L i I 2 j = zt_T j := by
  intro i
  induction i with
  | zero => exact fun _ j hj => absurd hj (by omega)
  | succ i ih =>
    intro hi j hj
    show upd (kn_L i I 2) (kn_L i I 1 1).toNatClampNeg (cw_ch 15 (nI i)) j = zt_T j
    rw [kn_L11 h i, nI_clamp (by omega)]
    by_cases w : j = i
    · subst w
      rw [sp_upd_same]
      show (cw_tx 15).getD (nI j).toNatClampNeg 0 = (cw_tx 15).getD j 0
      rw [nI_clamp (by omega)]
    · rw [sp_upd_ne _ _ w]
      exact ih (by omega) j (by omega)
theorem zt_Lo : ∀ i o, o ≠ 1 → o ≠ 2 → kn_L i I o = I o := by
  intro i
  induction i with
  | zero => exact fun o _ _ => rfl
  | succ i ih =>
    intro o h1 h2
    show (if o = 1 then _ else if o = 2 then _ else kn_L i I o) = I o
    rw [if_neg h1, if_neg h2]
    exact ih o h1 h2
end ZB
