/-! ## the law's setup text: its letters, its tokens; load -/
def zx_h (n : Nat) : List Nat := if n < 10 then [99, 97, 107, 101, 32, 48 + n, 59] else [99, 97, 107, 101, 32, 49, 38 + n, 59]
def zx_v (f : Nat → Nat) : Nat → List Nat
  | 0 => []
  | c + 1 => zx_v f c ++ [32, 48 + f c]
def zx_s (n s : Nat) (f : Nat → Nat) : List Nat := [115, 105, 98, 108, 105, 110, 103, 32, 115, 97 + s] ++ (zx_v f n ++ [59])
/-- the setup of n cells, of the first siblings with the values v -/
def zx (n : Nat) (v : Nat → Nat → Nat) : Nat → List Nat
  | 0 => zx_h n
  | s + 1 => zx n v s ++ zx_s n s (v s)
def zp (n : Nat) : Nat → Nat
  | 0 => if n < 10 then 7 else 8
  | s + 1 => zp n s + (11 + 2 * n)
theorem zx_ar {a b : List Nat} {i : Nat} (h : a.length ≤ i) : (a ++ b).getD i 0 = b.getD (i - a.length) 0 := by
  rw [List.getD_eq_getElem?_getD, List.getD_eq_getElem?_getD, List.getElem?_append_right h]
theorem zx_al {a b : List Nat} {i : Nat} (h : i < a.length) : (a ++ b).getD i 0 = a.getD i 0 := by
  rw [List.getD_eq_getElem?_getD, List.getD_eq_getElem?_getD, List.getElem?_append_left h]
theorem zx_hl (n : Nat) : (zx_h n).length = if n < 10 then 7 else 8 := by
  unfold zx_h
  split <;> rfl
theorem zx_vl (f : Nat → Nat) : ∀ c, (zx_v f c).length = 2 * c
  | 0 => rfl
  | c + 1 => by
    show (zx_v f c ++ [32, 48 + f c]).length = _
    rw [List.length_append, zx_vl f c]
    show 2 * c + 2 = 2 * (c + 1)
    omega
theorem zx_sl (n s : Nat) (f : Nat → Nat) : (zx_s n s f).length = 11 + 2 * n := by
  unfold zx_s
  rw [List.length_append, List.length_append, zx_vl]
  show 10 + (2 * n + 1) = _
  omega
theorem zx_l (n : Nat) (v : Nat → Nat → Nat) : ∀ s, (zx n v s).length = zp n s
  | 0 => zx_hl n
  | s + 1 => by
    show (zx n v s ++ zx_s n s (v s)).length = zp n s + (11 + 2 * n)
    rw [List.length_append, zx_l n v s, zx_sl]
theorem zx_va (f : Nat → Nat) : ∀ n c, c < n → (zx_v f n).getD (2 * c) 0 = 32 ∧ (zx_v f n).getD (2 * c + 1) 0 = 48 + f c
  | 0, c, h => by omega
  | n + 1, c, h => by
    have hl := zx_vl f n
    show (zx_v f n ++ [32, 48 + f n]).getD (2 * c) 0 = 32 ∧ (zx_v f n ++ [32, 48 + f n]).getD (2 * c + 1) 0 = 48 + f c
    by_cases q : c = n
    · subst q
      rw [List.getD_eq_getElem?_getD, List.getD_eq_getElem?_getD, List.getElem?_append_right (by omega), List.getElem?_append_right (by omega), hl, Nat.sub_self, show 2 * c + 1 - 2 * c = 1 by omega]
      exact ⟨rfl, rfl⟩
    · have h9 := zx_va f n c (by omega)
      rw [List.getD_eq_getElem?_getD, List.getD_eq_getElem?_getD, List.getElem?_append_left (by omega), List.getElem?_append_left (by omega)]
      rw [List.getD_eq_getElem?_getD, List.getD_eq_getElem?_getD] at h9
      exact h9
theorem zx_sa (n s : Nat) (f : Nat → Nat) : (∀ i, i < 10 → (zx_s n s f).getD i 0 = [115, 105, 98, 108, 105, 110, 103, 32, 115, 97 + s].getD i 0) ∧ (∀ c, c < n → (zx_s n s f).getD (10 + 2 * c) 0 = 32 ∧ (zx_s n s f).getD (11 + 2 * c) 0 = 48 + f c) ∧ (zx_s n s f).getD (10 + 2 * n) 0 = 59 := by
  have hl := zx_vl f n
  unfold zx_s
  refine ⟨fun i hi => ?_, fun c hc => ?_, ?_⟩
  · rw [List.getD_eq_getElem?_getD, List.getD_eq_getElem?_getD, List.getElem?_append_left hi]
  · have h9 := zx_va f n c hc
    have e1 : ([115, 105, 98, 108, 105, 110, 103, 32, 115, 97 + s] : List Nat).length = 10 := rfl
    refine ⟨?_, ?_⟩
    · rw [zx_ar (by omega), e1, show 10 + 2 * c - 10 = 2 * c by omega, zx_al (by omega)]
      exact h9.1
    · rw [zx_ar (by omega), e1, show 11 + 2 * c - 10 = 2 * c + 1 by omega, zx_al (by omega)]
      exact h9.2
  · have e1 : ([115, 105, 98, 108, 105, 110, 103, 32, 115, 97 + s] : List Nat).length = 10 := rfl
    rw [zx_ar (by omega), e1, show 10 + 2 * n - 10 = 2 * n by omega, zx_ar (by omega), hl, Nat.sub_self]
    rfl
theorem zx_at (n : Nat) (v : Nat → Nat → Nat) : ∀ m s off, s < m → off < 11 + 2 * n → (zx n v m).getD (zp n s + off) 0 = (zx_s n s (v s)).getD off 0
  | 0, s, off, h, _ => by omega
  | m + 1, s, off, h, ho => by
    have hl := zx_l n v m
    show (zx n v m ++ zx_s n m (v m)).getD (zp n s + off) 0 = _
    by_cases q : s = m
    · subst q
      rw [List.getD_eq_getElem?_getD, List.getD_eq_getElem?_getD, List.getElem?_append_right (by omega), hl, Nat.add_sub_cancel_left]
    · have h9 := zx_at n v m s off (by omega) ho
      have mono : ∀ d a, zp n (a + 1) ≤ zp n (a + 1 + d) := fun d a => by
        induction d with
        | zero => exact Nat.le_refl _
        | succ d ih => exact Nat.le_trans ih (Nat.le_add_right _ _)
      have h10 := mono (m - (s + 1)) s
      rw [show s + 1 + (m - (s + 1)) = m by omega] at h10
      have h11 : zp n (s + 1) = zp n s + (11 + 2 * n) := rfl
      rw [List.getD_eq_getElem?_getD, List.getElem?_append_left (by omega), ← List.getD_eq_getElem?_getD]
      exact h9
theorem zp_mono (n : Nat) {a b : Nat} (h : a ≤ b) : zp n a ≤ zp n b := by
  induction b with
  | zero => rw [show a = 0 by omega]; exact Nat.le_refl _
  | succ b ih =>
    by_cases q : a = b + 1
    · rw [q]; exact Nat.le_refl _
    · exact Nat.le_trans (ih (by omega)) (Nat.le_add_right _ _)
theorem zx_ha (n : Nat) (v : Nat → Nat → Nat) : ∀ m i, i < zp n 0 → (zx n v m).getD i 0 = (zx_h n).getD i 0
  | 0, i, _ => rfl
  | m + 1, i, h => by
    have hl := zx_l n v m
    have h2 := zp_mono n (show 0 ≤ m by omega)
    show (zx n v m ++ zx_s n m (v m)).getD i 0 = _
    rw [List.getD_eq_getElem?_getD, List.getElem?_append_left (by omega), ← List.getD_eq_getElem?_getD]
    exact zx_ha n v m i h
theorem zp_le (n : Nat) (hn : n ≤ 16) {m : Nat} (hm : m ≤ 5) : zp n m ≤ 223 := by
  have key : ∀ m, zp n m ≤ 8 + 43 * m := by
    intro m
    induction m with
    | zero =>
      show (if n < 10 then 7 else 8) ≤ _
      split <;> omega
    | succ m ih =>
      show zp n m + (11 + 2 * n) ≤ _
      omega
  have := key m
  omega
/-! letters as Int32 -/
theorem zy_wd : ∀ b, b < 128 → (97 ≤ b ∧ b ≤ 122 ↔ tp_wd (nI b)) := by decide +kernel
theorem zy_dg : ∀ b, b < 128 → (48 ≤ b ∧ b ≤ 57 ↔ tp_dg (nI b)) := by decide +kernel
/-- the tokens of sibling s -/
def yk (n m s r : Nat) : Nat := if r ≤ 1 then 1 else if r ≤ n + 1 then 2 else if r = n + 2 then 3 else if s + 1 < m then 1 else 0
def ya (n s r : Nat) : Nat := if r = 0 then zp n s else if r = 1 then zp n s + 8 else if r ≤ n + 1 then zp n s + 7 + 2 * r else if r = n + 2 then zp n s + 10 + 2 * n else zp n (s + 1)
def ye (n m s r : Nat) : Nat := if r = 0 then zp n s + 7 else if r ≤ n + 1 then zp n s + 8 + 2 * r else if r = n + 2 then zp n s + 11 + 2 * n else if s + 1 < m then zp n (s + 1) + 7 else zp n (s + 1)
section ZTX
variable {n m : Nat} {v : Nat → Nat → Nat}
theorem zy_word (hm : m ≤ 5) {T : Nat → Int32} (hT : ∀ j, T j = nI ((zx n v m).getD j 0)) : ∀ s e0, s < m → e0 = zp n s → zt_tok T (zp n m) e0 1 (zp n s) (zp n s + 7) := by
  have tA : ∀ s i, s < m → i < 10 → T (zp n s + i) = nI ([115, 105, 98, 108, 105, 110, 103, 32, 115, 97 + s].getD i 0) := fun s i hs hi => by
    rw [hT, zx_at n v m s i hs (by omega), (zx_sa n s (v s)).1 i hi]
  have hS : ∀ s, s < m → zp n (s + 1) ≤ zp n m := fun s hs => zp_mono n hs
  have hp : ∀ s, zp n (s + 1) = zp n s + (11 + 2 * n) := fun _ => rfl
  have hw32 : ¬ tp_wd (nI 32) := by decide
  intro s e0 hs he
  subst he
  have := hS s hs
  have := hp s
  refine ⟨Nat.le_refl _, by omega, by omega, fun i h1 h2 => by omega, Or.inr (Or.inl ⟨rfl, by omega, by omega, fun i h1 h2 => ?_, fun _ => ?_⟩)⟩
  · have h3 := tA s (i - zp n s) hs (by omega)
    rw [show zp n s + (i - zp n s) = i by omega] at h3
    rw [h3]
    rcases (by omega : i - zp n s = 0 ∨ i - zp n s = 1 ∨ i - zp n s = 2 ∨ i - zp n s = 3 ∨ i - zp n s = 4 ∨ i - zp n s = 5 ∨ i - zp n s = 6) with e | e | e | e | e | e | e
    · rw [e]; exact (show tp_wd (nI 115) by decide)
    · rw [e]; exact (show tp_wd (nI 105) by decide)
    · rw [e]; exact (show tp_wd (nI 98) by decide)
    · rw [e]; exact (show tp_wd (nI 108) by decide)
    · rw [e]; exact (show tp_wd (nI 105) by decide)
    · rw [e]; exact (show tp_wd (nI 110) by decide)
    · rw [e]; exact (show tp_wd (nI 103) by decide)
  · rw [tA s 7 hs (by omega)]
    exact hw32
theorem zy_tok (hn1 : 1 ≤ n) (hn : n ≤ 16) (hm : m ≤ 5) (hv : ∀ s c, v s c ≤ 9) {T : Nat → Int32} (hT : ∀ j, T j = nI ((zx n v m).getD j 0)) : zs_ok T (zp n m) n m (yk n m) (ya n) (ye n m) := by
  have tA : ∀ s i, s < m → i < 10 → T (zp n s + i) = nI ([115, 105, 98, 108, 105, 110, 103, 32, 115, 97 + s].getD i 0) := fun s i hs hi => by
    rw [hT, zx_at n v m s i hs (by omega), (zx_sa n s (v s)).1 i hi]
  have tB : ∀ s c, s < m → c < n → T (zp n s + (10 + 2 * c)) = nI 32 ∧ T (zp n s + (11 + 2 * c)) = nI (48 + v s c) := fun s c hs hc => by
    rw [hT, hT, zx_at n v m s _ hs (by omega), zx_at n v m s _ hs (by omega), ((zx_sa n s (v s)).2.1 c hc).1, ((zx_sa n s (v s)).2.1 c hc).2]
    exact ⟨rfl, rfl⟩
  have tC : ∀ s, s < m → T (zp n s + (10 + 2 * n)) = nI 59 := fun s hs => by
    rw [hT, zx_at n v m s _ hs (by omega), (zx_sa n s (v s)).2.2]
  have hS : ∀ s, s < m → zp n (s + 1) ≤ zp n m := fun s hs => zp_mono n hs
  have hp : ∀ s, zp n (s + 1) = zp n s + (11 + 2 * n) := fun _ => rfl
  have hw32 : ¬ tp_wd (nI 32) := by decide
  have hd32 : ¬ tp_dg (nI 32) := by decide
  have hd59 : ¬ tp_dg (nI 59) := by decide
  have word := zy_word (v := v) (n := n) hm hT
  refine ⟨fun s hs => ⟨fun r hr => ?_, rfl, ?_, fun i hi => ?_, rfl, ?_, ?_, fun i hi => ⟨?_, v s i, hv s i, ?_⟩, fun r hr => ?_⟩, fun s hs => ⟨?_, ?_, ?_⟩, ?_⟩
  · have hS1 := hS s hs
    have hp1 := hp s
    by_cases r0 : r = 0
    · subst r0
      have e1 : ya n s (0 + 1) = zp n s + 8 := rfl
      have e2 : ye n m s (0 + 1) = zp n s + 10 := by
        unfold ye
        rw [if_neg (by omega), if_pos (by omega)]
      have e3 : ye n m s 0 = zp n s + 7 := rfl
      have e4 : yk n m s (0 + 1) = 1 := rfl
      rw [e1, e2, e3, e4]
      refine ⟨by omega, by omega, by omega, fun i h1 h2 => Or.inl ?_, Or.inr (Or.inl ⟨rfl, by omega, by omega, fun i h1 h2 => ?_, fun _ => ?_⟩)⟩
      · rw [show i = zp n s + 7 by omega, tA s 7 hs (by omega)]
        rfl
      · by_cases q : i = zp n s + 8
        · rw [q, tA s 8 hs (by omega)]
          exact (show tp_wd (nI 115) by decide)
        · rw [show i = zp n s + 9 by omega, tA s 9 hs (by omega)]
          exact (zy_wd (97 + s) (by omega)).mp (by omega)
      · have h9 := (tB s 0 hs (by omega)).1
        rw [show zp n s + 10 = zp n s + (10 + 2 * 0) by omega, h9]
        exact hw32
    · by_cases r1 : r ≤ n
      · have e1 : ya n s (r + 1) = zp n s + 7 + 2 * (r + 1) := by
          unfold ya
          rw [if_neg (by omega), if_neg (by omega), if_pos (by omega)]
        have e2 : ye n m s (r + 1) = zp n s + 8 + 2 * (r + 1) := by
          unfold ye
          rw [if_neg (by omega), if_pos (by omega)]
        have e3 : ye n m s r = zp n s + 8 + 2 * r := by
          unfold ye
          rw [if_neg r0, if_pos (by omega)]
        have e4 : yk n m s (r + 1) = 2 := by
          unfold yk
          rw [if_neg (by omega), if_pos (by omega)]
        rw [e1, e2, e3, e4]
        have h9 := tB s (r - 1) hs (by omega)
        rw [show zp n s + (10 + 2 * (r - 1)) = zp n s + 8 + 2 * r by omega, show zp n s + (11 + 2 * (r - 1)) = zp n s + 7 + 2 * (r + 1) by omega] at h9
        have hvv := hv s (r - 1)
        refine ⟨by omega, by omega, by omega, fun i h1 h2 => Or.inl ?_, Or.inr (Or.inr (Or.inl ⟨rfl, by omega, by omega, fun i h1 h2 => ?_, fun _ => ?_⟩))⟩
        · rw [show i = zp n s + 8 + 2 * r by omega, h9.1]
          rfl
        · rw [show i = zp n s + 7 + 2 * (r + 1) by omega, h9.2]
          exact (zy_dg _ (by omega)).mp (by omega)
        · by_cases q : r = n
          · rw [show zp n s + 8 + 2 * (r + 1) = zp n s + (10 + 2 * n) by omega, tC s hs]
            exact hd59
          · rw [show zp n s + 8 + 2 * (r + 1) = zp n s + (10 + 2 * r) by omega, (tB s r hs (by omega)).1]
            exact hd32
      · by_cases r2 : r = n + 1
        · subst r2
          have e1 : ya n s (n + 1 + 1) = zp n s + 10 + 2 * n := by
            unfold ya
            rw [if_neg (by omega), if_neg (by omega), if_neg (by omega), if_pos rfl]
          have e2 : ye n m s (n + 1 + 1) = zp n s + 11 + 2 * n := by
            unfold ye
            rw [if_neg (by omega), if_neg (by omega), if_pos rfl]
          have e3 : ye n m s (n + 1) = zp n s + 8 + 2 * (n + 1) := by
            unfold ye
            rw [if_neg (by omega), if_pos (by omega)]
          have e4 : yk n m s (n + 1 + 1) = 3 := by
            unfold yk
            rw [if_neg (by omega), if_neg (by omega), if_pos rfl]
          rw [e1, e2, e3, e4]
          refine ⟨by omega, by omega, by omega, fun i h1 h2 => by omega, Or.inr (Or.inr (Or.inr ⟨rfl, by omega, ?_⟩))⟩
          rw [show zp n s + 10 + 2 * n = zp n s + (10 + 2 * n) by omega, tC s hs]
          rfl
        · obtain rfl : r = n + 2 := by omega
          have e1 : ya n s (n + 2 + 1) = zp n (s + 1) := by
            unfold ya
            rw [if_neg (by omega), if_neg (by omega), if_neg (by omega), if_neg (by omega)]
          have e3 : ye n m s (n + 2) = zp n s + 11 + 2 * n := by
            unfold ye
            rw [if_neg (by omega), if_neg (by omega), if_pos rfl]
          by_cases q : s + 1 < m
          · have e2 : ye n m s (n + 2 + 1) = zp n (s + 1) + 7 := by
              unfold ye
              rw [if_neg (by omega), if_neg (by omega), if_neg (by omega), if_pos q]
            have e4 : yk n m s (n + 2 + 1) = 1 := by
              unfold yk
              rw [if_neg (by omega), if_neg (by omega), if_neg (by omega), if_pos q]
            rw [e1, e2, e3, e4]
            exact word (s + 1) _ q (by omega)
          · have e2 : ye n m s (n + 2 + 1) = zp n (s + 1) := by
              unfold ye
              rw [if_neg (by omega), if_neg (by omega), if_neg (by omega), if_neg q]
            have e4 : yk n m s (n + 2 + 1) = 0 := by
              unfold yk
              rw [if_neg (by omega), if_neg (by omega), if_neg (by omega), if_neg q]
            rw [e1, e2, e3, e4]
            have e5 : s + 1 = m := by omega
            rw [e5] at hp1
            rw [e5]
            exact ⟨by omega, Nat.le_refl _, Nat.le_refl _, fun i h1 h2 => by omega, Or.inl ⟨rfl, rfl, rfl⟩⟩
  · show zp n s + 7 - zp n s = 7
    omega
  · have hi' : i < 7 := hi
    show T (zp n s + i) = _
    rw [tA s i hs (by omega)]
    rcases (by omega : i = 0 ∨ i = 1 ∨ i = 2 ∨ i = 3 ∨ i = 4 ∨ i = 5 ∨ i = 6) with rfl | rfl | rfl | rfl | rfl | rfl | rfl <;> rfl
  · have e2 : ye n m s 1 = zp n s + 10 := by
      unfold ye
      rw [if_neg (by omega), if_pos (by omega)]
    rw [e2]
    show zp n s + 10 - (zp n s + 8) ≤ 6
    omega
  · unfold yk
    rw [if_neg (by omega), if_neg (by omega), if_pos (by omega)]
  · unfold yk
    rw [if_neg (by omega), if_pos (by omega)]
  · have e1 : ya n s (2 + i) = zp n s + (11 + 2 * i) := by
      unfold ya
      rw [if_neg (by omega), if_neg (by omega), if_pos (by omega)]
      omega
    have e2 : ye n m s (2 + i) = zp n s + (12 + 2 * i) := by
      unfold ye
      rw [if_neg (by omega), if_pos (by omega)]
      omega
    rw [e1, e2, show zp n s + (12 + 2 * i) - (zp n s + (11 + 2 * i)) = 1 by omega]
    show 10 * 0 + T (zp n s + (11 + 2 * i) + 0) - 48 = nI (v s i)
    rw [Nat.add_zero, (tB s i hs hi).2]
    have key : ∀ d, d < 10 → (10 : Int32) * 0 + nI (48 + d) - 48 = nI d := by decide +kernel
    exact key _ (by have := hv s i; omega)
  · have e2 : ∀ x, ye n m x 1 = zp n x + 10 := fun x => by
      unfold ye
      rw [if_neg (by omega), if_pos (by omega)]
    refine ⟨1, ?_, ?_, ?_⟩
    · rw [e2]
      show 1 < zp n s + 10 - (zp n s + 8)
      omega
    · rw [e2]
      show 1 < zp n r + 10 - (zp n r + 8)
      omega
    · show T (zp n r + 8 + 1) ≠ T (zp n s + 8 + 1)
      rw [show zp n r + 8 + 1 = zp n r + 9 by omega, show zp n s + 8 + 1 = zp n s + 9 by omega, tA r 9 (by omega) (by omega), tA s 9 hs (by omega)]
      intro z
      have z2 := (nI_eq (a := 97 + r) (b := 97 + s) (by omega) (by omega)).mp z
      omega
  · unfold yk
    rw [if_neg (by omega), if_neg (by omega), if_neg (by omega), if_pos hs, if_pos (by omega)]
  · unfold ya
    rw [if_neg (by omega), if_neg (by omega), if_neg (by omega), if_neg (by omega), if_pos rfl]
  · unfold ye
    rw [if_neg (by omega), if_neg (by omega), if_neg (by omega), if_pos hs, if_pos rfl]
  · unfold yk
    rw [if_neg (by omega), if_neg (by omega), if_neg (by omega), if_neg (by omega)]
/-- the tokens of the head -/
def hk4 (j : Nat) : Nat := if j = 0 then 1 else if j = 1 then 2 else if j = 2 then 3 else 1
def ha4 (n j : Nat) : Nat := if j = 0 then 0 else if j = 1 then 5 else if j = 2 then zp n 0 - 1 else zp n 0
def he4 (n j : Nat) : Nat := if j = 0 then 4 else if j = 1 then zp n 0 - 1 else if j = 2 then zp n 0 else zp n 0 + 7
theorem zy_head (hn1 : 1 ≤ n) (hn : n ≤ 16) (hm1 : 1 ≤ m) (hm : m ≤ 5) {T : Nat → Int32} (hT : ∀ j, T j = nI ((zx n v m).getD j 0)) : zt_tok T (zp n m) 0 (hk4 0) (ha4 n 0) (he4 n 0) ∧ (∀ j, j < 3 → zt_tok T (zp n m) (he4 n j) (hk4 (j + 1)) (ha4 n (j + 1)) (he4 n (j + 1))) ∧ hk4 0 = 1 ∧ he4 n 0 - ha4 n 0 = (cw_tx 0).length ∧ (∀ i, i < (cw_tx 0).length → T (ha4 n 0 + i) = (cw_tx 0).getD i 0) ∧ hk4 1 = 2 ∧ tp_nv T (ha4 n 1) (he4 n 1 - ha4 n 1) = nI n ∧ hk4 2 = 3 ∧ hk4 3 = yk n m 0 0 ∧ ha4 n 3 = ya n 0 0 ∧ he4 n 3 = ye n m 0 0 := by
  have hz : zp n 0 = if n < 10 then 7 else 8 := rfl
  have hL := zp_mono n (show 0 ≤ m by omega)
  have hL1 := zp_mono n (show 1 ≤ m by omega)
  have hL2 : zp n 1 = zp n 0 + (11 + 2 * n) := rfl
  have tH : ∀ i, i < zp n 0 → T i = nI ((zx_h n).getD i 0) := fun i hi => by
    rw [hT, zx_ha n v m i hi]
  have c5 : ∀ i, i < 5 → (zx_h n).getD i 0 = [99, 97, 107, 101, 32].getD i 0 := fun i hi => by
    unfold zx_h
    rcases (by omega : i = 0 ∨ i = 1 ∨ i = 2 ∨ i = 3 ∨ i = 4) with rfl | rfl | rfl | rfl | rfl <;> split <;> rfl
  have z7 : 7 ≤ zp n 0 ∧ zp n 0 ≤ 8 := by
    rw [hz]
    split <;> omega
  have t5 : ∀ i, i < 5 → T i = nI ([99, 97, 107, 101, 32].getD i 0) := fun i hi => by
    rw [tH i (by omega), c5 i hi]
  have lastc : T (zp n 0 - 1) = nI 59 := by
    rw [tH _ (by omega), hz]
    unfold zx_h
    split <;> rfl
  have digs : ∀ i, 5 ≤ i → i < zp n 0 - 1 → tp_dg (T i) := fun i h1 h2 => by
    rw [tH i (by omega)]
    unfold zx_h
    by_cases q : n < 10
    · rw [hz, if_pos q] at h2
      rw [if_pos q, show i = 5 by omega]
      exact (zy_dg (48 + n) (by omega)).mp (by omega)
    · rw [hz, if_neg q] at h2
      rw [if_neg q]
      rcases (by omega : i = 5 ∨ i = 6) with rfl | rfl
      · exact (show tp_dg (nI 49) by decide)
      · exact (zy_dg (38 + n) (by omega)).mp (by omega)
  refine ⟨?_, fun j hj => ?_, rfl, rfl, fun i hi => ?_, rfl, ?_, rfl, rfl, rfl, rfl⟩
  · show zt_tok T (zp n m) 0 1 0 4
    refine ⟨by omega, by omega, by omega, fun i h1 h2 => by omega, Or.inr (Or.inl ⟨rfl, by omega, by omega, fun i h1 h2 => ?_, fun _ => ?_⟩)⟩
    · rw [t5 i (by omega)]
      rcases (by omega : i = 0 ∨ i = 1 ∨ i = 2 ∨ i = 3) with rfl | rfl | rfl | rfl <;> decide
    · rw [t5 4 (by omega)]
      decide
  · rcases (by omega : j = 0 ∨ j = 1 ∨ j = 2) with rfl | rfl | rfl
    · show zt_tok T (zp n m) 4 2 5 (zp n 0 - 1)
      refine ⟨by omega, by omega, by omega, fun i h1 h2 => Or.inl ?_, Or.inr (Or.inr (Or.inl ⟨rfl, by omega, by omega, fun i h1 h2 => digs i h2 h1, fun _ => ?_⟩))⟩
      · rw [show i = 4 by omega, t5 4 (by omega)]
        rfl
      · rw [lastc]
        decide
    · show zt_tok T (zp n m) (zp n 0 - 1) 3 (zp n 0 - 1) (zp n 0)
      exact ⟨by omega, by omega, by omega, fun i h1 h2 => by omega, Or.inr (Or.inr (Or.inr ⟨rfl, by omega, by rw [lastc]; rfl⟩))⟩
    · exact zy_word (v := v) (n := n) hm hT 0 _ (by omega) rfl
  · have hi4 : i < 4 := hi
    show T (0 + i) = _
    rw [Nat.zero_add, t5 i (by omega)]
    rcases (by omega : i = 0 ∨ i = 1 ∨ i = 2 ∨ i = 3) with rfl | rfl | rfl | rfl <;> rfl
  · show tp_nv T 5 (zp n 0 - 1 - 5) = nI n
    have h6 := tH 5 (by omega)
    by_cases q : n < 10
    · have e : zp n 0 = 7 := by rw [hz, if_pos q]
      rw [e]
      show 10 * 0 + T (5 + 0) - 48 = nI n
      rw [Nat.add_zero, h6]
      unfold zx_h
      rw [if_pos q]
      have key : ∀ n, n < 10 → (10 : Int32) * 0 + nI (48 + n) - 48 = nI n := by decide +kernel
      exact key n q
    · have e : zp n 0 = 8 := by rw [hz, if_neg q]
      have h7 := tH 6 (by omega)
      rw [e]
      show 10 * (10 * 0 + T (5 + 0) - 48) + T (5 + 1) - 48 = nI n
      rw [Nat.add_zero, h6, h7]
      unfold zx_h
      rw [if_neg q]
      have key : ∀ n, n < 17 → 10 ≤ n → 10 * ((10 : Int32) * 0 + nI 49 - 48) + nI (38 + n) - 48 = nI n := by decide +kernel
      exact key n (by omega) (by omega)
end ZTX
/-! load -/
abbrev sp_ad (I : cw_M) (n : Nat) : cw_M := cw_st (cw_st (cw_st (cw_up (sp_bc I) 9 (sp_put (I 9) (-1) 0 n)) 28 0 0) 29 0 (vp_nar .boolean 0)) 29 1 (vp_nar .boolean 0)
section LDP
variable {K : cw_K} {I : cw_M} {n m q : Nat} {v : Nat → Nat → Nat}
theorem ad_ok {I2 : cw_M} (hn : n ≤ 24) (h : I2 10 0 = nI n) (hr : cw_C (cc_w K) mX5_readSetup [.ref (cw_a (cc_w K) 15), .ref (cw_a (cc_w K) 10)] I (some (.int 1)) I2) : cw_C (cc_w K) mX10_adoptSetup [.ref (cw_a (cc_w K) 0)] I (some (.int 1)) (sp_ad (cw_st I2 1 1 0) n) :=
  eX10_adoptSetup_0 ⟨_, _, hr, fun q => absurd q (by decide), fun _ => ⟨_, sc_become (I := cw_st I2 1 1 0) hn h, _, sc_forgetAll, Or.inr rfl, rfl, rfl⟩⟩
/-- a text whose tokens are known, in the input buffer: adoptSetup, load -/
theorem fc_adopt (hFS : cw_FS (cw_Fc K) (cw_sd K) (cw_sv K)) (hFC : cw_FC K) {T : Nat → Int32} {L : Nat} (hL : L ≤ 600) (h11 : I 1 1 = nI L) (h2 : ∀ j, j < L → I 2 j = T j) (hm1 : 1 ≤ m) (hm : m ≤ 6) (hn1 : 1 ≤ n) (hn : n ≤ 24) {hk ha he : Nat → Nat} {tk ta te : Nat → Nat → Nat} (hh : zt_tok T L 0 (hk 0) (ha 0) (he 0) ∧ (∀ j, j < 3 → zt_tok T L (he j) (hk (j + 1)) (ha (j + 1)) (he (j + 1))) ∧ hk 0 = 1 ∧ he 0 - ha 0 = (cw_tx 0).length ∧ (∀ i, i < (cw_tx 0).length → T (ha 0 + i) = (cw_tx 0).getD i 0) ∧ hk 1 = 2 ∧ tp_nv T (ha 1) (he 1 - ha 1) = nI n ∧ hk 2 = 3 ∧ hk 3 = tk 0 0 ∧ ha 3 = ta 0 0 ∧ he 3 = te 0 0) (hz : zs_ok T L n m tk ta te) (hq : I 28 2 = nI q) (hq6 : q < 6) : ∃ J v, cw_C (cc_w K) mX10_adoptSetup [.ref (cw_a (cc_w K) 0)] I (some (.int 1)) J ∧ ps n m v (fun _ => -1) q 0 J ∧ J 5 1 = nI m ∧ J 1 1 = nI 0 ∧ ∀ o, 32 ≤ o → J o = I o := by
  have hTL : sp_TL L I (fun o => if o = 3 then T else if o = 0 then (fun p => if p = 4 then nI L else 0) else fun _ => 0) := ⟨hL, h11, rfl, fun j hj => h2 j hj⟩
  obtain ⟨I2, J2, hr, hf, h101, v, nl, nb, hs⟩ := zs_setup (K := K) hFS hFC hTL rfl hm1 hm hn1 hn hh hz
  obtain ⟨s1, -, -, -, -, -, -, -, s9, -⟩ := hs
  have fI := hf.1
  refine ⟨sp_ad (cw_st I2 1 1 0) n, v, ad_ok hn s1 hr, ⟨⟨s1, h101, hn, hm, fun s c hs hc => (s9 s c hc (Or.inl hs)).1, fun s c hs hc => ?_⟩, hn1, hm1, fun c hc => ?_, fun c _ => Or.inl rfl, ?_, hq6, rfl, by omega⟩, h101, rfl, fun o ho => ?_⟩
  · show va_cpy (I2 13) (I2 8) 0 0 144 (s * 24 + c) = _
    rw [sb_cpy0 (by omega)]
    exact (s9 s c hc (Or.inl hs)).2.1
  · show sp_put (I2 9) (-1) 0 n c = -1
    unfold sp_put
    rw [if_pos (by omega)]
  · show I2 28 2 = nI q
    rw [fI 28 (by omega) (by omega)]
    exact hq
  · rw [← fI o (by omega) (by omega)]
    unfold sp_ad sp_bc cw_st cw_up
    simp only [if_neg (show ¬ o = 29 by omega), if_neg (show ¬ o = 28 by omega), if_neg (show ¬ o = 9 by omega), if_neg (show ¬ o = 8 by omega), if_neg (show ¬ o = 7 by omega), if_neg (show ¬ o = 6 by omega), if_neg (show ¬ o = 5 by omega), if_neg (show ¬ o = 1 by omega)]
/-- the law's setup -/
theorem fc_load (hFS : cw_FS (cw_Fc K) (cw_sd K) (cw_sv K)) (hFC : cw_FC K) (hm1 : 1 ≤ m) (hm : m ≤ 5) (hn1 : 1 ≤ n) (hn : n ≤ 16) (hv : ∀ s c, v s c ≤ 9) (h11 : I 1 1 = nI (zp n m)) (h2 : ∀ j, j < zp n m → I 2 j = nI ((zx n v m).getD j 0)) (hq : I 28 2 = nI q) (hq6 : q < 6) : ∃ J v2, cw_C (cc_w K) mX10_load [.ref (cw_a (cc_w K) 0)] I (some (.int (nI m))) J ∧ ps n m v2 (fun _ => -1) q 0 J ∧ ∀ o, 32 ≤ o → J o = I o := by
  have hle := zp_le n hn hm
  obtain ⟨J, v2, j1, j2, j3, -, j4⟩ := fc_adopt (K := K) (I := I) (T := fun j => nI ((zx n v m).getD j 0)) hFS hFC (by omega) h11 h2 hm1 (by omega) hn1 (by omega) (zy_head hn1 hn hm1 hm (fun _ => rfl)) (zy_tok hn1 hn hm hv (fun _ => rfl)) hq hq6
  exact ⟨J, v2, eX10_load_0 ⟨_, _, j1, fun _ => ⟨by rw [j3], rfl⟩, fun z => absurd z (by decide)⟩, j2, j4⟩
end LDP
