/-! ## the best least, in numbers -/
/-- where the piece from c ends that is worth t; a: what it is worth so far; d: cells left -/
def sp_ep (x : Nat → Nat) (t : Nat) : Nat → Nat → Nat → Nat
  | 0, c, _ => c + 1
  | d + 1, c, a => if t ≤ a + x c then c + 1 else sp_ep x t d (c + 1) (a + x c)
def sp_E2 (v : Nat → Nat → Nat) (n t s c : Nat) : Nat := if n < c then n + 1 else sp_ep (v s) t (n - c) c 0
theorem sp_s_head (f : Nat → Nat) : ∀ m, sp_s f (m + 1) = f 0 + sp_s (fun j => f (j + 1)) m
  | 0 => by show 0 + f 0 = f 0 + 0; omega
  | m + 1 => by
    show sp_s f (m + 1) + f (m + 1) = f 0 + (sp_s (fun j => f (j + 1)) m + f (m + 1))
    rw [sp_s_head f m]
    omega
theorem sp_W_head (x : Nat → Nat) {c e : Nat} (h : c < e) : sp_W x c e = x c + sp_W x (c + 1) e := by
  show sp_s (fun j => x (c + j)) (e - c) = x c + sp_s (fun j => x (c + 1 + j)) (e - (c + 1))
  rw [show e - c = (e - (c + 1)) + 1 by omega, sp_s_head]
  rw [sp_s_congr (f := fun j => x (c + (j + 1))) (g := fun j => x (c + 1 + j)) (fun j _ => by show x (c + (j + 1)) = x (c + 1 + j); rw [show c + (j + 1) = c + 1 + j by omega])]
  rfl
theorem sp_W_nil (x : Nat → Nat) (c : Nat) : sp_W x c c = 0 := by
  show sp_s _ (c - c) = 0
  rw [Nat.sub_self]
  rfl
theorem sp_W_anti (x : Nat → Nat) {e : Nat} : ∀ m c, c + m ≤ e → sp_W x (c + m) e ≤ sp_W x c e
  | 0, _, _ => Nat.le_refl _
  | m + 1, c, h => by
    have h1 := sp_W_anti x (e := e) m (c + 1) (by omega)
    rw [sp_W_head x (show c < e by omega)]
    rw [show c + (m + 1) = c + 1 + m by omega]
    omega
theorem sp_ep_le {x : Nat → Nat} {t : Nat} : ∀ d c a, sp_ep x t d c a ≤ c + d + 1
  | 0, c, a => Nat.le_refl _
  | d + 1, c, a => by
    have h1 := sp_ep_le (x := x) (t := t) d (c + 1) (a + x c)
    show (if t ≤ a + x c then c + 1 else sp_ep x t d (c + 1) (a + x c)) ≤ _
    split <;> omega
theorem sp_ep_iff {x : Nat → Nat} {t : Nat} : ∀ d c a e, a < t → e ≤ c + d → (sp_ep x t d c a ≤ e ↔ c ≤ e ∧ t ≤ a + sp_W x c e)
  | 0, c, a, e, ha, he => by
    show c + 1 ≤ e ↔ _
    constructor
    · intro h; omega
    · intro h
      have : e = c := by omega
      subst this
      rw [sp_W_nil] at h
      omega
  | d + 1, c, a, e, ha, he => by
    show (if t ≤ a + x c then c + 1 else sp_ep x t d (c + 1) (a + x c)) ≤ e ↔ _
    by_cases z : t ≤ a + x c
    · rw [if_pos z]
      constructor
      · intro h
        rw [sp_W_head x (show c < e by omega)]
        omega
      · intro h
        by_cases y : e = c
        · subst y
          rw [sp_W_nil] at h
          omega
        · omega
    · rw [if_neg z, sp_ep_iff d (c + 1) (a + x c) e (by omega) (by omega)]
      constructor
      · intro h
        rw [sp_W_head x (show c < e by omega)]
        omega
      · intro h
        by_cases y : e = c
        · subst y
          rw [sp_W_nil] at h
          omega
        · rw [sp_W_head x (show c < e by omega)] at h
          omega
theorem sp_E2_le {v : Nat → Nat → Nat} {n t s c : Nat} : sp_E2 v n t s c ≤ n + 1 := by
  unfold sp_E2
  by_cases z : n < c
  · rw [if_pos z]; exact Nat.le_refl _
  · rw [if_neg z]
    have := sp_ep_le (x := v s) (t := t) (n - c) c 0
    omega
theorem sp_E2_iff {v : Nat → Nat → Nat} {n t s c e : Nat} (ht : 1 ≤ t) (he : e ≤ n) : sp_E2 v n t s c ≤ e ↔ c ≤ e ∧ t ≤ sp_W (v s) c e := by
  unfold sp_E2
  by_cases z : n < c
  · rw [if_pos z]
    constructor
    · intro h; omega
    · intro h; omega
  · rw [if_neg z, sp_ep_iff (n - c) c 0 e (by omega) (by omega), Nat.zero_add]
theorem sp_E2_mono {v : Nat → Nat → Nat} {n t t' s c c' : Nat} (ht : 1 ≤ t) (htt : t ≤ t') (hc : c ≤ c') : sp_E2 v n t s c ≤ sp_E2 v n t' s c' := by
  by_cases z : sp_E2 v n t' s c' ≤ n
  · have h1 := (sp_E2_iff (v := v) (s := s) (c := c') (show 1 ≤ t' by omega) z).mp (Nat.le_refl _)
    refine (sp_E2_iff ht z).mpr ⟨by omega, ?_⟩
    have h2 := sp_W_anti (v s) (e := sp_E2 v n t' s c') (c' - c) c (by omega)
    rw [show c + (c' - c) = c' by omega] at h2
    omega
  · have h1 := sp_E2_le (v := v) (n := n) (t := t) (s := s) (c := c)
    omega
/-- where the pieces end that are cut in the order l -/
def sp_gr (v : Nat → Nat → Nat) (n t : Nat) : List Nat → Nat → Nat
  | [], c => c
  | s :: l, c => sp_gr v n t l (sp_E2 v n t s c)
theorem sp_gr_app {v : Nat → Nat → Nat} {n t s : Nat} : ∀ (l : List Nat) (c : Nat), sp_gr v n t (l ++ [s]) c = sp_E2 v n t s (sp_gr v n t l c)
  | [], _ => rfl
  | a :: l, c => sp_gr_app l (sp_E2 v n t a c)
theorem sp_gr_mono {v : Nat → Nat → Nat} {n t t' : Nat} (ht : 1 ≤ t) (htt : t ≤ t') : ∀ (l : List Nat) (c c' : Nat), c ≤ c' → sp_gr v n t l c ≤ sp_gr v n t' l c'
  | [], _, _, h => h
  | a :: l, c, c', h => sp_gr_mono ht htt l _ _ (sp_E2_mono ht htt h)
/-- the least end for the group G, its siblings below s tried -/
def sp_lm (v : Nat → Nat → Nat) (n t : Nat) (T : Nat → Nat) (G : Nat) : Nat → Nat
  | 0 => n + 1
  | s + 1 => if G.testBit s = true then min (sp_lm v n t T G s) (sp_E2 v n t s (T (G - 2 ^ s))) else sp_lm v n t T G s
theorem sp_lm_max {v : Nat → Nat → Nat} {n t : Nat} {T : Nat → Nat} {G : Nat} : ∀ {s : Nat}, sp_lm v n t T G s ≤ n + 1
  | 0 => Nat.le_refl _
  | s + 1 => by
    have h := sp_lm_max (v := v) (n := n) (t := t) (T := T) (G := G) (s := s)
    show (if G.testBit s = true then min (sp_lm v n t T G s) (sp_E2 v n t s (T (G - 2 ^ s))) else sp_lm v n t T G s) ≤ n + 1
    split <;> omega
theorem sp_lm_congr {v : Nat → Nat → Nat} {n t : Nat} {T U : Nat → Nat} {G : Nat} (h : ∀ H, H < G → T H = U H) : ∀ s, sp_lm v n t T G s = sp_lm v n t U G s
  | 0 => rfl
  | s + 1 => by
    show (if G.testBit s = true then min (sp_lm v n t T G s) (sp_E2 v n t s (T (G - 2 ^ s))) else sp_lm v n t T G s) = (if G.testBit s = true then min (sp_lm v n t U G s) (sp_E2 v n t s (U (G - 2 ^ s))) else sp_lm v n t U G s)
    rw [sp_lm_congr h s]
    by_cases z : G.testBit s = true
    · have h2 : 2 ^ s ≤ G := Nat.ge_two_pow_of_testBit z
      have h3 := Nat.two_pow_pos s
      rw [if_pos z, if_pos z, h (G - 2 ^ s) (by omega)]
    · rw [if_neg z, if_neg z]
theorem sp_lm_le {v : Nat → Nat → Nat} {n t : Nat} {T : Nat → Nat} {G s : Nat} (hb : G.testBit s = true) : ∀ {m : Nat}, s < m → sp_lm v n t T G m ≤ sp_E2 v n t s (T (G - 2 ^ s))
  | 0, h => absurd h (Nat.not_lt_zero s)
  | m + 1, h => by
    show (if G.testBit m = true then min (sp_lm v n t T G m) (sp_E2 v n t m (T (G - 2 ^ m))) else sp_lm v n t T G m) ≤ _
    by_cases z : s = m
    · subst z
      rw [if_pos hb]
      exact Nat.min_le_right _ _
    · have h1 := sp_lm_le (v := v) (n := n) (t := t) (T := T) hb (show s < m by omega)
      split
      · exact Nat.le_trans (Nat.min_le_left _ _) h1
      · exact h1
theorem sp_lm_is {v : Nat → Nat → Nat} {n t : Nat} {T : Nat → Nat} {G : Nat} : ∀ m, sp_lm v n t T G m = n + 1 ∨ ∃ s, s < m ∧ G.testBit s = true ∧ sp_lm v n t T G m = sp_E2 v n t s (T (G - 2 ^ s))
  | 0 => Or.inl rfl
  | m + 1 => by
    have h := sp_lm_is (v := v) (n := n) (t := t) (T := T) (G := G) m
    have e : sp_lm v n t T G (m + 1) = if G.testBit m = true then min (sp_lm v n t T G m) (sp_E2 v n t m (T (G - 2 ^ m))) else sp_lm v n t T G m := rfl
    rw [e]
    have old : sp_lm v n t T G m = n + 1 ∨ ∃ s, s < m + 1 ∧ G.testBit s = true ∧ sp_lm v n t T G m = sp_E2 v n t s (T (G - 2 ^ s)) := by
      rcases h with h | ⟨s, h1, h2, h3⟩
      · exact Or.inl h
      · exact Or.inr ⟨s, by omega, h2, h3⟩
    by_cases z : G.testBit m = true
    · rw [if_pos z]
      by_cases y : sp_lm v n t T G m ≤ sp_E2 v n t m (T (G - 2 ^ m))
      · rw [Nat.min_eq_left y]
        exact old
      · rw [Nat.min_eq_right (by omega)]
        exact Or.inr ⟨m, by omega, z, rfl⟩
    · rw [if_neg z]
      exact old
/-- the least ends of the groups below G -/
def sp_ln (v : Nat → Nat → Nat) (n k t : Nat) : Nat → Nat → Nat
  | 0 => fun _ => 0
  | G + 1 => fun H => if H = G ∧ 1 ≤ G then sp_lm v n t (sp_ln v n k t G) G k else sp_ln v n k t G H
abbrev sp_L (v : Nat → Nat → Nat) (n k t G : Nat) : Nat := sp_ln v n k t (G + 1) G
theorem sp_ln_keep {v : Nat → Nat → Nat} {n k t H : Nat} : ∀ {G : Nat}, H < G → sp_ln v n k t G H = sp_L v n k t H
  | 0, h => absurd h (Nat.not_lt_zero H)
  | G + 1, h => by
    by_cases z : H = G
    · subst z; rfl
    · show (if H = G ∧ 1 ≤ G then _ else sp_ln v n k t G H) = _
      rw [if_neg (fun y => z y.1)]
      exact sp_ln_keep (by omega)
theorem sp_L_0 {v : Nat → Nat → Nat} {n k t : Nat} : sp_L v n k t 0 = 0 := rfl
theorem sp_L_eq {v : Nat → Nat → Nat} {n k t G : Nat} (hG : 1 ≤ G) : sp_L v n k t G = sp_lm v n t (sp_L v n k t) G k := by
  show (if G = G ∧ 1 ≤ G then sp_lm v n t (sp_ln v n k t G) G k else _) = _
  rw [if_pos ⟨rfl, hG⟩]
  exact sp_lm_congr (fun H hH => sp_ln_keep hH) k
theorem sp_L_le {v : Nat → Nat → Nat} {n k t G : Nat} : sp_L v n k t G ≤ n + 1 := by
  by_cases z : 1 ≤ G
  · rw [sp_L_eq z]; exact sp_lm_max
  · have : G = 0 := by omega
    subst this
    exact Nat.zero_le _
/-- all orders of the group G, of m members -/
def sp_or (k : Nat) : Nat → Nat → List (List Nat)
  | 0, _ => [[]]
  | m + 1, G => (List.range k).flatMap fun s => if G.testBit s = true then (sp_or k m (G - 2 ^ s)).map (fun l => l ++ [s]) else []
abbrev sp_pc (k G : Nat) : Nat := sp_n (fun s => G.testBit s = true) k
theorem sp_pc_dec : ∀ k, k < 7 → ∀ G, G < 2 ^ k → (sp_pc k G = 0 → G = 0) ∧ ∀ s, s < k → G.testBit s = true → sp_pc k (G - 2 ^ s) + 1 = sp_pc k G := by decide +kernel
theorem sp_pc_all : ∀ k, k < 7 → sp_pc k (2 ^ k - 1) = k := by decide +kernel
theorem sp_or_spec {v : Nat → Nat → Nat} {n k t : Nat} (hk : k < 7) (ht : 1 ≤ t) : ∀ m G, G < 2 ^ k → sp_pc k G = m → (∀ l ∈ sp_or k m G, sp_L v n k t G ≤ sp_gr v n t l 0) ∧ (sp_L v n k t G = n + 1 ∨ ∃ l ∈ sp_or k m G, sp_gr v n t l 0 = sp_L v n k t G)
  | 0, G, hG, hm => by
    have e := (sp_pc_dec k hk G hG).1 hm
    subst e
    exact ⟨fun l _ => Nat.zero_le _, Or.inr ⟨[], List.mem_singleton.mpr rfl, rfl⟩⟩
  | m + 1, G, hG, hm => by
    have hd := (sp_pc_dec k hk G hG).2
    have hG1 : 1 ≤ G := by
      apply Nat.lt_of_not_le
      intro z
      have : G = 0 := Nat.le_zero.mp z
      subst this
      have h0 : ∀ j, sp_pc j 0 = 0 := fun j => by
        induction j with
        | zero => rfl
        | succ j ih =>
          show sp_pc j 0 + (if Nat.testBit 0 j = true then 1 else 0) = 0
          rw [ih, Nat.zero_testBit, if_neg (by decide)]
      rw [h0] at hm
      omega
    have mem : ∀ l, l ∈ sp_or k (m + 1) G ↔ ∃ s, s < k ∧ G.testBit s = true ∧ ∃ l', l' ∈ sp_or k m (G - 2 ^ s) ∧ l' ++ [s] = l := by
      intro l
      show l ∈ (List.range k).flatMap _ ↔ _
      rw [List.mem_flatMap]
      constructor
      · rintro ⟨s, h1, h2⟩
        by_cases z : G.testBit s = true
        · rw [if_pos z, List.mem_map] at h2
          obtain ⟨l', h3, h4⟩ := h2
          exact ⟨s, List.mem_range.mp h1, z, l', h3, h4⟩
        · rw [if_neg z] at h2
          cases h2
      · rintro ⟨s, h1, z, l', h3, h4⟩
        refine ⟨s, List.mem_range.mpr h1, ?_⟩
        rw [if_pos z]
        exact List.mem_map.mpr ⟨l', h3, h4⟩
    have hlt : ∀ s, G - 2 ^ s < 2 ^ k := fun s => Nat.lt_of_le_of_lt (Nat.sub_le _ _) hG
    refine ⟨fun l hl => ?_, ?_⟩
    · obtain ⟨s, h1, h2, l', h3, h4⟩ := (mem l).mp hl
      have ih := (sp_or_spec (v := v) (n := n) (t := t) hk ht m (G - 2 ^ s) (hlt s) (by have := hd s h1 h2; omega)).1 l' h3
      rw [← h4, sp_gr_app, sp_L_eq hG1]
      exact Nat.le_trans (sp_lm_le h2 h1) (sp_E2_mono ht (Nat.le_refl t) ih)
    · rcases sp_lm_is (v := v) (n := n) (t := t) (T := sp_L v n k t) (G := G) k with h | ⟨s, h1, h2, h3⟩
      · exact Or.inl (by rw [sp_L_eq hG1]; exact h)
      · rw [sp_L_eq hG1, h3]
        rcases (sp_or_spec (v := v) (n := n) (t := t) hk ht m (G - 2 ^ s) (hlt s) (by have := hd s h1 h2; omega)).2 with h4 | ⟨l', h5, h6⟩
        · refine Or.inl ?_
          rw [h4]
          unfold sp_E2
          rw [if_pos (by omega)]
        · refine Or.inr ⟨l' ++ [s], (mem _).mpr ⟨s, h1, h2, l', h5, rfl⟩, ?_⟩
          rw [sp_gr_app, h6]
/-- the orders in turn -/
def sp_dn (l : List Nat) : Nat → Option Nat
  | 0 => none
  | j + 1 => if l.getD j 0 ≤ l.getD (j + 1) 0 then some j else sp_dn l j
def sp_hi (l : List Nat) (a : Nat) : Nat → Nat
  | 0 => 0
  | i + 1 => if a ≤ l.getD (i + 1) 0 then i + 1 else sp_hi l a i
def sp_sw (l : List Nat) (a b : Nat) : List Nat := (l.set a (l.getD b 0)).set b (l.getD a 0)
def sp_rv2 : Nat → List Nat → Nat → Nat → List Nat
  | 0, l, _, _ => l
  | m + 1, l, a, b => if b ≤ a then l else sp_rv2 m (sp_sw l a b) (a + 1) (b - 1)
def sp_nxl (k : Nat) (l : List Nat) : Option (List Nat) := match sp_dn l (k - 1) with
  | none => none
  | some j => some (sp_rv2 k (sp_sw l j (sp_hi l (l.getD j 0) (k - 1))) (j + 1) (k - 1))
def sp_en (k : Nat) : Nat → List Nat → List (List Nat)
  | 0, _ => []
  | m + 1, l => l :: match sp_nxl k l with
    | none => []
    | some l2 => sp_en k m l2
def sp_fin (k : Nat) : Nat → List Nat → Bool
  | 0, _ => false
  | m + 1, l => match sp_nxl k l with
    | none => true
    | some l2 => sp_fin k m l2
theorem sp_en_fin : ∀ k, k < 7 → sp_fin k 720 (List.range k) = true := by decide +kernel
theorem sp_en_ok : ∀ k, k < 7 → (sp_en k 720 (List.range k)).all (fun l => l.length == k && l.all (fun s => decide (s < k))) = true := by decide +kernel
def sp_eqL : List Nat → List Nat → Bool
  | [], [] => true
  | a :: l, b :: m => Nat.beq a b && sp_eqL l m
  | _, _ => false
theorem sp_eqL_eq : ∀ {l m : List Nat}, sp_eqL l m = true → l = m
  | [], [], _ => rfl
  | a :: l, b :: m, h => by
    have h1 : (Nat.beq a b && sp_eqL l m) = true := h
    rw [Bool.and_eq_true] at h1
    rw [Nat.eq_of_beq_eq_true h1.1, sp_eqL_eq h1.2]
  | [], _ :: _, h => by cases h
  | _ :: _, [], h => by cases h
/-- an order as a number, and back -/
def sp_cd : List Nat → Nat → Nat
  | [], a => a
  | s :: l, a => sp_cd l (a * 6 + s)
def sp_dc : Nat → Nat → List Nat → List Nat
  | 0, _, r => r
  | k + 1, c, r => sp_dc k (c / 6) (c % 6 :: r)
def sp_bs : List (List Nat) → Nat
  | [] => 0
  | l :: r => 2 ^ (sp_cd l 0) ||| sp_bs r
theorem sp_bs_mem {c : Nat} : ∀ {L : List (List Nat)}, (sp_bs L).testBit c = true → ∃ l, l ∈ L ∧ sp_cd l 0 = c
  | [], h => by
    have h1 : Nat.testBit 0 c = true := h
    rw [Nat.zero_testBit] at h1
    cases h1
  | l :: r, h => by
    have h1 : (2 ^ (sp_cd l 0) ||| sp_bs r).testBit c = true := h
    rw [Nat.testBit_or, Bool.or_eq_true] at h1
    rcases h1 with h1 | h1
    · rw [Nat.testBit_two_pow] at h1
      exact ⟨l, List.mem_cons_self, of_decide_eq_true h1⟩
    · obtain ⟨l2, h2, h3⟩ := sp_bs_mem h1
      exact ⟨l2, List.mem_cons_of_mem _ h2, h3⟩
def sp_force (b : Nat) (f : Nat → Bool) : Bool := match b with
  | 0 => f 0
  | b + 1 => f (b + 1)
theorem sp_force_eq {b : Nat} {f : Nat → Bool} (h : sp_force b f = true) : f b = true := by
  cases b with
  | zero => exact h
  | succ b => exact h
def sp_sub2 (k : Nat) (A B : List (List Nat)) : Bool := (A.all fun l => sp_eqL (sp_dc k (sp_cd l 0) []) l) && ((B.all fun l => sp_eqL (sp_dc k (sp_cd l 0) []) l) && sp_force (sp_bs B) fun b => A.all fun l => b.testBit (sp_cd l 0))
theorem sp_sub2_mem {k : Nat} {A B : List (List Nat)} (h : sp_sub2 k A B = true) {l : List Nat} (hl : l ∈ A) : l ∈ B := by
  unfold sp_sub2 at h
  rw [Bool.and_eq_true, Bool.and_eq_true] at h
  obtain ⟨h1, h2, h3⟩ := h
  have h4 := List.all_eq_true.mp (sp_force_eq h3) l hl
  obtain ⟨l2, h5, h6⟩ := sp_bs_mem h4
  have h7 := sp_eqL_eq (List.all_eq_true.mp h1 l hl)
  have h8 := sp_eqL_eq (List.all_eq_true.mp h2 l2 h5)
  rw [← h7, ← h6, h8]
  exact h5
theorem sp_en_or : ∀ k, k < 7 → sp_sub2 k (sp_or k k (2 ^ k - 1)) (sp_en k 720 (List.range k)) = true := by decide +kernel
theorem sp_or_en : ∀ k, k < 7 → sp_sub2 k (sp_en k 720 (List.range k)) (sp_or k k (2 ^ k - 1)) = true := by decide +kernel
/-- each can have t: of the class's table, of the reference's orders -/
theorem sp_can_iff {v : Nat → Nat → Nat} {n k t : Nat} (hk : k < 7) (ht : 1 ≤ t) : sp_L v n k t (2 ^ k - 1) ≤ n ↔ ∃ l ∈ sp_en k 720 (List.range k), sp_gr v n t l 0 ≤ n := by
  have hp := Nat.two_pow_pos k
  obtain ⟨h1, h2⟩ := sp_or_spec (v := v) (n := n) hk ht k (2 ^ k - 1) (by omega) (sp_pc_all k hk)
  constructor
  · intro h
    rcases h2 with h2 | ⟨l, h3, h4⟩
    · omega
    · exact ⟨l, sp_sub2_mem (sp_en_or k hk) h3, by omega⟩
  · rintro ⟨l, h3, h4⟩
    have := h1 l (sp_sub2_mem (sp_or_en k hk) h3)
    omega
