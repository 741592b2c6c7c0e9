/-! ## what the law carries along: the class's ints I and the reference's ints J hold the same -/
/-- an owner of k siblings' cake -/
def sp_okw (k : Nat) (x : Int32) : Prop := x = -1 ∨ ∃ s, s < k ∧ x = nI s
def sp_GD (n k : Nat) (v : Nat → Nat → Nat) (ow : Nat → Int32) : Prop := sp_dig v n k ∧ ∀ c, c < n → sp_okw k (ow c)
/-- a block of the reference -/
def sp_BK (n k : Nat) (v : Nat → Nat → Nat) (ow : Nat → Int32) (nl : Nat → Nat) (nb : Nat → Nat → Int32) (f : Nat → Int32) : Prop :=
  f 0 = nI n ∧ f 1 = nI k ∧ (∀ c, c < n → f (2 + c) = ow c) ∧ (∀ s c, s < k → c < n → f (33 + s * 31 + c) = nI (v s c)) ∧ ∀ s, s < k → f (26 + s * 31) = nI (nl s) ∧ ∀ i, i < nl s → f (27 + s * 31 + i) = nb s i
/-- owners and values of the class -/
def sp_PL (n k : Nat) (v : Nat → Nat → Nat) (ow : Nat → Int32) (fo fv : Nat → Int32) : Prop := (∀ c, c < n → fo c = ow c) ∧ ∀ s c, s < k → c < n → fv (s * 24 + c) = nI (v s c)
/-- the class's place p and the reference's block b hold the same earlier state -/
def sp_PB (n k : Nat) (nl : Nat → Nat) (nb : Nat → Nat → Int32) (fo fv m : Nat → Int32) (p b : Nat) : Prop := ∃ (v : Nat → Nat → Nat) (ow : Nat → Int32), sp_GD n k v ow ∧ sp_PL n k v ow (fun c => fo (p * 24 + c)) (fun j => fv (p * 144 + j)) ∧ sp_BK n k v ow nl nb (fun j => m (b * 212 + j))
def sp_NM (k : Nat) (nl : Nat → Nat) (nb : Nat → Nat → Int32) (c6 c7 : Nat → Int32) : Prop := ∀ s, s < k → nl s ≤ 6 ∧ c7 s = nI (nl s) ∧ ∀ i, i < nl s → c6 (s * 6 + i) = nb s i
/-- the cake of now -/
def sp_RC (n k : Nat) (v : Nat → Nat → Nat) (ow : Nat → Int32) (nl : Nat → Nat) (nb : Nat → Nat → Int32) (I : cw_M) (m : Nat → Int32) : Prop := 1 ≤ n ∧ n ≤ 24 ∧ 1 ≤ k ∧ k ≤ 6 ∧ sp_GD n k v ow ∧ I 5 0 = nI n ∧ I 5 1 = nI k ∧ sp_PL n k v ow (I 9) (I 8) ∧ sp_NM k nl nb (I 6) (I 7) ∧ sp_BK n k v ow nl nb m
/-- the earlier states -/
def sp_RU (n k : Nat) (nl : Nat → Nat) (nb : Nat → Nat → Int32) (u q : Nat) (I : cw_M) (ju : Int32) (m js : Nat → Int32) : Prop := I 28 0 = nI u ∧ I 28 2 = nI q ∧ ju = nI u ∧ u ≤ 6 ∧ q < 6 ∧ (∀ i, i < u → sp_PB n k nl nb (I 30) (I 31) m ((q + 6 - u + i) % 6) (i + 1)) ∧ ∀ t, t < 2 → (I 29 t = 0 ∧ js t = 0) ∨ (I 29 t = 1 ∧ js t = 1 ∧ sp_PB n k nl nb (I 30) (I 31) m (6 + t) (7 + t))
def sp_RE (I J : cw_M) : Prop := I 15 0 = J 0 5 ∧ I 15 1 = J 0 6
section REL
variable {n k u q : Nat} {v : Nat → Nat → Nat} {ow : Nat → Int32} {nl : Nat → Nat} {nb : Nat → Nat → Int32}
end REL
section RELQ
variable {K : cw_K} {I J : cw_M}
end RELQ
