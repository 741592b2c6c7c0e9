/-! THE WORLDS: the class's 32 cells in the order in which its constructor makes them; behind them the law's cake (32 the object, 33 the rows' array, 34 to 39 the rows, 40 the owners); behind those what the law makes while it runs. -/
abbrev cw_K : Type := Launch × va_G × (Nat → ClassId) × (Nat → Nat) × (Nat → Nat) × (Nat → Nat) × (Nat → Nat) × cw_F
/-- the addresses of the Verbs (none here), of the texts, of their bytes; what is known of them -/
abbrev cw_vd (K : cw_K) : Nat → Nat := K.2.2.2.2.1
abbrev cw_sd (K : cw_K) : Nat → Nat := K.2.2.2.2.2.1
abbrev cw_sv (K : cw_K) : Nat → Nat := K.2.2.2.2.2.2.1
abbrev cw_Fc (K : cw_K) : cw_F := K.2.2.2.2.2.2.2
abbrev cw_ad (K : cw_K) : Nat → Nat := K.2.2.2.1
/-- K, but cell k lies at q -/
def kset (K : cw_K) (k q : Nat) : cw_K := (K.1, K.2.1, K.2.2.1, (fun j => if j = k then q else K.2.2.2.1 j), K.2.2.2.2.1, K.2.2.2.2.2.1, K.2.2.2.2.2.2.1, K.2.2.2.2.2.2.2)
/-- a Verb by its code: 0 is null, j + 1 the j-th constant -/
def cw_vo (vd : Nat → Nat) (x : Int32) : Option Nat := if x = 0 then none else some (vd (x.toNatClampNeg - 1))
abbrev cw_ty (cy : Nat → ClassId) : List (ClassId × FieldType) := [(cy 0, .int), (cy 1, .boolean), (cy 2, .object RX9), (cy 3, .array .int), (cy 4, .byte)]
def cc_e (cy : Nat → ClassId) (ad vd : Nat → Nat) (k : Nat) (f : Nat → Int32) : va_E := match k with
  | 0 => .inr (10, [.ref (ad 1), .ref (ad 3), .ref (ad 5), .ref (ad 10), .ref (ad 15), .ref (ad 16), .ref (ad 20), .ref (ad 22), .ref (ad 25), .ref (ad 28)])
  | 1 => .inr (9, [.ref (ad 2), .int (f 1)])
  | 2 => .inl (cy 0, 600, .inl f)
  | 3 => .inr (9, [.ref (ad 4), .int (f 1)])
  | 4 => .inl (cy 0, 600, .inl f)
  | 5 => .inr (2, [.int (f 0), .int (f 1), .ref (ad 6), .ref (ad 7), .ref (ad 8), .ref (ad 9)])
  | 6 => .inl (cy 0, 36, .inl f)
  | 7 => .inl (cy 0, 6, .inl f)
  | 8 => .inl (cy 0, 144, .inl f)
  | 9 => .inl (cy 0, 24, .inl f)
  | 10 => .inr (2, [.int (f 0), .int (f 1), .ref (ad 11), .ref (ad 12), .ref (ad 13), .ref (ad 14)])
  | 11 => .inl (cy 0, 36, .inl f)
  | 12 => .inl (cy 0, 6, .inl f)
  | 13 => .inl (cy 0, 144, .inl f)
  | 14 => .inl (cy 0, 24, .inl f)
  | 15 => .inr (6, [.int (f 0), .int (f 1), .int (f 2), .int (f 3), .int (f 4), .int (f 5), .ref (ad 1)])
  | 16 => .inr (4, [.ref (ad 17), .ref (ad 18), .ref (ad 19), .ref (ad 5)])
  | 17 => .inl (cy 0, 6, .inl f)
  | 18 => .inl (cy 0, 6, .inl f)
  | 19 => .inl (cy 0, 36, .inl f)
  | 20 => .inr (7, [.ref (ad 21), .ref (ad 5)])
  | 21 => .inl (cy 0, 24, .inl f)
  | 22 => .inr (3, [.ref (ad 23), .ref (ad 24), .ref (ad 5)])
  | 23 => .inl (cy 0, 1600, .inl f)
  | 24 => .inl (cy 0, 64, .inl f)
  | 25 => .inr (8, [.int (f 0), .ref (ad 26), .ref (ad 27), .ref (ad 5), .ref (ad 16), .ref (ad 20)])
  | 26 => .inl (cy 2, 30, .inr (.inr (.inr (.inr (fun i => cw_vo vd (f i))))))
  | 27 => .inl (cy 0, 90, .inl f)
  | 28 => .inr (5, [.int (f 0), .ref (ad 29), .int (f 2), .ref (ad 30), .ref (ad 31)])
  | 29 => .inl (cy 1, 2, .inl f)
  | 30 => .inl (cy 0, 192, .inl f)
  | _ => .inl (cy 0, 1152, .inl f)
def cp_e (cy : Nat → ClassId) (ad vd : Nat → Nat) (k : Nat) (f : Nat → Int32) : va_E := match k with
  | 32 => .inr (11, [.ref (ad 0), .int (f 1), .int (f 2), .ref (ad 33), .ref (ad 40)])
  | 33 => .inl (cy 3, 6, .inr (.inr (.inr (.inr (fun i => if i < 6 then some (ad (34 + i)) else none)))))
  | 34 => .inl (cy 0, 24, .inl f)
  | 35 => .inl (cy 0, 24, .inl f)
  | 36 => .inl (cy 0, 24, .inl f)
  | 37 => .inl (cy 0, 24, .inl f)
  | 38 => .inl (cy 0, 24, .inl f)
  | 39 => .inl (cy 0, 24, .inl f)
  | 40 => .inl (cy 0, 24, .inl f)
  | _ => cc_e cy ad vd k f
def ck_e (cy : Nat → ClassId) (ad vd : Nat → Nat) (k : Nat) (f : Nat → Int32) : va_E := match k with
  | 41 => .inl (cy 1, 6, .inl f)
  | _ => cp_e cy ad vd k f
def ca_e (cy : Nat → ClassId) (ad vd : Nat → Nat) (k : Nat) (f : Nat → Int32) : va_E := match k with
  | 41 => .inl (cy 0, 6, .inl f)
  | _ => cp_e cy ad vd k f
def cb_e (cy : Nat → ClassId) (ad vd : Nat → Nat) (k : Nat) (f : Nat → Int32) : va_E := match k with
  | 42 => .inl (cy 0, 6, .inl f)
  | _ => ca_e cy ad vd k f
def cd_e (cy : Nat → ClassId) (ad vd : Nat → Nat) (k : Nat) (f : Nat → Int32) : va_E := match k with
  | 43 => .inl (cy 0, 24, .inl f)
  | _ => cb_e cy ad vd k f
abbrev cc_w (K : cw_K) : cw_G := (K.1, K.2.1, cw_ty K.2.2.1, K.2.2.2.1, cc_e K.2.2.1 K.2.2.2.1 K.2.2.2.2.1, 32, cw_Fc K)
abbrev cp_w (K : cw_K) : cw_G := (K.1, K.2.1, cw_ty K.2.2.1, K.2.2.2.1, cp_e K.2.2.1 K.2.2.2.1 K.2.2.2.2.1, 41, cw_Fc K)
abbrev ck_w (K : cw_K) : cw_G := (K.1, K.2.1, cw_ty K.2.2.1, K.2.2.2.1, ck_e K.2.2.1 K.2.2.2.1 K.2.2.2.2.1, 42, cw_Fc K)
abbrev ca_w (K : cw_K) : cw_G := (K.1, K.2.1, cw_ty K.2.2.1, K.2.2.2.1, ca_e K.2.2.1 K.2.2.2.1 K.2.2.2.2.1, 42, cw_Fc K)
abbrev cb_w (K : cw_K) : cw_G := (K.1, K.2.1, cw_ty K.2.2.1, K.2.2.2.1, cb_e K.2.2.1 K.2.2.2.1 K.2.2.2.2.1, 43, cw_Fc K)
abbrev cd_w (K : cw_K) : cw_G := (K.1, K.2.1, cw_ty K.2.2.1, K.2.2.2.1, cd_e K.2.2.1 K.2.2.2.1 K.2.2.2.2.1, 44, cw_Fc K)
abbrev ce_w (K : cw_K) : cw_G := (K.1, K.2.1, cw_ty K.2.2.1, (fun _ => 0), cc_e K.2.2.1 (fun _ => 0) (fun _ => 0), 0, cw_Fc K)
