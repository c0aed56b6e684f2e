/-! what the class's state and the reference's have in common between calls -/
/-- a drive with its sights, and a block of 56 numbers -/
def RB (f t p sn rn : Int32) (sg : Nat → Int32) (rt : Nat → Rot) (n : Int32) (to wh le : Nat → Int32) (b : Nat → Int32) : Prop :=
  ∃ (T P S R N : Nat), (T < 10000 ∧ 1 ≤ P ∧ P ≤ 9 ∧ S ≤ 16 ∧ R ≤ 4 ∧ N ≤ 6) ∧ (t = nI T ∧ p = nI P ∧ sn = nI S ∧ rn = nI R ∧ n = nI N) ∧
    (b 0 = f ∧ b 17 = nI S ∧ b 18 = nI P ∧ b 19 = nI T ∧ b 36 = nI R ∧ b 37 = nI N) ∧
    (∀ i, i < S → b (1 + i) = sg i ∧ ∃ v, v < 4 ∧ sg i = nI v) ∧
    (∀ r, r < R → (b (20 + 4 * r) = (rt r).1 ∧ b (20 + 4 * r + 1) = (rt r).2.1 ∧ b (20 + 4 * r + 2) = (rt r).2.2.1 ∧ b (20 + 4 * r + 3) = (rt r).2.2.2) ∧ (∃ k, k < 4 ∧ (rt r).1 = nI k) ∧ (∃ k, k < 4 ∧ (rt r).2.1 = nI k) ∧ (-(30000 + 2 * T : Int) ≤ (rt r).2.2.1.toInt ∧ (rt r).2.2.1.toInt ≤ 30000 + 2 * T)) ∧
    (∀ i, i < N → (b (38 + 3 * i) = to i ∧ b (38 + 3 * i + 1) = wh i ∧ b (38 + 3 * i + 2) = le i) ∧ (∃ k, k ≤ 40 ∧ to i = nI k) ∧ (∃ k, k < R ∧ wh i = nI k) ∧ (∃ k, k < 8 ∧ le i = nI k)) ∧
    (-(2 * T : Int) ≤ f.toInt ∧ f.toInt ≤ 2 * T)
/-- the tape's bytes -/
def RT (len : Int32) (by_ : Nat → Int32) (tp : Int32) (ta : Nat → Int32) : Prop :=
  ∃ n : Nat, n ≤ 160 ∧ len = nI n ∧ tp = nI n ∧ ∀ i, i < n → by_ i = ta i ∧ ∃ v, v < 128 ∧ ta i = nI v
/-- an image -/
def RI (k : Int32) (f t p sn rn : Int32) (sg : Nat → Int32) (rt : Nat → Rot) (n : Int32) (to wh le : Nat → Int32) (mk : Int32) (b : Nat → Int32) : Prop :=
  mk = k ∧ (k = 0 ∨ (k = 1 ∧ RB f t p sn rn sg rt n to wh le b))
/-- the sheets -/
def RS (sh : Nat → Sht) (la si ce : Nat → Int32) : Prop :=
  ∀ k, k < 4 → ((sh k).1 = -1 ∧ la k = -4) ∨ ∃ (a z : Nat), a < 3 ∧ z ≤ 40 ∧ (sh k).1 = nI a ∧ la k = nI a ∧ (sh k).2.1 = nI z ∧ si k = nI z ∧ ∀ i, i < 40 → ce (40 * k + i) = (sh k).2.2 i
def Rel (rf len fl : Int32) (by_ : Nat → Int32) (f t p sn rn : Int32) (sg : Nat → Int32) (rt : Nat → Rot) (n : Int32) (to wh le : Nat → Int32)
    (k0 f0 t0 p0 sn0 rn0 : Int32) (sg0 : Nat → Int32) (rt0 : Nat → Rot) (n0 : Int32) (to0 wh0 le0 : Nat → Int32)
    (k1 f1 t1 p1 sn1 rn1 : Int32) (sg1 : Nat → Int32) (rt1 : Nat → Rot) (n1 : Int32) (to1 wh1 le1 : Nat → Int32) (sh : Nat → Sht)
    (tp mf tn : Int32) (st kp ta la si ce : Nat → Int32) : Prop :=
  (rf = tn ∧ fl = mf) ∧ RT len by_ tp ta ∧ RB f t p sn rn sg rt n to wh le st ∧
  RI k0 f0 t0 p0 sn0 rn0 sg0 rt0 n0 to0 wh0 le0 (kp 0) (fun j => st (56 + j)) ∧ RI k1 f1 t1 p1 sn1 rn1 sg1 rt1 n1 to1 wh1 le1 (kp 1) (fun j => st (112 + j)) ∧ RS sh la si ce
