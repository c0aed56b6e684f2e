/-! plain facts on numbers -/
theorem fb_rng (x : Int32) : -2147483648 ≤ x.toInt ∧ x.toInt < 2147483648 := by
  have h1 := Int32.le_toInt x
  have h2 := Int32.toInt_lt x
  omega
theorem fb_bmod {z : Int} (h1 : -2147483648 ≤ z) (h2 : z < 2147483648) : z.bmod (2 ^ 32) = z := by
  rw [Int.bmod_eq_of_le (by omega) (by omega)]
theorem fb_addI {x y : Int32} (h1 : -2147483648 ≤ x.toInt + y.toInt) (h2 : x.toInt + y.toInt < 2147483648) : (x + y).toInt = x.toInt + y.toInt := by
  rw [Int32.toInt_add, fb_bmod h1 h2]
theorem fb_subI {x y : Int32} (h1 : -2147483648 ≤ x.toInt - y.toInt) (h2 : x.toInt - y.toInt < 2147483648) : (x - y).toInt = x.toInt - y.toInt := by
  rw [Int32.toInt_sub, fb_bmod h1 h2]
theorem fb_mulI {x y : Int32} (h1 : -2147483648 ≤ x.toInt * y.toInt) (h2 : x.toInt * y.toInt < 2147483648) : (x * y).toInt = x.toInt * y.toInt := by
  rw [Int32.toInt_mul, fb_bmod h1 h2]
theorem fb_negI {x : Int32} (h : x.toInt ≠ -2147483648) : (-x).toInt = -x.toInt := by
  have := fb_rng x
  rw [Int32.toInt_neg, fb_bmod (by omega) (by omega)]
theorem i_lt (a b : Int32) : a < b ↔ a.toInt < b.toInt := Int32.lt_iff_toInt_lt
theorem i_le (a b : Int32) : a ≤ b ↔ a.toInt ≤ b.toInt := Int32.le_iff_toInt_le
theorem i_eq (a b : Int32) : a = b ↔ a.toInt = b.toInt := Int32.toInt_inj.symm
theorem wide_lt (a b : Int32) : a.toInt64 < b.toInt64 ↔ a < b := by
  rw [Int64.lt_iff_toInt_lt, i_lt, Int32.toInt_toInt64, Int32.toInt_toInt64]
/-- an index that is a number of its own -/
theorem inb_nI {n N : Nat} (h : n < N) (hN : N < 2 ^ 31) : inb (nI n) N := vp_in_nI h hN
theorem inb_of {x : Int32} {N : Nat} (h : inb x N) (hN : N < 2 ^ 31) : ∃ j : Nat, j < N ∧ x = nI j := vp_in_of h hN
theorem cl_nI {n : Nat} (h : n < 2 ^ 31) : (nI n).toNatClampNeg = n := nI_clamp h
/-- what a number leaves by eight -/
def e8 (x : Int32) : Nat := x.toBitVec.toNat % 8
theorem e8_lt (x : Int32) : e8 x < 8 := Nat.mod_lt _ (by decide)
theorem toInt_bv (x : Int32) : x.toInt = if 2 * x.toBitVec.toNat < 2 ^ 32 then (x.toBitVec.toNat : Int) else (x.toBitVec.toNat : Int) - 2 ^ 32 := by
  show x.toBitVec.toInt = _
  rw [BitVec.toInt_eq_toNat_cond]
  simp
theorem e8_int (x : Int32) : (e8 x : Int) = x.toInt % 8 := by
  unfold e8
  have h := toInt_bv x
  split at h <;> omega
theorem irem8_int (x : Int32) : (irem x 8).toInt = x.toInt.tmod 8 := by
  have hr := fb_rng x
  have h8 : (8 : Int32).toInt = 8 := by decide
  have hd : (x / 8).toInt = x.toInt.tdiv 8 := by
    rw [Int32.toInt_div, h8]
    have h1 := Int.tdiv_mul_add_tmod x.toInt 8
    have h2 : -8 < x.toInt.tmod 8 ∧ x.toInt.tmod 8 < 8 := tmod_bounds (by decide)
    exact fb_bmod (by omega) (by omega)
  have h1 := Int.tdiv_mul_add_tmod x.toInt 8
  have h2 : -8 < x.toInt.tmod 8 ∧ x.toInt.tmod 8 < 8 := tmod_bounds (by decide)
  have h3 : 0 ≤ x.toInt → 0 ≤ x.toInt.tmod 8 := fun h => Int.tmod_nonneg 8 h
  have h4 : x.toInt ≤ 0 → x.toInt.tmod 8 ≤ 0 := fun h => by
    have h9 := Int.tmod_nonneg 8 (show 0 ≤ -x.toInt by omega)
    rw [Int.neg_tmod] at h9
    omega
  have hm : (x / 8 * 8).toInt = x.toInt.tdiv 8 * 8 := by
    rw [fb_mulI (by rw [hd, h8]; omega) (by rw [hd, h8]; omega), hd, h8]
  show (x - x / 8 * 8).toInt = _
  rw [fb_subI (by rw [hm]; omega) (by rw [hm]; omega), hm]
  omega
theorem by8 (x : Int32) : (if 0 ≤ irem x 8 then irem x 8 else irem x 8 + 8) = nI (e8 x) := by
  have h1 := irem8_int x
  have h2 : -8 < x.toInt.tmod 8 ∧ x.toInt.tmod 8 < 8 := tmod_bounds (by decide)
  have h3 := e8_int x
  have h4 := Int.tdiv_mul_add_tmod x.toInt 8
  have h5 := e8_lt x
  have hn : (nI (e8 x)).toInt = (e8 x : Int) := nI_toInt (by omega)
  have h0 : (0 : Int32).toInt = 0 := by decide
  have h8 : (8 : Int32).toInt = 8 := by decide
  split
  · rename_i h
    rw [i_le, h0, h1] at h
    rw [i_eq, hn, h1]
    omega
  · rename_i h
    rw [i_le, h0, h1] at h
    rw [i_eq, hn, fb_addI (by rw [h1, h8]; omega) (by rw [h1, h8]; omega), h1, h8]
    omega
theorem byEight_eq (x : Int32) : F_X7_byEight x = some (nI (e8 x)) := by
  unfold F_X7_byEight
  rw [← by8 x]
  split <;> rfl
theorem and7 (x : Int32) : x &&& 7 = nI (e8 x) := pk_and x 3 (by decide)
theorem e8_add3 (x : Int32) : e8 (x + 3) = (e8 x + 3) % 8 := by
  unfold e8
  have : (x + 3).toBitVec.toNat = (x.toBitVec.toNat + 3) % 2 ^ 32 := by
    show (x.toBitVec + (3 : Int32).toBitVec).toNat = _
    rw [BitVec.toNat_add]
    rfl
  rw [this]
  omega
/-- OFF -/
def offS (f p : Int32) : Int32 := (f - p + 3 &&& 7) - 3
theorem off_tab : ∀ e, e < 8 → (if nI e ≤ 4 then nI e else nI e - 8) = nI ((e + 3) % 8) - 3 := by decide
theorem off_eq (x : Int32) : (if nI (e8 x) ≤ 4 then nI (e8 x) else nI (e8 x) - 8) = (x + 3 &&& 7) - 3 := by
  rw [off_tab _ (e8_lt x), and7, e8_add3]
/-- OFF is one of eight numbers -/
theorem offS_in (f p : Int32) : ∃ e, e < 8 ∧ offS f p = nI e - 3 := ⟨e8 (f - p + 3), e8_lt _, by unfold offS; rw [and7]⟩
theorem offS_rng (f p : Int32) : -3 ≤ (offS f p).toInt ∧ (offS f p).toInt ≤ 4 := by
  obtain ⟨e, he, h⟩ := offS_in f p
  rw [h]
  exact (show ∀ e, e < 8 → -3 ≤ (nI e - 3).toInt ∧ (nI e - 3).toInt ≤ 4 by decide) e he
def lostS (f p : Int32) : Int32 := (f - p - offS f p) / 8
theorem floorMod_eq (x : Int32) : F_J9_floorMod_7cf53 x 8 = some (nI (e8 x)) := by
  have h1 := irem8_int x
  have h2 : -8 < x.toInt.tmod 8 ∧ x.toInt.tmod 8 < 8 := tmod_bounds (by decide)
  have h3 := e8_int x
  have h4 := Int.tdiv_mul_add_tmod x.toInt 8
  have h5 := e8_lt x
  have hn : (nI (e8 x)).toInt = (e8 x : Int) := nI_toInt (by omega)
  have h0 : (0 : Int32).toInt = 0 := by decide
  have h8 : (8 : Int32).toInt = 8 := by decide
  have p1 : 0 ≤ x.toInt → 0 ≤ x.toInt.tmod 8 := fun h => Int.tmod_nonneg 8 h
  have p2 : x.toInt ≤ 0 → x.toInt.tmod 8 ≤ 0 := fun h => by
    have h9 := Int.tmod_nonneg 8 (show 0 ≤ -x.toInt by omega)
    rw [Int.neg_tmod] at h9
    omega
  have hx : (0 ≤ x ^^^ 8) ↔ 0 ≤ x := by
    rw [i_le, i_le, h0, toInt_bv x, toInt_bv (x ^^^ 8)]
    have hx2 : (x ^^^ 8).toBitVec.toNat = x.toBitVec.toNat ^^^ 8 := by
      show (x.toBitVec ^^^ (8 : Int32).toBitVec).toNat = _
      rw [BitVec.toNat_xor]
      rfl
    have hlt := x.toBitVec.isLt
    have hd : (x.toBitVec.toNat ^^^ 8) / 16 = x.toBitVec.toNat / 16 := by
      have := Nat.xor_div_two_pow (a := x.toBitVec.toNat) (b := 8) (n := 4)
      simpa using this
    rw [hx2]
    constructor
    · intro h
      split at h
      · split <;> omega
      · split <;> omega
    · intro h
      split at h
      · split <;> omega
      · split <;> omega
  unfold F_J9_floorMod_7cf53
  rw [chk_pos (by decide)]
  by_cases hc : 0 ≤ x ^^^ 8
  · rw [if_pos hc]
    have hx0 := hx.mp hc
    rw [i_le, h0] at hx0
    congr 1
    rw [i_eq, hn, h1]
    have := p1 hx0
    omega
  · rw [if_neg hc]
    have hx0 : ¬ 0 ≤ x := fun h => hc (hx.mpr h)
    rw [i_le, h0] at hx0
    by_cases hz : irem x 8 = 0
    · rw [if_pos hz]
      rw [i_eq, h1, h0] at hz
      congr 1
      rw [i_eq, hn, h1]
      omega
    · rw [if_neg hz]
      rw [i_eq, h1, h0] at hz
      congr 1
      have := p2 (by omega)
      rw [i_eq, hn, fb_addI (by rw [h1, h8]; omega) (by rw [h1, h8]; omega), h1, h8]
      omega
