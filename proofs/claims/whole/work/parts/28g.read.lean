/-! read -/
theorem pos64 {x3 : Int32} {i e : Nat} (hi : i ≤ 20) (he : e ≤ 2) : (x3.toInt64 + ((2 : Int32) * nI i).toInt64 + (nI e).toInt64).toInt = x3.toInt + 2 * i + e := by
  have hr := fb_rng x3
  have e1 : ((2 : Int32) * nI i) = nI (2 * i) := by rw [show (2 : Int32) = nI 2 from rfl, pk_mul]
  have a1 : (x3.toInt64).toInt = x3.toInt := Int32.toInt_toInt64 _
  have a2 : ((nI (2 * i)).toInt64).toInt = 2 * i := by rw [Int32.toInt_toInt64, nI_toInt (by omega)]; omega
  have a3 : ((nI e).toInt64).toInt = e := by rw [Int32.toInt_toInt64, nI_toInt (by omega)]
  rw [e1, Int64.toInt_add, Int64.toInt_add, a1, a2, a3, Int.bmod_eq_of_le (n := x3.toInt + 2 * i) (by omega) (by omega), Int.bmod_eq_of_le (by omega) (by omega)]
theorem i20 : ¬ (2 : Int32) ≤ 0 := by decide
theorem i21 : ¬ (2 : Int32) ≤ 1 := by decide
theorem read_pair {sh : Nat → Sht} {la si ce : Nat → Int32} {k i : Nat} {x2 x3 : Int32} (hk : k < 4) (hi : i ≤ 20) (hSh : ((sh k).1 = -1 ∧ la k = -4) ∨ ∃ (a z : Nat), a < 3 ∧ z ≤ 40 ∧ (sh k).1 = nI a ∧ la k = nI a ∧ (sh k).2.1 = nI z ∧ si k = nI z ∧ ∀ i, i < 40 → ce (40 * k + i) = (sh k).2.2 i) (hx2 : ∃ a, a < 3 ∧ x2 = nI a) (hx : i = 0 ∨ ∃ q, q < 40 ∧ x3 = nI q) :
    ∃ φ, F_X3_faultOfPair (sh k).1 (sh k).2.1 x2 (x3 + 2 * nI i) = some φ ∧
      (φ ≠ 0 → ∀ fu kk tn st bf x4 x6, F_X7_read_77 (fu + 3) kk tn st la si ce bf (nI k) x2 x3 x4 0 x6 (nI i) 0 = kk tn st la si ce bf (nI k) x2 x3 x4 φ x6 (nI i + 1)) ∧
      (φ = 0 → ∃ q, x3 = nI q ∧ q + 2 * i + 1 < 40 ∧ ∀ fu kk tn st bf x4 x6, F_X7_read_77 (fu + 3) kk tn st la si ce bf (nI k) x2 x3 x4 0 x6 (nI i) 0 = (F_X7_set st ((sh k).2.2 (q + 2 * i)) ((sh k).2.2 (q + 2 * i + 1))).bind fun (r5, w6) => if 0 ≤ r5 then kk tn w6 la si ce bf (nI k) x2 x3 x4 0 (x6 + 1) (nI i + 1) else F_X7_read_208 FU tn w6 la si ce bf (nI i) 0) := by
  have hkk : inb (nI k) 4 := inb_nI hk (by decide)
  have ek : (nI k).toNatClampNeg = k := cl_nI (by omega)
  rcases hSh with ⟨s1, s2⟩ | ⟨a, z, ha, hz, s1, s2, s3, s4, s5⟩
  · refine ⟨1, ?_, ?_, fun h => absurd h i10⟩
    · unfold F_X3_faultOfPair F_X3_faultOfPair_18 F_X3_faultAt
      rw [s1, if_pos rfl, if_pos rfl]
      rfl
    · intro _ fu kk tn st bf x4 x6
      rw [F_X7_read_77, if_neg i20, if_pos rfl, chk_pos hkk, if_pos (show la (nI k).toNatClampNeg = -4 by rw [ek]; exact s2), show (0 : Int32) + 1 = 1 from rfl, F_X7_read_77, if_neg i21, if_neg i10, if_neg i10]
  · have nl := lane_ne a ha
    have c4 : ¬ la k = -4 := by rw [s2]; exact nl.2
    by_cases cx : nI a = x2
    · have hp : (x3 + 2 * nI i).toInt = x3.toInt + 2 * i := by
        have e1 : ((2 : Int32) * nI i) = nI (2 * i) := by rw [show (2 : Int32) = nI 2 from rfl, pk_mul]
        have e2 := nI_toInt (n := 2 * i) (by omega)
        rw [e1]
        rcases hx with rfl | ⟨q, hq, rfl⟩
        · have hr := fb_rng x3
          rw [fb_addI (by omega) (by omega)]; omega
        · have hr := nI_toInt (n := q) (by omega)
          rw [fb_addI (by omega) (by omega)]; omega
      have hz1 := nI_toInt (n := z) (by omega)
      have h1t : (1 : Int32).toInt = 1 := by decide
      have hzl : ((nI z).toInt64).toInt = z := by rw [Int32.toInt_toInt64, hz1]
      have h0l : (0 : Int64).toInt = 0 := by decide
      have p0 := pos64 (x3 := x3) (i := i) (e := 0) hi (by omega)
      have p1 := pos64 (x3 := x3) (i := i) (e := 1) hi (by omega)
      have p0 : (x3.toInt64 + ((2 : Int32) * nI i).toInt64 + (0 : Int32).toInt64).toInt = x3.toInt + 2 * i + (0 : Nat) := p0
      have p1 : (x3.toInt64 + ((2 : Int32) * nI i).toInt64 + (1 : Int32).toInt64).toInt = x3.toInt + 2 * i + (1 : Nat) := p1
      have cl : la k = x2 := s2.trans cx
      by_cases cp : 0 ≤ x3.toInt + 2 * i ∧ x3.toInt + 2 * i + 1 < z
      · refine ⟨0, ?_, fun h => absurd rfl h, ?_⟩
        · unfold F_X3_faultOfPair F_X3_faultOfPair_18
          rw [s1, s3, if_neg nl.1, if_pos cx, faultAt_eq ha hz, hp, if_pos ⟨by omega, by omega⟩]
          simp only [ob]
          rw [if_pos trivial, faultAt_eq ha hz, fb_addI (by omega) (by omega), hp, h1t, if_pos ⟨by omega, by omega⟩]
          simp only [ob]
        · intro _
          have hx3 : x3 = nI x3.toInt.toNat := by
            rcases hx with rfl | ⟨q, hq, rfl⟩
            · rw [i_eq, nI_toInt (by omega)]; omega
            · rw [nI_toInt (by omega)]; rfl
          generalize hq : x3.toInt.toNat = q at hx3
          have hq2 : x3.toInt = q := by rw [hx3, nI_toInt (by rcases hx with rfl | ⟨q', hq', rfl⟩ <;> first | omega | (rw [nI_toInt (by omega)] at hq; omega))]
          refine ⟨q, hx3, by omega, ?_⟩
          intro fu kk tn st bf x4 x6
          have i1 : (40 : Int32) * nI k + x3 + 2 * nI i = nI (40 * k + (q + 2 * i)) := by
            rw [hx3, show (40 : Int32) = nI 40 from rfl, show (2 : Int32) = nI 2 from rfl, pk_mul, pk_mul, nI_add, nI_add]
            congr 1; omega
          have i2 : nI (40 * k + (q + 2 * i)) + 1 = nI (40 * k + (q + 2 * i + 1)) := nI_add _ 1
          rw [F_X7_read_77, if_neg i20, if_pos rfl, chk_pos hkk, chk_pos hkk, if_neg (show ¬ la (nI k).toNatClampNeg = -4 by rw [ek]; exact c4), if_pos (show la (nI k).toNatClampNeg = x2 by rw [ek]; exact cl), if_neg (by rw [lg_cmp_lt, Int64.lt_iff_toInt_lt]; omega), chk_pos hkk, if_pos (by rw [lg_cmp_lt, Int64.lt_iff_toInt_lt, ek, s4]; omega), show (0 : Int32) + 1 = 1 from rfl]
          rw [F_X7_read_77, if_neg i21, if_pos rfl, chk_pos hkk, chk_pos hkk, if_neg (show ¬ la (nI k).toNatClampNeg = -4 by rw [ek]; exact c4), if_pos (show la (nI k).toNatClampNeg = x2 by rw [ek]; exact cl), if_neg (by rw [lg_cmp_lt, Int64.lt_iff_toInt_lt]; omega), chk_pos hkk, if_pos (by rw [lg_cmp_lt, Int64.lt_iff_toInt_lt, ek, s4]; omega), show (1 : Int32) + 1 = 2 from rfl]
          rw [F_X7_read_77, if_pos (by decide), if_pos rfl, i1, i2, chk_pos (inb_nI (by omega) (by decide)), chk_pos (inb_nI (by omega) (by decide)), cl_nI (by omega), cl_nI (by omega), s5 _ (by omega), s5 _ (by omega)]
      · refine ⟨2, ?_, ?_, fun h => absurd h (by decide)⟩
        · unfold F_X3_faultOfPair F_X3_faultOfPair_18
          rw [s1, s3, if_neg nl.1, if_pos cx, faultAt_eq ha hz, hp]
          by_cases cq : 0 ≤ x3.toInt + 2 * i ∧ x3.toInt + 2 * i < z
          · rw [if_pos ⟨by omega, by omega⟩]
            simp only [ob]
            rw [if_pos trivial, faultAt_eq ha hz, fb_addI (by omega) (by omega), hp, h1t, if_neg (by omega)]
            simp only [ob]
          · rw [if_neg (by omega)]
            simp only [ob]
            rw [if_neg (by decide)]
        · intro _ fu kk tn st bf x4 x6
          have i2n : ¬ (2 : Int32) = 0 := by decide
          by_cases cq : x3.toInt + 2 * i < 0
          · rw [F_X7_read_77, if_neg i20, if_pos rfl, chk_pos hkk, chk_pos hkk, if_neg (show ¬ la (nI k).toNatClampNeg = -4 by rw [ek]; exact c4), if_pos (show la (nI k).toNatClampNeg = x2 by rw [ek]; exact cl), if_pos (by rw [lg_cmp_lt, Int64.lt_iff_toInt_lt]; omega), show (0 : Int32) + 1 = 1 from rfl, F_X7_read_77, if_neg i21, if_neg i2n, if_neg i2n]
          · by_cases cr : x3.toInt + 2 * i < z
            · rw [F_X7_read_77, if_neg i20, if_pos rfl, chk_pos hkk, chk_pos hkk, if_neg (show ¬ la (nI k).toNatClampNeg = -4 by rw [ek]; exact c4), if_pos (show la (nI k).toNatClampNeg = x2 by rw [ek]; exact cl), if_neg (by rw [lg_cmp_lt, Int64.lt_iff_toInt_lt]; omega), chk_pos hkk, if_pos (by rw [lg_cmp_lt, Int64.lt_iff_toInt_lt, ek, s4]; omega), show (0 : Int32) + 1 = 1 from rfl]
              rw [F_X7_read_77, if_neg i21, if_pos rfl, chk_pos hkk, chk_pos hkk, if_neg (show ¬ la (nI k).toNatClampNeg = -4 by rw [ek]; exact c4), if_pos (show la (nI k).toNatClampNeg = x2 by rw [ek]; exact cl), if_neg (by rw [lg_cmp_lt, Int64.lt_iff_toInt_lt]; omega), chk_pos hkk, if_neg (by rw [lg_cmp_lt, Int64.lt_iff_toInt_lt, ek, s4]; omega), show (1 : Int32) + 1 = 2 from rfl]
              rw [F_X7_read_77, if_pos (by decide), if_neg i2n]
            · rw [F_X7_read_77, if_neg i20, if_pos rfl, chk_pos hkk, chk_pos hkk, if_neg (show ¬ la (nI k).toNatClampNeg = -4 by rw [ek]; exact c4), if_pos (show la (nI k).toNatClampNeg = x2 by rw [ek]; exact cl), if_neg (by rw [lg_cmp_lt, Int64.lt_iff_toInt_lt]; omega), chk_pos hkk, if_neg (by rw [lg_cmp_lt, Int64.lt_iff_toInt_lt, ek, s4]; omega), show (0 : Int32) + 1 = 1 from rfl, F_X7_read_77, if_neg i21, if_neg i2n, if_neg i2n]
    · refine ⟨3, ?_, ?_, fun h => absurd h (by decide)⟩
      · unfold F_X3_faultOfPair
        rw [s1, if_neg nl.1, if_neg cx]
      · intro _ fu kk tn st bf x4 x6
        have i3n : ¬ (3 : Int32) = 0 := by decide
        have cl : ¬ la k = x2 := by rw [s2]; exact cx
        rw [F_X7_read_77, if_neg i20, if_pos rfl, chk_pos hkk, chk_pos hkk, if_neg (show ¬ la (nI k).toNatClampNeg = -4 by rw [ek]; exact c4), if_neg (show ¬ la (nI k).toNatClampNeg = x2 by rw [ek]; exact cl), show (0 : Int32) + 1 = 1 from rfl, F_X7_read_77, if_neg i21, if_neg i3n, if_neg i3n]
