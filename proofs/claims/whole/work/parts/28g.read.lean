/-! read -/
theorem pos64 {x3 : Int32} {i e : Nat} (hi : i ≤ 20) (he : e ≤ 2) : (x3.toInt64 + ((2 : Int32) * nI i).toInt64 + (nI e).toInt64).toInt = x3.toInt + 2 * i + e := by
  have hr := fb_rng x3
  have e1 : ((2 : Int32) * nI i) = nI (2 * i) := by rw [show (2 : Int32) = nI 2 from rfl, pk_mul]
  have a1 : (x3.toInt64).toInt = x3.toInt := Int32.toInt_toInt64 _
  have a2 : ((nI (2 * i)).toInt64).toInt = 2 * i := by rw [Int32.toInt_toInt64, nI_toInt (by omega)]; omega
  have a3 : ((nI e).toInt64).toInt = e := by rw [Int32.toInt_toInt64, nI_toInt (by omega)]
  rw [e1, Int64.toInt_add, Int64.toInt_add, a1, a2, a3, Int.bmod_eq_of_le (n := x3.toInt + 2 * i) (by omega) (by omega), Int.bmod_eq_of_le (by omega) (by omega)]
theorem i20 : ¬ (2 : Int32) ≤ 0 := by decide
theorem i21 : ¬ (2 : Int32) ≤ 1 := by decide
theorem read_pair {sh : Nat → Sht} {la si ce : Nat → Int32} {k i : Nat} {x2 x3 : Int32} (hk : k < 4) (hi : i ≤ 20) (hSh : ((sh k).1 = -1 ∧ la k = -4) ∨ ∃ (a z : Nat), a < 3 ∧ z ≤ 40 ∧ (sh k).1 = nI a ∧ la k = nI a ∧ (sh k).2.1 = nI z ∧ si k = nI z ∧ ∀ i, i < 40 → ce (40 * k + i) = (sh k).2.2 i) (hx2 : ∃ a, a < 3 ∧ x2 = nI a) (hx : i = 0 ∨ ∃ q, q < 40 ∧ x3 = nI q) :
    ∃ φ, F_X3_faultOfPair (sh k).1 (sh k).2.1 x2 (x3 + 2 * nI i) = some φ ∧
      (φ ≠ 0 → ∀ fu kk tn st bf x4 x6, F_X7_read_77 (fu + 3) kk tn st la si ce bf (nI k) x2 x3 x4 0 x6 (nI i) 0 = kk tn st la si ce bf (nI k) x2 x3 x4 φ x6 (nI i + 1)) ∧
      (φ = 0 → ∃ q, x3 = nI q ∧ q + 2 * i + 1 < 40 ∧ ∀ fu kk tn st bf x4 x6, F_X7_read_77 (fu + 3) kk tn st la si ce bf (nI k) x2 x3 x4 0 x6 (nI i) 0 = (F_X7_set st ((sh k).2.2 (q + 2 * i)) ((sh k).2.2 (q + 2 * i + 1))).bind fun (r5, w6) => if 0 ≤ r5 then kk tn w6 la si ce bf (nI k) x2 x3 x4 0 (x6 + 1) (nI i + 1) else F_X7_read_208 FU tn w6 la si ce bf (nI i) 0) := by
  have hkk : inb (nI k) 4 := inb_nI hk (by decide)
  have ek : (nI k).toNatClampNeg = k := cl_nI (by omega)
  rcases hSh with ⟨s1, s2⟩ | ⟨a, z, ha, hz, s1, s2, s3, s4, s5⟩
  · refine ⟨1, ?_, ?_, fun h => absurd h i10⟩
    · unfold F_X3_faultOfPair F_X3_faultOfPair_18 F_X3_faultAt
      rw [s1, if_pos rfl, if_pos rfl]
      rfl
    · intro _ fu kk tn st bf x4 x6
      rw [F_X7_read_77, if_neg i20, if_pos rfl, chk_pos hkk, if_pos (show la (nI k).toNatClampNeg = -4 by rw [ek]; exact s2), show (0 : Int32) + 1 = 1 from rfl, F_X7_read_77, if_neg i21, if_neg i10, if_neg i10]
  · have nl := lane_ne a ha
    have c4 : ¬ la k = -4 := by rw [s2]; exact nl.2
    by_cases cx : nI a = x2
    · have hp : (x3 + 2 * nI i).toInt = x3.toInt + 2 * i := by
        have e1 : ((2 : Int32) * nI i) = nI (2 * i) := by rw [show (2 : Int32) = nI 2 from rfl, pk_mul]
        have e2 := nI_toInt (n := 2 * i) (by omega)
        rw [e1]
        rcases hx with rfl | ⟨q, hq, rfl⟩
        · have hr := fb_rng x3
          rw [fb_addI (by omega) (by omega)]; omega
        · have hr := nI_toInt (n := q) (by omega)
          rw [fb_addI (by omega) (by omega)]; omega
      have hz1 := nI_toInt (n := z) (by omega)
      have h1t : (1 : Int32).toInt = 1 := by decide
      have hzl : ((nI z).toInt64).toInt = z := by rw [Int32.toInt_toInt64, hz1]
      have h0l : (0 : Int64).toInt = 0 := by decide
      have p0 := pos64 (x3 := x3) (i := i) (e := 0) hi (by omega)
      have p1 := pos64 (x3 := x3) (i := i) (e := 1) hi (by omega)
      have p0 : (x3.toInt64 + ((2 : Int32) * nI i).toInt64 + (0 : Int32).toInt64).toInt = x3.toInt + 2 * i + (0 : Nat) := p0
      have p1 : (x3.toInt64 + ((2 : Int32) * nI i).toInt64 + (1 : Int32).toInt64).toInt = x3.toInt + 2 * i + (1 : Nat) := p1
      have cl : la k = x2 := s2.trans cx
      by_cases cp : 0 ≤ x3.toInt + 2 * i ∧ x3.toInt + 2 * i + 1 < z
      · refine ⟨0, ?_, fun h => absurd rfl h, ?_⟩
        · unfold F_X3_faultOfPair F_X3_faultOfPair_18
          rw [s1, s3, if_neg nl.1, if_pos cx, faultAt_eq ha hz, hp, if_pos ⟨by omega, by omega⟩]
          simp only [ob]
          rw [if_pos trivial, faultAt_eq ha hz, fb_addI (by omega) (by omega), hp, h1t, if_pos ⟨by omega, by omega⟩]
          simp only [ob]
        · intro _
          have hx3 : x3 = nI x3.toInt.toNat := by
            rcases hx with rfl | ⟨q, hq, rfl⟩
            · rw [i_eq, nI_toInt (by omega)]; omega
            · rw [nI_toInt (by omega)]; rfl
          generalize hq : x3.toInt.toNat = q at hx3
          have hq2 : x3.toInt = q := by rw [hx3, nI_toInt (by rcases hx with rfl | ⟨q', hq', rfl⟩ <;> first | omega | (rw [nI_toInt (by omega)] at hq; omega))]
          refine ⟨q, hx3, by omega, ?_⟩
          intro fu kk tn st bf x4 x6
          have i1 : (40 : Int32) * nI k + x3 + 2 * nI i = nI (40 * k + (q + 2 * i)) := by
            rw [hx3, show (40 : Int32) = nI 40 from rfl, show (2 : Int32) = nI 2 from rfl, pk_mul, pk_mul, nI_add, nI_add]
            congr 1; omega
          have i2 : nI (40 * k + (q + 2 * i)) + 1 = nI (40 * k + (q + 2 * i + 1)) := nI_add _ 1
          rw [F_X7_read_77, if_neg i20, if_pos rfl, chk_pos hkk, chk_pos hkk, if_neg (show ¬ la (nI k).toNatClampNeg = -4 by rw [ek]; exact c4), if_pos (show la (nI k).toNatClampNeg = x2 by rw [ek]; exact cl), if_neg (by rw [lg_cmp_lt, Int64.lt_iff_toInt_lt]; omega), chk_pos hkk, if_pos (by rw [lg_cmp_lt, Int64.lt_iff_toInt_lt, ek, s4]; omega), show (0 : Int32) + 1 = 1 from rfl]
          rw [F_X7_read_77, if_neg i21, if_pos rfl, chk_pos hkk, chk_pos hkk, if_neg (show ¬ la (nI k).toNatClampNeg = -4 by rw [ek]; exact c4), if_pos (show la (nI k).toNatClampNeg = x2 by rw [ek]; exact cl), if_neg (by rw [lg_cmp_lt, Int64.lt_iff_toInt_lt]; omega), chk_pos hkk, if_pos (by rw [lg_cmp_lt, Int64.lt_iff_toInt_lt, ek, s4]; omega), show (1 : Int32) + 1 = 2 from rfl]
          rw [F_X7_read_77, if_pos (by decide), if_pos rfl, i1, i2, chk_pos (inb_nI (by omega) (by decide)), chk_pos (inb_nI (by omega) (by decide)), cl_nI (by omega), cl_nI (by omega), s5 _ (by omega), s5 _ (by omega)]
      · refine ⟨2, ?_, ?_, fun h => absurd h (by decide)⟩
        · unfold F_X3_faultOfPair F_X3_faultOfPair_18
          rw [s1, s3, if_neg nl.1, if_pos cx, faultAt_eq ha hz, hp]
          by_cases cq : 0 ≤ x3.toInt + 2 * i ∧ x3.toInt + 2 * i < z
          · rw [if_pos ⟨by omega, by omega⟩]
            simp only [ob]
            rw [if_pos trivial, faultAt_eq ha hz, fb_addI (by omega) (by omega), hp, h1t, if_neg (by omega)]
            simp only [ob]
          · rw [if_neg (by omega)]
            simp only [ob]
            rw [if_neg (by decide)]
        · intro _ fu kk tn st bf x4 x6
          have i2n : ¬ (2 : Int32) = 0 := by decide
          by_cases cq : x3.toInt + 2 * i < 0
          · rw [F_X7_read_77, if_neg i20, if_pos rfl, chk_pos hkk, chk_pos hkk, if_neg (show ¬ la (nI k).toNatClampNeg = -4 by rw [ek]; exact c4), if_pos (show la (nI k).toNatClampNeg = x2 by rw [ek]; exact cl), if_pos (by rw [lg_cmp_lt, Int64.lt_iff_toInt_lt]; omega), show (0 : Int32) + 1 = 1 from rfl, F_X7_read_77, if_neg i21, if_neg i2n, if_neg i2n]
          · by_cases cr : x3.toInt + 2 * i < z
            · rw [F_X7_read_77, if_neg i20, if_pos rfl, chk_pos hkk, chk_pos hkk, if_neg (show ¬ la (nI k).toNatClampNeg = -4 by rw [ek]; exact c4), if_pos (show la (nI k).toNatClampNeg = x2 by rw [ek]; exact cl), if_neg (by rw [lg_cmp_lt, Int64.lt_iff_toInt_lt]; omega), chk_pos hkk, if_pos (by rw [lg_cmp_lt, Int64.lt_iff_toInt_lt, ek, s4]; omega), show (0 : Int32) + 1 = 1 from rfl]
              rw [F_X7_read_77, if_neg i21, if_pos rfl, chk_pos hkk, chk_pos hkk, if_neg (show ¬ la (nI k).toNatClampNeg = -4 by rw [ek]; exact c4), if_pos (show la (nI k).toNatClampNeg = x2 by rw [ek]; exact cl), if_neg (by rw [lg_cmp_lt, Int64.lt_iff_toInt_lt]; omega), chk_pos hkk, if_neg (by rw [lg_cmp_lt, Int64.lt_iff_toInt_lt, ek, s4]; omega), show (1 : Int32) + 1 = 2 from rfl]
              rw [F_X7_read_77, if_pos (by decide), if_neg i2n]
            · rw [F_X7_read_77, if_neg i20, if_pos rfl, chk_pos hkk, chk_pos hkk, if_neg (show ¬ la (nI k).toNatClampNeg = -4 by rw [ek]; exact c4), if_pos (show la (nI k).toNatClampNeg = x2 by rw [ek]; exact cl), if_neg (by rw [lg_cmp_lt, Int64.lt_iff_toInt_lt]; omega), chk_pos hkk, if_neg (by rw [lg_cmp_lt, Int64.lt_iff_toInt_lt, ek, s4]; omega), show (0 : Int32) + 1 = 1 from rfl, F_X7_read_77, if_neg i21, if_neg i2n, if_neg i2n]
    · refine ⟨3, ?_, ?_, fun h => absurd h (by decide)⟩
      · unfold F_X3_faultOfPair
        rw [s1, if_neg nl.1, if_neg cx]
      · intro _ fu kk tn st bf x4 x6
        have i3n : ¬ (3 : Int32) = 0 := by decide
        have cl : ¬ la k = x2 := by rw [s2]; exact cx
        rw [F_X7_read_77, if_neg i20, if_pos rfl, chk_pos hkk, chk_pos hkk, if_neg (show ¬ la (nI k).toNatClampNeg = -4 by rw [ek]; exact c4), if_neg (show ¬ la (nI k).toNatClampNeg = x2 by rw [ek]; exact cl), show (0 : Int32) + 1 = 1 from rfl, F_X7_read_77, if_neg i21, if_neg i3n, if_neg i3n]
theorem RB_set {f t p rn n : Int32} {S : Nat} {sg to wh le st : Nat → Int32} {rt : Nat → Rot} (h : RB f t p (nI S) rn sg rt n to wh le st) (hS : S ≤ 16) {k v : Nat} (hk : k < S) (hv : v < 4) : RB f t p (nI S) rn (upd sg k (nI v)) rt n to wh le (upd st (1 + k) (nI v)) := by
  obtain ⟨T, P, S', R, N, ⟨zT, zP1, zP2, zS, zR, zN⟩, ⟨rfl, rfl, eS, rfl, rfl⟩, ⟨b0, b17, b18, b19, b36, b37⟩, bs, br, bn, bf⟩ := h
  obtain rfl : S = S' := (nI_eq (by omega) (by omega)).1 eS
  have o : ∀ j, j ≠ 1 + k → upd st (1 + k) (nI v) j = st j := fun j h => upd_off _ _ h
  refine ⟨T, P, S, R, N, ⟨zT, zP1, zP2, zS, zR, zN⟩, ⟨rfl, rfl, rfl, rfl, rfl⟩, ⟨(o 0 (by omega)).trans b0, (o 17 (by omega)).trans b17, (o 18 (by omega)).trans b18, (o 19 (by omega)).trans b19, (o 36 (by omega)).trans b36, (o 37 (by omega)).trans b37⟩, ?_, fun r hr => ⟨⟨(o _ (by omega)).trans (br r hr).1.1, (o _ (by omega)).trans (br r hr).1.2.1, (o _ (by omega)).trans (br r hr).1.2.2.1, (o _ (by omega)).trans (br r hr).1.2.2.2⟩, (br r hr).2⟩, fun i hi => ⟨⟨(o _ (by omega)).trans (bn i hi).1.1, (o _ (by omega)).trans (bn i hi).1.2.1, (o _ (by omega)).trans (bn i hi).1.2.2⟩, (bn i hi).2⟩, bf⟩
  intro i hi
  by_cases c : i = k
  · subst c; rw [upd_at, upd_at]; exact ⟨rfl, v, hv, rfl⟩
  · rw [upd_off _ _ c, o _ (by omega)]; exact bs i hi
theorem RB_cong {f t p sn rn n : Int32} {sg to wh le b b' : Nat → Int32} {rt : Nat → Rot} (h : RB f t p sn rn sg rt n to wh le b) (o : ∀ j, j < 56 → b' j = b j) : RB f t p sn rn sg rt n to wh le b' := by
  obtain ⟨T, P, S, R, N, ⟨zT, zP1, zP2, zS, zR, zN⟩, ⟨rfl, rfl, rfl, rfl, rfl⟩, ⟨b0, b17, b18, b19, b36, b37⟩, bs, br, bn, bf⟩ := h
  exact ⟨T, P, S, R, N, ⟨zT, zP1, zP2, zS, zR, zN⟩, ⟨rfl, rfl, rfl, rfl, rfl⟩, ⟨(o 0 (by omega)).trans b0, (o 17 (by omega)).trans b17, (o 18 (by omega)).trans b18, (o 19 (by omega)).trans b19, (o 36 (by omega)).trans b36, (o 37 (by omega)).trans b37⟩, fun i hi => ⟨(o _ (by omega)).trans (bs i hi).1, (bs i hi).2⟩, fun r hr => ⟨⟨(o _ (by omega)).trans (br r hr).1.1, (o _ (by omega)).trans (br r hr).1.2.1, (o _ (by omega)).trans (br r hr).1.2.2.1, (o _ (by omega)).trans (br r hr).1.2.2.2⟩, (br r hr).2⟩, fun i hi => ⟨⟨(o _ (by omega)).trans (bn i hi).1.1, (o _ (by omega)).trans (bn i hi).1.2.1, (o _ (by omega)).trans (bn i hi).1.2.2⟩, (bn i hi).2⟩, bf⟩
/-- the signs after i pairs -/
def sgA (cs : Nat → Int32) (q : Nat) (sg : Nat → Int32) : Nat → Nat → Int32
  | 0 => sg
  | i + 1 => upd (sgA cs q sg i) (cs (q + 2 * i)).toNatClampNeg (cs (q + 2 * i + 1))
def okP (cs : Nat → Int32) (q S i : Nat) : Prop := ∀ j, j < i → q + 2 * j + 1 < 40 ∧ (∃ s, s < S ∧ cs (q + 2 * j) = nI s) ∧ ∃ v, v < 4 ∧ cs (q + 2 * j + 1) = nI v
theorem read115 {rf sn x7 : Int32} {sg : Nat → Int32} {sh : Nat → Sht} {k q S i : Nat} (hS : S ≤ 16) (hi : i ≤ 20) (hok : okP (sh k).2.2 q S i) : ∀ (fu j : Nat), j ≤ i → i - j < fu → F_X6_read_115 fu rf sn (sgA (sh k).2.2 q sg j) sh (nI q) k (nI i) x7 (nI j) = some (nI i, x7, sgA (sh k).2.2 q sg i) := by
  intro fu
  induction fu with
  | zero => intro j h1 h2; omega
  | succ fu ih =>
    intro j h1 h2
    unfold F_X6_read_115
    by_cases hc : i ≤ j
    · have e : j = i := by omega
      subst e
      rw [if_pos (nI_le (Nat.le_refl _) (by omega))]
    · obtain ⟨o1, ⟨s, o2, o3⟩, o4⟩ := hok j (by omega)
      have e1 : nI q + 2 * nI j = nI (q + 2 * j) := by rw [show (2 : Int32) = nI 2 from rfl, pk_mul, nI_add]
      rw [if_neg (nI_ge (by omega) (by omega)), e1, show nI (q + 2 * j) + 1 = nI (q + 2 * j + 1) from nI_1 _, chk_pos (inb_nI (by omega) (by decide)), chk_pos (inb_nI (by omega) (by decide)), cl_nI (n := q + 2 * j) (by omega), cl_nI (n := q + 2 * j + 1) (by omega), chk_pos (by rw [o3]; exact inb_nI (by omega) (by decide)), nI_1]
      exact ih (j + 1) (by omega) (by omega)
theorem read112 {rf sn x3 x7 : Int32} {sg : Nat → Int32} {sh : Nat → Sht} {k q S i : Nat} (hS : S ≤ 16) (hi : i ≤ 20) (hok : okP (sh k).2.2 q S i) (hx : i = 0 ∨ x3 = nI q) : F_X6_read_112 rf sn sg sh x3 k (nI i) x7 = some (nI i, x7, sgA (sh k).2.2 q sg i) := by
  unfold F_X6_read_112
  rcases hx with rfl | rfl
  · rw [show FU = 1999 + 1 from rfl, F_X6_read_115, if_pos (by decide)]
    rfl
  · exact read115 hS hi hok FU 0 (by omega) (by unfold FU; omega)
theorem read208 {tn x7 : Int32} {la si ce bf st0 : Nat → Int32} : ∀ (fu i : Nat) (st : Nat → Int32), i ≤ 56 → 56 - i < fu → (∀ j, j < i → st j = bf j) → (∀ j, 56 ≤ j → st j = st0 j) → ∃ st', F_X7_read_208 fu tn st la si ce bf x7 (nI i) = some (-20 - x7, tn, st', bf) ∧ (∀ j, j < 56 → st' j = bf j) ∧ ∀ j, 56 ≤ j → st' j = st0 j := by
  intro fu
  induction fu with
  | zero => intro i st h1 h2; omega
  | succ fu ih =>
    intro i st h1 h2 h3 h4
    unfold F_X7_read_208
    by_cases hc : 56 ≤ i
    · have e : i = 56 := by omega
      subst e
      rw [if_pos (by decide)]
      exact ⟨_, rfl, h3, h4⟩
    · rw [if_neg (show ¬ (56 : Int32) ≤ nI i from nI_ge (b := 56) (by omega) (by omega)), chk_pos (inb_nI (by omega) (by decide)), chk_pos (inb_nI (by omega) (by decide)), cl_nI (by omega), nI_1]
      refine ih (i + 1) _ (by omega) (by omega) ?_ ?_
      · intro j hj
        by_cases c : j = i
        · subst c; rw [upd_at]
        · rw [upd_off _ _ c]; exact h3 j (by omega)
      · intro j hj
        rw [upd_off _ _ (by omega)]; exact h4 j hj
theorem read26 {tn x1 x2 x3 x4 : Int32} {st la si ce : Nat → Int32} : ∀ (fu i : Nat) (bf : Nat → Int32), i ≤ 56 → 56 - i < fu → (∀ j, j < i → bf j = st j) → ∃ bf', F_X7_read_26 fu tn st la si ce bf x1 x2 x3 x4 (nI i) = F_X7_read_62 FU tn st la si ce bf' x1 x2 x3 x4 0 0 0 ∧ ∀ j, j < 56 → bf' j = st j := by
  intro fu
  induction fu with
  | zero => intro i st h1 h2; omega
  | succ fu ih =>
    intro i bf h1 h2 h3
    unfold F_X7_read_26
    by_cases hc : 56 ≤ i
    · have e : i = 56 := by omega
      subst e
      rw [if_pos (by decide)]
      exact ⟨_, rfl, h3⟩
    · rw [if_neg (show ¬ (56 : Int32) ≤ nI i from nI_ge (b := 56) (by omega) (by omega)), chk_pos (inb_nI (by omega) (by decide)), chk_pos (inb_nI (by omega) (by decide)), cl_nI (by omega), nI_1]
      refine ih (i + 1) _ (by omega) (by omega) ?_
      intro j hj
      by_cases c : j = i
      · subst c; rw [upd_at]
      · rw [upd_off _ _ c]; exact h3 j (by omega)
theorem read_main {f t p rn nn rf : Int32} {sg to wh le st la si ce bf : Nat → Int32} {rt : Nat → Rot} {sh : Nat → Sht} {S k q n : Nat} {x2 x3 : Int32} (hS : S ≤ 16) (hn : n ≤ 20) (hk : k < 4) (hSh : ((sh k).1 = -1 ∧ la k = -4) ∨ ∃ (a z : Nat), a < 3 ∧ z ≤ 40 ∧ (sh k).1 = nI a ∧ la k = nI a ∧ (sh k).2.1 = nI z ∧ si k = nI z ∧ ∀ i, i < 40 → ce (40 * k + i) = (sh k).2.2 i) (hx2 : ∃ a, a < 3 ∧ x2 = nI a) (hq : q = x3.toInt.toNat) (hB : RB f t p (nI S) rn sg rt nn to wh le st) (hbf : ∀ j, j < 56 → bf j = st j) : ∀ (m i fu fu' : Nat) (si' : Nat → Int32), i + m = n → m < fu → m < fu' → (i = 0 ∨ (q < 40 ∧ x3 = nI q)) → okP (sh k).2.2 q S i → RB f t p (nI S) rn (sgA (sh k).2.2 q sg i) rt nn to wh le si' → (∀ j, 56 ≤ j → si' j = st j) →
    ∃ r rf' sg' st', F_X6_read_42 fu rf (nI S) sg sh x2 x3 (nI n) k (nI i) 0 = some (r, rf', sg') ∧ F_X7_read_62 fu' rf si' la si ce bf (nI k) x2 x3 (nI n) 0 (nI i) (nI i) = some (r, rf', st', bf) ∧ RB f t p (nI S) rn sg' rt nn to wh le st' ∧ ∀ j, 56 ≤ j → st' j = st j := by
  intro m
  induction m with
  | zero =>
    intro i fu fu' s h1 h2 h3 hx hok hR hs
    obtain ⟨fu, rfl⟩ : ∃ g, fu = g + 1 := ⟨fu - 1, by omega⟩
    obtain ⟨fu', rfl⟩ : ∃ g, fu' = g + 1 := ⟨fu' - 1, by omega⟩
    obtain rfl : i = n := by omega
    unfold F_X6_read_42 F_X7_read_62 F_X7_read_250
    rw [if_pos (nI_le (Nat.le_refl _) (by omega)), if_pos (nI_le (Nat.le_refl _) (by omega)), read112 hS hn hok (hx.imp id (fun h => h.2))]
    exact ⟨_, _, _, _, rfl, rfl, hR, hs⟩
  | succ m ih =>
    intro i fu fu' s h1 h2 h3 hx hok hR hs
    obtain ⟨fu, rfl⟩ : ∃ g, fu = g + 1 := ⟨fu - 1, by omega⟩
    obtain ⟨fu', rfl⟩ : ∃ g, fu' = g + 1 := ⟨fu' - 1, by omega⟩
    unfold F_X6_read_42
    rw [F_X7_read_62, if_neg (nI_ge (by omega) (by omega)), if_neg (nI_ge (by omega) (by omega)), if_pos rfl]
    obtain ⟨φ, e1, e2, e3⟩ := read_pair (sh := sh) (la := la) (si := si) (ce := ce) (x2 := x2) (x3 := x3) hk (show i ≤ 20 by omega) hSh hx2 (hx.imp id (fun h => ⟨q, h⟩))
    rw [e1]
    simp only [ob]
    by_cases c : φ = 0
    · subst c
      obtain ⟨q', hx3, hq40, g⟩ := e3 rfl
      have hqq : q' = q := by rw [hq, hx3, nI_toInt (by omega)]; rfl
      subst hqq
      rw [if_pos rfl, show FU = 1997 + 3 from rfl, g 1997]
      have i1 : x3 + 2 * nI i = nI (q' + 2 * i) := by rw [hx3, show (2 : Int32) = nI 2 from rfl, pk_mul, nI_add]
      rw [i1, show nI (q' + 2 * i) + 1 = nI (q' + 2 * i + 1) from nI_1 _, chk_pos (inb_nI (by omega) (by decide)), chk_pos (inb_nI (by omega) (by decide)), cl_nI (by omega), cl_nI (by omega)]
      have h17 : s 17 = nI S := by
        obtain ⟨T, P, S', R, N, _, ⟨_, _, eS, _, _⟩, ⟨_, b17, _⟩, _⟩ := hR
        rw [b17, ← eS]
      rcases canSet_cases h17 hS ((sh k).2.2 (q' + 2 * i)) ((sh k).2.2 (q' + 2 * i + 1)) with ⟨a, v, ha, hv, f1, f2, f3, f4⟩ | ⟨f3, f4⟩
      · rw [f3, f4]
        simp only [ob]
        have hpos : (0 : Int32) ≤ s (1 + a) := by
          obtain ⟨T, P, S', R, N, ⟨_, _, _, zS', _, _⟩, ⟨_, _, eS, _, _⟩, _, bs, _⟩ := hR
          obtain rfl : S = S' := (nI_eq (by omega) (by omega)).1 eS
          obtain ⟨b1, w, hw, b2⟩ := bs a ha
          rw [b1, b2]
          exact nI_le (a := 0) (by omega) (by omega)
        rw [if_neg i10, if_pos hpos, nI_1]
        have hok' : okP (sh k).2.2 q' S (i + 1) := by
          intro j hj
          by_cases cj : j = i
          · subst cj; exact ⟨by omega, ⟨a, ha, f1⟩, ⟨v, hv, f2⟩⟩
          · exact hok j (by omega)
        have hR' : RB f t p (nI S) rn (sgA (sh k).2.2 q' sg (i + 1)) rt nn to wh le (upd s (1 + a) ((sh k).2.2 (q' + 2 * i + 1))) := by
          have h9 := RB_set hR hS ha hv
          rw [← f2] at h9
          show RB f t p (nI S) rn (upd (sgA (sh k).2.2 q' sg i) ((sh k).2.2 (q' + 2 * i)).toNatClampNeg ((sh k).2.2 (q' + 2 * i + 1))) rt nn to wh le _
          rw [f1, cl_nI (by omega)]
          exact h9
        exact ih (i + 1) fu fu' _ (by omega) (by omega) (by omega) (Or.inr ⟨by omega, hx3⟩) hok' hR' (fun j hj => by rw [upd_off _ _ (by omega)]; exact hs j hj)
      · rw [f3, f4]
        simp only [ob]
        rw [if_pos trivial, if_neg (by decide)]
        obtain ⟨st', g1, g2, g3⟩ := read208 (tn := rf) (x7 := nI i) (la := la) (si := si) (ce := ce) (bf := bf) (st0 := st) FU 0 s (by omega) (by unfold FU; omega) (fun j h => absurd h (by omega)) hs
        have g1 : F_X7_read_208 FU rf s la si ce bf (nI i) 0 = some (-20 - nI i, rf, st', bf) := g1
        rw [g1]
        exact ⟨_, _, _, _, rfl, rfl, RB_cong hB (fun j hj => (g2 j hj).trans (hbf j hj)), g3⟩
    · rw [if_neg c, show FU = 1997 + 3 from rfl, e2 c 1997, read112 hS (by omega) hok (hx.imp id (fun h => h.2))]
      obtain ⟨fu', rfl⟩ : ∃ g, fu' = g + 1 := ⟨fu' - 1, by omega⟩
      rw [F_X7_read_62, if_neg c]
      unfold F_X7_read_250
      rw [ite_self]
      exact ⟨_, _, _, _, rfl, rfl, hR, hs⟩
theorem p_read : P_read := by
  intro rf len fl by_ f t p sn rn sg rt n to wh le k0 f0 t0 p0 sn0 rn0 sg0 rt0 n0 to0 wh0 le0 k1 f1 t1 p1 sn1 rn1 sg1 rt1 n1 to1 wh1 le1 sh tp mf tn st kp ta la si ce m_before hRel x1 x2 x3 x4
  have hRel0 := hRel
  obtain ⟨⟨h1, h2⟩, hT, hB, hI0, hI1, hSh⟩ := hRel
  subst h1
  unfold F_X6_read F_X7_read
  rcases isSheet_cases x1 x2 with ⟨k, a, hk, ha, rfl, rfl, e1, e2, e3⟩ | ⟨e3, e1 | ⟨e1, e2⟩⟩
  · rw [e1, e2, e3]
    simp only [ob]
    rw [if_neg i10, if_neg i10, if_neg i10]
    rcases rng_cases x4 20 (by decide) with ⟨m, hm, rfl, e4, e5⟩ | ⟨e4, e5⟩
    · have e4 : F_X6_within (nI m) 20 = some 1 := e4
      have e5 : F_X7_in (nI m).toInt64 0 20 = some 1 := e5
      rw [e4, e5]
      simp only [ob]
      rw [if_neg i10, if_neg i10, chk_pos (inb_nI (by omega) (by decide)), cl_nI (by omega)]
      obtain ⟨bf', g1, g2⟩ := read26 (tn := rf) (x1 := nI k) (x2 := nI a) (x3 := x3) (x4 := nI m) (st := st) (la := la) (si := si) (ce := ce) FU 0 m_before (by omega) (by unfold FU; omega) (fun j h => absurd h (by omega))
      have g1 : F_X7_read_26 FU rf st la si ce m_before (nI k) (nI a) x3 (nI m) 0 = F_X7_read_62 FU rf st la si ce bf' (nI k) (nI a) x3 (nI m) 0 0 0 := g1
      obtain ⟨S, hS, rfl⟩ : ∃ S, S ≤ 16 ∧ sn = nI S := by
        obtain ⟨T, P, S, R, N, ⟨_, _, _, zS, _, _⟩, ⟨_, _, eS, _, _⟩, _⟩ := hB
        exact ⟨S, zS, eS⟩
      obtain ⟨r, rf', sg', st', g3, g4, g5, g6⟩ := read_main (rf := rf) (n := m) (k := k) (x2 := nI a) (x3 := x3) hS hm hk (hSh k hk) ⟨a, ha, rfl⟩ rfl hB g2 m 0 FU FU st (by omega) (by unfold FU; omega) (by unfold FU; omega) (Or.inl rfl) (fun j h => absurd h (by omega)) hB (fun j h => rfl)
      have g3 : F_X6_read_42 FU rf (nI S) sg sh (nI a) x3 (nI m) k 0 0 = some (r, rf', sg') := g3
      have g4 : F_X7_read_62 FU rf st la si ce bf' (nI k) (nI a) x3 (nI m) 0 0 0 = some (r, rf', st', bf') := g4
      rw [g1, g3, g4]
      exact ⟨_, _, _, _, _, _, rfl, rfl, ⟨rfl, h2⟩, hT, g5, RI_st hI0 (by omega) g6, RI_st hI1 (by omega) g6, hSh⟩
    · have e4 : F_X6_within x4 20 = some 0 := e4
      have e5 : F_X7_in x4.toInt64 0 20 = some 0 := e5
      rw [e4, e5, bz, bz]
      exact ⟨_, _, _, _, _, _, rfl, rfl, hRel0⟩
  · rw [e1, e3, bz, bz]
    exact ⟨_, _, _, _, _, _, rfl, rfl, hRel0⟩
  · rw [e1, e2, e3, bz]
    simp only [ob]
    rw [if_neg i10, if_pos trivial]
    exact ⟨_, _, _, _, _, _, rfl, rfl, hRel0⟩
