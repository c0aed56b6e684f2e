/-! ranges: the class's way to ask and the reference's -/
theorem rng_cases (x : Int32) (K : Nat) (hK : K < 2 ^ 31) :
    (∃ k, k ≤ K ∧ x = nI k ∧ F_X6_within x (nI K) = some 1 ∧ F_X7_in x.toInt64 0 (lN K) = some 1) ∨ (F_X6_within x (nI K) = some 0 ∧ F_X7_in x.toInt64 0 (lN K) = some 0) := by
  have hr := fb_rng x
  have h0 : (0 : Int32).toInt = 0 := by decide
  have hk := nI_toInt hK
  have e1 : (x.toInt64 < 0) ↔ x < 0 := wide_lt x 0
  have e2 : (lN K < x.toInt64) ↔ nI K < x := by rw [← nI_l hK, wide_lt]
  unfold F_X6_within F_X7_in
  simp only [lg_cmp_lt, lg_cmp_gt, e1, e2]
  by_cases a : x < 0
  · right; simp only [if_pos a]; exact ⟨trivial, trivial⟩
  · by_cases c : nI K < x
    · right; simp only [if_neg a, if_pos c]; exact ⟨trivial, trivial⟩
    · left
      simp only [if_neg a, if_neg c]
      rw [i_lt] at a c
      refine ⟨x.toInt.toNat, by omega, ?_, trivial, trivial⟩
      rw [i_eq, nI_toInt (by omega)]; omega
theorem num_cases (x : Int32) (N : Nat) (hN : N < 2 ^ 31) :
    (∃ k, k < N ∧ x = nI k ∧ F_X6_hasRotor (nI N) x = some 1 ∧ F_X7_in x.toInt64 0 (nI N - 1).toInt64 = some 1) ∨ (F_X6_hasRotor (nI N) x = some 0 ∧ F_X7_in x.toInt64 0 (nI N - 1).toInt64 = some 0) := by
  have hr := fb_rng x
  have h0 : (0 : Int32).toInt = 0 := by decide
  have h1 : (1 : Int32).toInt = 1 := by decide
  have hk := nI_toInt hN
  have hs : (nI N - 1).toInt = (N : Int) - 1 := by rw [fb_subI (by omega) (by omega)]; omega
  have e1 : (x.toInt64 < 0) ↔ x < 0 := wide_lt x 0
  have e2 : ((nI N - 1).toInt64 < x.toInt64) ↔ nI N ≤ x := by rw [wide_lt, i_lt, i_le]; omega
  unfold F_X6_hasRotor F_X7_in
  simp only [lg_cmp_lt, lg_cmp_gt, e1, e2]
  by_cases a : x < 0
  · right; simp only [if_pos a]; exact ⟨trivial, trivial⟩
  · by_cases c : nI N ≤ x
    · right; simp only [if_neg a, if_pos c]; exact ⟨trivial, trivial⟩
    · left
      simp only [if_neg a, if_neg c]
      rw [i_lt] at a; rw [i_le] at c
      refine ⟨x.toInt.toNat, by omega, ?_, trivial, trivial⟩
      rw [i_eq, nI_toInt (by omega)]; omega
theorem rotor_cases {st : Nat → Int32} {R : Nat} (h : st 36 = nI R) (hR : R ≤ 4) (x : Int32) :
    (∃ k, k < R ∧ x = nI k ∧ F_X6_hasRotor (nI R) x = some 1 ∧ F_X7_isRotor st x = some 1) ∨ (F_X6_hasRotor (nI R) x = some 0 ∧ F_X7_isRotor st x = some 0) := by
  unfold F_X7_isRotor
  rw [chk_pos (by decide), show (36 : Int32).toNatClampNeg = 36 from rfl, h]
  rcases num_cases x R (by omega) with ⟨k, hk, e, h1, h2⟩ | ⟨h1, h2⟩
  · left; refine ⟨k, hk, e, h1, ?_⟩; rw [h2]; exact chk_pos (by decide)
  · right; refine ⟨h1, ?_⟩; rw [h2]; exact chk_pos (by decide)
theorem sign_cases {st : Nat → Int32} {S : Nat} (h : st 17 = nI S) (hS : S ≤ 16) (x : Int32) :
    (∃ k, k < S ∧ x = nI k ∧ F_X6_hasSign (nI S) x = some 1 ∧ F_X7_isSign st x = some 1) ∨ (F_X6_hasSign (nI S) x = some 0 ∧ F_X7_isSign st x = some 0) := by
  unfold F_X7_isSign
  rw [chk_pos (by decide), show (17 : Int32).toNatClampNeg = 17 from rfl, h]
  rcases num_cases x S (by omega) with ⟨k, hk, e, h1, h2⟩ | ⟨h1, h2⟩
  · left; refine ⟨k, hk, e, h1, ?_⟩; rw [h2]; exact chk_pos (by decide)
  · right; refine ⟨h1, ?_⟩; rw [h2]; exact chk_pos (by decide)
theorem becomes_eq {st : Nat → Int32} {j : Nat} (hj : j < 168) (v : Int32) : F_X7_becomes st (nI j) v = some (st j, upd st j v) := by
  unfold F_X7_becomes
  rw [chk_pos (inb_nI hj (by decide)), chk_pos (inb_nI hj (by decide)), cl_nI (by omega)]
theorem i10 : ¬ (1 : Int32) = 0 := by decide
theorem upd_at (f : Nat → Int32) (k : Nat) (v : Int32) : upd f k v k = v := if_pos rfl
theorem upd_off (f : Nat → Int32) {k j : Nat} (v : Int32) (h : j ≠ k) : upd f k v j = f j := if_neg h
theorem RI_st {k f t p sn rn n mk : Int32} {sg to wh le st st' : Nat → Int32} {rt : Nat → Rot} {o : Nat} (h : RI k f t p sn rn sg rt n to wh le mk (fun j => st (o + j))) (ho : 56 ≤ o) (e : ∀ j, 56 ≤ j → st' j = st j) : RI k f t p sn rn sg rt n to wh le mk (fun j => st' (o + j)) := by
  have : (fun j => st' (o + j)) = fun j => st (o + j) := funext fun j => e _ (by omega)
  rw [this]; exact h
theorem p_fault : P_fault := by
  intro rf len fl by_ f t p sn rn sg rt n to wh le k0 f0 t0 p0 sn0 rn0 sg0 rt0 n0 to0 wh0 le0 k1 f1 t1 p1 sn1 rn1 sg1 rt1 n1 to1 wh1 le1 sh tp mf tn st kp ta la si ce hRel 
  obtain ⟨⟨h1, h2⟩, hRel⟩ := hRel
  subst h2
  exact ⟨_, rfl, rfl, ⟨h1, rfl⟩, hRel⟩
theorem p_torn : P_torn := by
  intro rf len fl by_ f t p sn rn sg rt n to wh le k0 f0 t0 p0 sn0 rn0 sg0 rt0 n0 to0 wh0 le0 k1 f1 t1 p1 sn1 rn1 sg1 rt1 n1 to1 wh1 le1 sh tp mf tn st kp ta la si ce hRel 
  obtain ⟨⟨h1, h2⟩, hRel⟩ := hRel
  subst h1
  exact ⟨_, rfl, rfl, ⟨rfl, h2⟩, hRel⟩
theorem p_feed : P_feed := by
  intro rf len fl by_ f t p sn rn sg rt n to wh le k0 f0 t0 p0 sn0 rn0 sg0 rt0 n0 to0 wh0 le0 k1 f1 t1 p1 sn1 rn1 sg1 rt1 n1 to1 wh1 le1 sh tp mf tn st kp ta la si ce hRel x1
  obtain ⟨h1, ⟨N, hN, rfl, rfl, hb⟩, hRel⟩ := hRel
  unfold F_X6_feed F_X7_feed
  rcases rng_cases x1 127 (by decide) with ⟨k, hk, rfl, e1, e2⟩ | ⟨e1, e2⟩
  · have e1 : F_X6_within (nI k) 127 = some 1 := e1
    have e2 : F_X7_in (nI k).toInt64 0 127 = some 1 := e2
    rw [e1, e2]
    simp only [Option.bind_some, if_neg i10]
    have hn : (vp_nar .byte (nI k).toInt8.toInt32) = nI k := by
      have : ∀ k, k < 128 → (vp_nar .byte (nI k).toInt8.toInt32) = nI k := by decide +kernel
      exact this k (by omega)
    rw [hn]
    by_cases c : N = 160
    · subst c
      rw [if_neg (by decide), if_pos (by decide)]
      exact ⟨_, _, _, _, _, rfl, rfl, h1, ⟨160, hN, rfl, rfl, hb⟩, hRel⟩
    · rw [if_pos (show nI N < (160 : Int32) from nI_lt (b := 160) (by omega) (by decide)), if_neg (by rw [show (160 : Int32) = nI 160 from rfl, nI_eq (by omega) (by decide)]; exact c), chk_pos (inb_nI (by omega) (by decide)), chk_pos (inb_nI (by omega) (by decide)), cl_nI (by omega), nI_1]
      refine ⟨_, _, _, _, _, rfl, rfl, h1, ⟨N + 1, by omega, rfl, rfl, ?_⟩, hRel⟩
      intro i hi
      by_cases ci : i = N
      · subst ci; rw [upd_at, upd_at]; exact ⟨rfl, k, by omega, rfl⟩
      · rw [upd_off _ _ ci, upd_off _ _ ci]; exact hb i (by omega)
  · have e1 : F_X6_within x1 127 = some 0 := e1
    have e2 : F_X7_in x1.toInt64 0 127 = some 0 := e2
    rw [e1, e2]
    exact ⟨_, _, _, _, _, rfl, rfl, h1, ⟨N, hN, rfl, rfl, hb⟩, hRel⟩
theorem p_end : P_end := by
  intro rf len fl by_ f t p sn rn sg rt n to wh le k0 f0 t0 p0 sn0 rn0 sg0 rt0 n0 to0 wh0 le0 k1 f1 t1 p1 sn1 rn1 sg1 rt1 n1 to1 wh1 le1 sh tp mf tn st kp ta la si ce hRel x1
  obtain ⟨h1, ⟨N, hN, rfl, rfl, hb⟩, hRel⟩ := hRel
  unfold F_X6_end F_X7_end
  rw [nI_l (by omega)]
  rcases rng_cases x1 N (by omega) with ⟨k, hk, rfl, e1, e2⟩ | ⟨e1, e2⟩
  · rw [e1, e2]
    exact ⟨_, _, _, rfl, rfl, h1, ⟨k, by omega, rfl, rfl, fun i hi => hb i (by omega)⟩, hRel⟩
  · rw [e1, e2]
    exact ⟨_, _, _, rfl, rfl, h1, ⟨N, hN, rfl, rfl, hb⟩, hRel⟩
theorem p_sign : P_sign := by
  intro rf len fl by_ f t p sn rn sg rt n to wh le k0 f0 t0 p0 sn0 rn0 sg0 rt0 n0 to0 wh0 le0 k1 f1 t1 p1 sn1 rn1 sg1 rt1 n1 to1 wh1 le1 sh tp mf tn st kp ta la si ce hRel x1
  have hRel0 := hRel
  obtain ⟨h1, hT, hB, hI0, hI1, hSh⟩ := hRel
  obtain ⟨T, P, S, R, N, ⟨zT, zP1, zP2, zS, zR, zN⟩, ⟨rfl, rfl, rfl, rfl, rfl⟩, ⟨b0, b17, b18, b19, b36, b37⟩, bs, br, bn, bf⟩ := hB
  unfold F_X6_sign F_X7_sign
  rcases sign_cases b17 zS x1 with ⟨k, hk, rfl, e1, e2⟩ | ⟨e1, e2⟩
  · rw [e1, e2]
    simp only [Option.bind_some, if_neg i10]
    rw [chk_pos (inb_nI (by omega) (by decide)), show (1 : Int32) + nI k = nI (1 + k) from nI_add 1 k, chk_pos (inb_nI (by omega) (by decide)), cl_nI (by omega), cl_nI (by omega), (bs k hk).1]
    exact ⟨_, rfl, rfl, hRel0⟩
  · rw [e1, e2]
    exact ⟨_, rfl, rfl, hRel0⟩
theorem canSet_cases {st : Nat → Int32} {S : Nat} (h : st 17 = nI S) (hS : S ≤ 16) (x1 x2 : Int32) :
    (∃ k v, k < S ∧ v < 4 ∧ x1 = nI k ∧ x2 = nI v ∧ F_X6_canSet (nI S) x1 x2 = some 1 ∧ F_X7_set st x1 x2 = some (st (1 + k), upd st (1 + k) x2)) ∨ (F_X6_canSet (nI S) x1 x2 = some 0 ∧ F_X7_set st x1 x2 = some (-1, st)) := by
  unfold F_X6_canSet F_X7_set
  rcases sign_cases h hS x1 with ⟨k, hk, rfl, e1, e2⟩ | ⟨e1, e2⟩
  · rw [e1, e2]
    simp only [Option.bind_some, if_neg i10]
    rcases rng_cases x2 3 (by decide) with ⟨v, hv, rfl, e1, e2⟩ | ⟨e1, e2⟩
    · left
      have e1 : F_X6_within (nI v) 3 = some 1 := e1
      have e2 : F_X7_in (nI v).toInt64 0 3 = some 1 := e2
      refine ⟨k, v, hk, by omega, rfl, rfl, ?_, ?_⟩
      · rw [e1]; rfl
      · rw [e2]
        simp only [Option.bind_some, if_neg i10]
        rw [show (1 : Int32) + nI k = nI (1 + k) from nI_add 1 k, becomes_eq (by omega)]
        rfl
    · right
      have e1 : F_X6_within x2 3 = some 0 := e1
      have e2 : F_X7_in x2.toInt64 0 3 = some 0 := e2
      rw [e1, e2]
      exact ⟨rfl, rfl⟩
  · right; rw [e1, e2]; exact ⟨rfl, rfl⟩
theorem p_set : P_set := by
  intro rf len fl by_ f t p sn rn sg rt n to wh le k0 f0 t0 p0 sn0 rn0 sg0 rt0 n0 to0 wh0 le0 k1 f1 t1 p1 sn1 rn1 sg1 rt1 n1 to1 wh1 le1 sh tp mf tn st kp ta la si ce hRel x1 x2
  have hRel0 := hRel
  obtain ⟨h1, hT, hB, hI0, hI1, hSh⟩ := hRel
  obtain ⟨T, P, S, R, N, ⟨zT, zP1, zP2, zS, zR, zN⟩, ⟨rfl, rfl, rfl, rfl, rfl⟩, ⟨b0, b17, b18, b19, b36, b37⟩, bs, br, bn, bf⟩ := hB
  unfold F_X6_set
  rcases canSet_cases b17 zS x1 x2 with ⟨k, v, hk, hv, rfl, rfl, e1, e2⟩ | ⟨e1, e2⟩
  · rw [e1, e2]
    simp only [Option.bind_some, if_neg i10]
    rw [chk_pos (inb_nI (by omega) (by decide)), chk_pos (inb_nI (by omega) (by decide)), cl_nI (by omega), (bs k hk).1]
    have o : ∀ j, j ≠ 1 + k → upd st (1 + k) (nI v) j = st j := fun j h => upd_off _ _ h
    refine ⟨_, _, _, rfl, rfl, h1, hT, ⟨T, P, S, R, N, ⟨zT, zP1, zP2, zS, zR, zN⟩, ⟨rfl, rfl, rfl, rfl, rfl⟩, ⟨(o 0 (by omega)).trans b0, (o 17 (by omega)).trans b17, (o 18 (by omega)).trans b18, (o 19 (by omega)).trans b19, (o 36 (by omega)).trans b36, (o 37 (by omega)).trans b37⟩, ?_, fun r hr => ⟨⟨(o _ (by omega)).trans (br r hr).1.1, (o _ (by omega)).trans (br r hr).1.2.1, (o _ (by omega)).trans (br r hr).1.2.2.1, (o _ (by omega)).trans (br r hr).1.2.2.2⟩, (br r hr).2⟩, fun i hi => ⟨⟨(o _ (by omega)).trans (bn i hi).1.1, (o _ (by omega)).trans (bn i hi).1.2.1, (o _ (by omega)).trans (bn i hi).1.2.2⟩, (bn i hi).2⟩, bf⟩, RI_st hI0 (by omega) (fun j hj => o j (by omega)), RI_st hI1 (by omega) (fun j hj => o j (by omega)), hSh⟩
    intro i hi
    by_cases c : i = k
    · subst c; rw [upd_at, upd_at]; exact ⟨rfl, v, hv, rfl⟩
    · rw [upd_off _ _ c, o _ (by omega)]; exact bs i hi
  · rw [e1, e2]
    exact ⟨_, _, _, rfl, rfl, hRel0⟩
theorem p_every : P_every := by
  intro rf len fl by_ f t p sn rn sg rt n to wh le k0 f0 t0 p0 sn0 rn0 sg0 rt0 n0 to0 wh0 le0 k1 f1 t1 p1 sn1 rn1 sg1 rt1 n1 to1 wh1 le1 sh tp mf tn st kp ta la si ce hRel x1
  have hRel0 := hRel
  obtain ⟨h1, hT, hB, hI0, hI1, hSh⟩ := hRel
  obtain ⟨T, P, S, R, N, ⟨zT, zP1, zP2, zS, zR, zN⟩, ⟨rfl, rfl, rfl, rfl, rfl⟩, ⟨b0, b17, b18, b19, b36, b37⟩, bs, br, bn, bf⟩ := hB
  unfold F_X6_every F_X7_every F_X7_in
  have e1 : (x1.toInt64 < 1) ↔ x1 < 1 := wide_lt x1 1
  have e2 : ((9 : Int64) < x1.toInt64) ↔ 9 < x1 := wide_lt 9 x1
  simp only [lg_cmp_lt, lg_cmp_gt, e1, e2]
  by_cases c1 : x1 < 1
  · simp only [if_pos c1]
    exact ⟨_, _, _, rfl, rfl, hRel0⟩
  · simp only [if_neg c1]
    by_cases c2 : 9 < x1
    · have c3 : ¬ x1 ≤ 9 := by rw [i_le]; rw [i_lt] at c2; omega
      simp only [if_pos c2, if_neg c3]
      exact ⟨_, _, _, rfl, rfl, hRel0⟩
    · have c3 : x1 ≤ 9 := by rw [i_le]; rw [i_lt] at c2; omega
      simp only [if_neg c2, if_pos c3, Option.bind_some, if_neg i10]
      have h9 : (9 : Int32).toInt = 9 := by decide
      have h8 : (1 : Int32).toInt = 1 := by decide
      have c4 := c3
      rw [i_lt] at c1; rw [i_le] at c4
      have hx : x1 = nI x1.toInt.toNat := by rw [i_eq, nI_toInt (by omega)]; omega
      rw [show (18 : Int32) = nI 18 from rfl, becomes_eq (by omega), b18]
      have o : ∀ j, j ≠ 18 → upd st 18 x1 j = st j := fun j h => upd_off _ _ h
      refine ⟨_, _, _, rfl, rfl, h1, hT, ⟨T, x1.toInt.toNat, S, R, N, ⟨zT, by omega, by omega, zS, zR, zN⟩, ⟨rfl, hx, rfl, rfl, rfl⟩, ⟨(o 0 (by omega)).trans b0, (o 17 (by omega)).trans b17, (upd_at st 18 x1).trans hx, (o 19 (by omega)).trans b19, (o 36 (by omega)).trans b36, (o 37 (by omega)).trans b37⟩, fun i hi => ⟨(o _ (by omega)).trans (bs i hi).1, (bs i hi).2⟩, fun r hr => ⟨⟨(o _ (by omega)).trans (br r hr).1.1, (o _ (by omega)).trans (br r hr).1.2.1, (o _ (by omega)).trans (br r hr).1.2.2.1, (o _ (by omega)).trans (br r hr).1.2.2.2⟩, (br r hr).2⟩, fun i hi => ⟨⟨(o _ (by omega)).trans (bn i hi).1.1, (o _ (by omega)).trans (bn i hi).1.2.1, (o _ (by omega)).trans (bn i hi).1.2.2⟩, (bn i hi).2⟩, bf⟩, RI_st hI0 (by omega) (fun j hj => o j (by omega)), RI_st hI1 (by omega) (fun j hj => o j (by omega)), hSh⟩
theorem p_cut : P_cut := by
  intro rf len fl by_ f t p sn rn sg rt n to wh le k0 f0 t0 p0 sn0 rn0 sg0 rt0 n0 to0 wh0 le0 k1 f1 t1 p1 sn1 rn1 sg1 rt1 n1 to1 wh1 le1 sh tp mf tn st kp ta la si ce hRel x1
  have hRel0 := hRel
  obtain ⟨h1, hT, hB, hI0, hI1, hSh⟩ := hRel
  obtain ⟨T, P, S, R, N, ⟨zT, zP1, zP2, zS, zR, zN⟩, ⟨rfl, rfl, rfl, rfl, rfl⟩, ⟨b0, b17, b18, b19, b36, b37⟩, bs, br, bn, bf⟩ := hB
  unfold F_X6_cut F_X7_cut
  rw [chk_pos (by decide), show (17 : Int32).toNatClampNeg = 17 from rfl, b17, nI_l (by omega)]
  rcases rng_cases x1 S (by omega) with ⟨k, hk, rfl, e1, e2⟩ | ⟨e1, e2⟩
  · rw [e1, e2]
    simp only [Option.bind_some, if_neg i10]
    rw [show (17 : Int32) = nI 17 from rfl, becomes_eq (by omega), b17]
    have o : ∀ j, j ≠ 17 → upd st 17 (nI k) j = st j := fun j h => upd_off _ _ h
    refine ⟨_, _, _, rfl, rfl, h1, hT, ⟨T, P, k, R, N, ⟨zT, zP1, zP2, by omega, zR, zN⟩, ⟨rfl, rfl, rfl, rfl, rfl⟩, ⟨(o 0 (by omega)).trans b0, upd_at st 17 (nI k), (o 18 (by omega)).trans b18, (o 19 (by omega)).trans b19, (o 36 (by omega)).trans b36, (o 37 (by omega)).trans b37⟩, fun i hi => ⟨(o _ (by omega)).trans (bs i (by omega)).1, (bs i (by omega)).2⟩, fun r hr => ⟨⟨(o _ (by omega)).trans (br r hr).1.1, (o _ (by omega)).trans (br r hr).1.2.1, (o _ (by omega)).trans (br r hr).1.2.2.1, (o _ (by omega)).trans (br r hr).1.2.2.2⟩, (br r hr).2⟩, fun i hi => ⟨⟨(o _ (by omega)).trans (bn i hi).1.1, (o _ (by omega)).trans (bn i hi).1.2.1, (o _ (by omega)).trans (bn i hi).1.2.2⟩, (bn i hi).2⟩, bf⟩, RI_st hI0 (by omega) (fun j hj => o j (by omega)), RI_st hI1 (by omega) (fun j hj => o j (by omega)), hSh⟩
  · rw [e1, e2]
    exact ⟨_, _, _, rfl, rfl, hRel0⟩
theorem p_add : P_add := by
  intro rf len fl by_ f t p sn rn sg rt n to wh le k0 f0 t0 p0 sn0 rn0 sg0 rt0 n0 to0 wh0 le0 k1 f1 t1 p1 sn1 rn1 sg1 rt1 n1 to1 wh1 le1 sh tp mf tn st kp ta la si ce hRel x1
  have hRel0 := hRel
  obtain ⟨h1, hT, hB, hI0, hI1, hSh⟩ := hRel
  obtain ⟨T, P, S, R, N, ⟨zT, zP1, zP2, zS, zR, zN⟩, ⟨rfl, rfl, rfl, rfl, rfl⟩, ⟨b0, b17, b18, b19, b36, b37⟩, bs, br, bn, bf⟩ := hB
  unfold F_X6_add F_X7_add F_X0_addSign
  rcases rng_cases x1 3 (by decide) with ⟨v, hv, rfl, e1, e2⟩ | ⟨e1, e2⟩
  · have e1 : F_X6_within (nI v) 3 = some 1 := e1
    have e2 : F_X7_in (nI v).toInt64 0 3 = some 1 := e2
    rw [e1, e2]
    simp only [Option.bind_some, if_neg i10]
    simp only [chk_pos (show inb (17 : Int32) 168 by decide), show (17 : Int32).toNatClampNeg = 17 from rfl, b17]
    by_cases c : S = 16
    · subst c
      rw [if_neg (show ¬ nI 16 < (16 : Int32) by decide), if_pos (show nI 16 = (16 : Int32) from rfl)]
      exact ⟨_, _, _, _, rfl, rfl, hRel0⟩
    · have c1 : nI S < (16 : Int32) := nI_lt (b := 16) (by omega) (by decide)
      have c2 : ¬ nI S = (16 : Int32) := by rw [show (16 : Int32) = nI 16 from rfl, nI_eq (by omega) (by decide)]; exact c
      rw [if_pos c1, if_neg c2]
      simp only [show (1 : Int32) + nI S = nI (1 + S) from nI_add 1 S, chk_pos (inb_nI (n := S) (N := 16) (by omega) (by decide)), chk_pos (inb_nI (n := 1 + S) (N := 168) (by omega) (by decide)), chk_pos (show inb (17 : Int32) 168 by decide), cl_nI (n := 1 + S) (by omega), cl_nI (n := S) (by omega), Option.bind_some, if_neg i10, upd_at]
      rw [upd_off _ _ (show 17 ≠ 1 + S by omega), b17, nI_1]
      have o : ∀ j, j ≠ 17 → j ≠ 1 + S → upd (upd st (1 + S) (nI v)) 17 (nI (S + 1)) j = st j := fun j h h' => by rw [upd_off _ _ h, upd_off _ _ h']
      refine ⟨_, _, _, _, rfl, rfl, h1, hT, ⟨T, P, S + 1, R, N, ⟨zT, zP1, zP2, by omega, zR, zN⟩, ⟨rfl, rfl, rfl, rfl, rfl⟩, ⟨(o 0 (by omega) (by omega)).trans b0, upd_at _ _ _, (o _ (by omega) (by omega)).trans b18, (o _ (by omega) (by omega)).trans b19, (o _ (by omega) (by omega)).trans b36, (o _ (by omega) (by omega)).trans b37⟩, ?_, ?_, ?_, bf⟩, RI_st hI0 (by omega) (fun j hj => o j (by omega) (by omega)), RI_st hI1 (by omega) (fun j hj => o j (by omega) (by omega)), hSh⟩
      · intro i hi
        by_cases ci : i = S
        · subst ci
          rw [upd_off _ _ (show 1 + i ≠ 17 by omega), upd_at, upd_at]; exact ⟨rfl, v, by omega, rfl⟩
        · rw [o _ (by omega) (by omega), upd_off _ _ ci]; exact bs i (by omega)
      · intro r hr
        rw [o _ (by omega) (by omega), o _ (by omega) (by omega), o _ (by omega) (by omega), o _ (by omega) (by omega)]; exact br r hr
      · intro i hi
        rw [o _ (by omega) (by omega), o _ (by omega) (by omega), o _ (by omega) (by omega)]; exact bn i hi
  · have e1 : F_X6_within x1 3 = some 0 := e1
    have e2 : F_X7_in x1.toInt64 0 3 = some 0 := e2
    rw [e1, e2]
    exact ⟨_, _, _, _, rfl, rfl, hRel0⟩
theorem p_forget : P_forget := by
  intro rf len fl by_ f t p sn rn sg rt n to wh le k0 f0 t0 p0 sn0 rn0 sg0 rt0 n0 to0 wh0 le0 k1 f1 t1 p1 sn1 rn1 sg1 rt1 n1 to1 wh1 le1 sh tp mf tn st kp ta la si ce hRel x1
  have hRel0 := hRel
  obtain ⟨h1, hT, hB, hI0, hI1, hSh⟩ := hRel
  obtain ⟨T, P, S, R, N, ⟨zT, zP1, zP2, zS, zR, zN⟩, ⟨rfl, rfl, rfl, rfl, rfl⟩, ⟨b0, b17, b18, b19, b36, b37⟩, bs, br, bn, bf⟩ := hB
  unfold F_X6_forget F_X7_forget
  rw [chk_pos (by decide), show (37 : Int32).toNatClampNeg = 37 from rfl, b37, nI_l (by omega)]
  rcases rng_cases x1 N (by omega) with ⟨k, hk, rfl, e1, e2⟩ | ⟨e1, e2⟩
  · rw [e1, e2]
    simp only [Option.bind_some, if_neg i10]
    rw [show (37 : Int32) = nI 37 from rfl, becomes_eq (by omega), b37]
    have o : ∀ j, j ≠ 37 → upd st 37 (nI k) j = st j := fun j h => upd_off _ _ h
    refine ⟨_, _, _, rfl, rfl, h1, hT, ⟨T, P, S, R, k, ⟨zT, zP1, zP2, zS, zR, by omega⟩, ⟨rfl, rfl, rfl, rfl, rfl⟩, ⟨(o 0 (by omega)).trans b0, (o 17 (by omega)).trans b17, (o 18 (by omega)).trans b18, (o 19 (by omega)).trans b19, (o 36 (by omega)).trans b36, upd_at st 37 (nI k)⟩, fun i hi => ⟨(o _ (by omega)).trans (bs i hi).1, (bs i hi).2⟩, fun r hr => ⟨⟨(o _ (by omega)).trans (br r hr).1.1, (o _ (by omega)).trans (br r hr).1.2.1, (o _ (by omega)).trans (br r hr).1.2.2.1, (o _ (by omega)).trans (br r hr).1.2.2.2⟩, (br r hr).2⟩, fun i hi => ⟨⟨(o _ (by omega)).trans (bn i (by omega)).1.1, (o _ (by omega)).trans (bn i (by omega)).1.2.1, (o _ (by omega)).trans (bn i (by omega)).1.2.2⟩, (bn i (by omega)).2⟩, bf⟩, RI_st hI0 (by omega) (fun j hj => o j (by omega)), RI_st hI1 (by omega) (fun j hj => o j (by omega)), hSh⟩
  · rw [e1, e2]
    exact ⟨_, _, _, rfl, rfl, hRel0⟩
