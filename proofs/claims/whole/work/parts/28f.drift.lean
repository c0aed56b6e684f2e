/-! drift -/
theorem bits15 (x : Int32) : iushr x 16 &&& 32767 = ishr x 16 &&& 32767 := by
  have a : (iushr x 16).toBitVec = x.toBitVec >>> 16 := rfl
  have b : (ishr x 16).toBitVec = x.toBitVec.sshiftRight 16 := rfl
  have e : (iushr x 16).toBitVec.setWidth 15 = (ishr x 16).toBitVec.setWidth 15 := by
    rw [a, b]
    ext i hi
    simp [BitVec.getLsbD_sshiftRight, BitVec.getElem_sshiftRight]
    rw [if_pos (by omega), decide_eq_false (by omega)]
    rfl
  have e2 : (iushr x 16).toBitVec.toNat % 2 ^ 15 = (ishr x 16).toBitVec.toNat % 2 ^ 15 := by
    have := congrArg BitVec.toNat e
    rw [BitVec.toNat_setWidth, BitVec.toNat_setWidth] at this; exact this
  rw [show (32767 : Int32) = nI (2 ^ 15 - 1) from rfl, pk_and _ 15 (by decide), pk_and _ 15 (by decide), e2]
theorem luck4 (x : Int32) : ∃ k, k < 4 ∧ irem ((x &&& 32767) / 4) 4 = nI k := by
  rw [show (32767 : Int32) = nI (2 ^ 15 - 1) from rfl, pk_and _ 15 (by decide)]
  have h : x.toBitVec.toNat % 2 ^ 15 < 2 ^ 15 := Nat.mod_lt _ (by decide)
  rw [show (4 : Int32) = nI 4 from rfl, pk_div (by omega) (by decide) (by decide), irem_nI (by omega) (by decide) (by decide)]
  exact ⟨_, Nat.mod_lt _ (by decide), rfl⟩
theorem NB_field {f : Int32} {T P S R : Nat} {sg : Nat → Int32} {rt : Nat → Rot} {b : Nat → Int32} (h : NB f T P S R sg rt b) (g : Int32) : NB g T P S R sg rt (upd b 0 g) := by
  obtain ⟨⟨a0, a1, a2, a3, a4⟩, hs, hr⟩ := h
  have o : ∀ j, j ≠ 0 → upd b 0 g j = b j := fun j h => upd_off _ _ h
  exact ⟨⟨upd_at _ _ _, (o 17 (by omega)).trans a1, (o 18 (by omega)).trans a2, (o 19 (by omega)).trans a3, (o 36 (by omega)).trans a4⟩, fun i hi => (o _ (by omega)).trans (hs i hi), fun r hr' => ⟨(o _ (by omega)).trans (hr r hr').1, (o _ (by omega)).trans (hr r hr').2.1, (o _ (by omega)).trans (hr r hr').2.2.1, (o _ (by omega)).trans (hr r hr').2.2.2⟩⟩
theorem drift_loop {nf nt np nsn nrn : Int32} {nsg st : Nat → Int32} {nrt : Nat → Rot} {P S R n : Nat} {sg : Nat → Int32} {x3 : Int32} (hS : S ≤ 16) (hR : R ≤ 4) (hn : n ≤ 200) : ∀ (m i fu fu' T : Nat) (f : Int32) (rt : Nat → Rot) (mv sl sd : Int32) (nw : Nat → Int32), i + m = n → m < fu → m < fu' → kOk R rt → NB f T P S R sg rt nw →
    ∃ r w w', F_X6_drift_55 fu nf nt np nsn nrn nsg nrt f (nI T) (nI P) (nI S) (nI R) sg rt (nI n) x3 mv sd (nI i) = some (r, w) ∧ F_X7_drift_44 fu' mv sl st nw (nI n) x3 sd (nI i) = some (r, w') := by
  intro m
  induction m with
  | zero =>
    intro i fu fu' T f rt mv sl sd nw h1 h2 h3 hk hN
    obtain ⟨fu, rfl⟩ : ∃ g, fu = g + 1 := ⟨fu - 1, by omega⟩
    obtain ⟨fu', rfl⟩ : ∃ g, fu' = g + 1 := ⟨fu' - 1, by omega⟩
    obtain rfl : i = n := by omega
    unfold F_X6_drift_55 F_X7_drift_44
    rw [if_pos (nI_le (Nat.le_refl _) (by omega)), if_pos (nI_le (Nat.le_refl _) (by omega)), allLostC hR, allLostM hN hR]
    simp only [ob]
    by_cases c : x3 = 0
    · rw [if_pos c, if_pos c]; exact ⟨_, _, _, rfl, rfl⟩
    · rw [if_neg c, if_neg c]; exact ⟨_, _, _, rfl, rfl⟩
  | succ m ih =>
    intro i fu fu' T f rt mv sl sd nw h1 h2 h3 hk hN
    obtain ⟨fu, rfl⟩ : ∃ g, fu = g + 1 := ⟨fu - 1, by omega⟩
    obtain ⟨fu', rfl⟩ : ∃ g, fu' = g + 1 := ⟨fu' - 1, by omega⟩
    unfold F_X6_drift_55 F_X7_drift_44
    rw [if_neg (nI_ge (by omega) (by omega)), if_neg (nI_ge (by omega) (by omega)), bits15, moveField_eq, byOf_eq (luck4 _)]
    simp only [ob]
    rw [pullRotors_eq hR, chk_pos (by decide), chk_pos (by decide), show (0 : Int32).toNatClampNeg = 0 from rfl, hN.1.1]
    simp only [ob]
    generalize byS (irem ((ishr (sd * 1103515245 + 12345) 16 &&& 32767) / 4) 4) = d
    obtain ⟨nw2, e4, hN3, _⟩ := rotorsGoM (NB_field hN (f + d)) hS hR hk mv sl
    rw [e4]
    simp only [ob]
    rw [nI_1]
    exact ih (i + 1) fu fu' (T + 1) _ _ _ _ _ _ (by omega) (by omega) (by omega) (kOk_pul R hk) hN3
theorem p_drift : P_drift := by
  intro rf len fl by_ f t p sn rn sg rt tr_f tr_t tr_p tr_sn tr_rn tr_sg tr_rt n to wh le k0 f0 t0 p0 sn0 rn0 sg0 rt0 n0 to0 wh0 le0 k1 f1 t1 p1 sn1 rn1 sg1 rt1 n1 to1 wh1 le1 sh tp mf m_moved m_slipTicks tn st m_now kp ta la si ce hRel x1 x2 x3
  have hRel0 := hRel
  obtain ⟨h1, hT, hB, hI0, hI1, hSh⟩ := hRel
  obtain ⟨T, P, S, R, N, ⟨zT, zP1, zP2, zS, zR, zN⟩, ⟨rfl, rfl, rfl, rfl, rfl⟩, ⟨b0, b17, b18, b19, b36, b37⟩, bs, br, bn, bf⟩ := hB
  have hNB : NB f T P S R sg rt st := ⟨⟨b0, b17, b18, b19, b36⟩, fun i hi => (bs i hi).1, fun r hr => (br r hr).1⟩
  have hk : kOk R rt := fun r hr => (br r hr).2.1
  have hs : sOk S sg := fun i hi => (bs i hi).2
  unfold F_X6_drift F_X7_drift F_X7_in
  have e1 : (x2.toInt64 < 1) ↔ x2 < 1 := wide_lt x2 1
  have e2 : ((200 : Int64) < x2.toInt64) ↔ 200 < x2 := wide_lt 200 x2
  simp only [lg_cmp_lt, lg_cmp_gt, e1, e2]
  by_cases c1 : x2 < 1
  · rw [if_pos c1, if_pos c1, bz]
    exact ⟨_, _, _, _, _, _, _, _, _, _, _, rfl, rfl, hRel0⟩
  · rw [if_neg c1, if_neg c1]
    by_cases c2 : 200 < x2
    · rw [if_pos c2, if_pos c2, bz]
      exact ⟨_, _, _, _, _, _, _, _, _, _, _, rfl, rfl, hRel0⟩
    · rw [if_neg c2, if_neg c2]
      simp only [ob]
      rw [if_neg i10]
      have h9 : (200 : Int32).toInt = 200 := by decide
      have h8 : (1 : Int32).toInt = 1 := by decide
      rw [i_lt] at c1 c2
      obtain ⟨m, hm, rfl⟩ : ∃ m, m ≤ 200 ∧ x2 = nI m := ⟨x2.toInt.toNat, by omega, by rw [i_eq, nI_toInt (by omega)]; omega⟩
      rcases part_cases x3 with ⟨j, hj, rfl, e1, e2⟩ | ⟨e1, e2⟩
      · rw [e1, e2]
        simp only [ob]
        rw [if_neg i10, if_neg i10, chk_pos (by decide), show (36 : Int32).toNatClampNeg = 36 from rfl, b36]
        by_cases c3 : nI R = 0
        · rw [if_pos c3, if_pos c3]
          exact ⟨_, _, _, _, _, _, _, _, _, _, _, rfl, rfl, hRel0⟩
        · rw [if_neg c3, if_neg c3]
          obtain ⟨sg', rt', ec, es, er⟩ := copyC zR tr_f tr_t tr_p tr_sn tr_rn tr_sg tr_rt f (nI T) (nI P) (nI S) sg rt
          obtain ⟨nw, e0, en⟩ := takesAllM m_moved m_slipTicks st m_now
          have hN2 : NB f T P S R sg' rt' nw := NB_rt (NB_sg (NB_cong hNB zS zR (fun j hj => en j (by omega))) (fun i hi => es i (by omega))) er
          have hk2 : kOk R rt' := fun r hr => by rw [er r hr]; exact hk r hr
          have hs2 : sOk S sg' := fun i hi => by rw [es i (by omega)]; exact hs i hi
          rw [ec, e0]
          simp only [ob]
          obtain ⟨r, ⟨w1, w2, w3, w4, w5, w6, w7⟩, ⟨w8, w9, w10⟩, g1, g2⟩ := drift_loop (nf := f) (nt := nI T) (np := nI P) (nsn := nI S) (nrn := nI R) (nsg := sg) (nrt := rt) (st := st) (n := m) (x3 := nI j) zS zR hm m 0 FU FU T f rt' 0 0 x1 nw (by omega) (by unfold FU; omega) (by unfold FU; omega) hk2 hN2
          have g1 : F_X6_drift_55 FU f (nI T) (nI P) (nI S) (nI R) sg rt f (nI T) (nI P) (nI S) (nI R) sg' rt' (nI m) (nI j) 0 x1 0 = some (r, w1, w2, w3, w4, w5, w6, w7) := g1
          have g2 : F_X7_drift_44 FU 0 0 st nw (nI m) (nI j) x1 0 = some (r, w8, w9, w10) := g2
          rw [g1, g2]
          exact ⟨_, _, _, _, _, _, _, _, _, _, _, rfl, rfl, hRel0⟩
      · rw [e1, e2, bz, bz]
        exact ⟨_, _, _, _, _, _, _, _, _, _, _, rfl, rfl, hRel0⟩
