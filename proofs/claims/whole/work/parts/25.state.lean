/-! what the drive is asked: slipping, all lost -/
theorem off2_eq (p f : Int32) : F_X2_off p f = some (offS f p) := rfl
theorem lost2_eq (p f : Int32) : F_X2_lost p f = some (lostS f p) := rfl
theorem slips2_eq (g p f : Int32) : F_X2_slips g p f = some (if iabs (offS f p) ≤ g then 0 else 1) := by
  unfold F_X2_slips
  rw [off2_eq]
  simp only [Option.bind_some]
  by_cases c : iabs (offS f p) ≤ g
  · rw [if_pos c, if_pos c]
  · rw [if_neg c, if_neg c]
theorem slippingC_loop {f : Int32} {R : Nat} {rt : Nat → Rot} (hR : R ≤ 4) : ∀ (fu i : Nat), i ≤ R → R - i < fu → F_X0_slipping_4 fu f (nI R) rt (slB f rt i) (nI i) = some (slB f rt R) := by
  intro fu
  induction fu with
  | zero => intro i h1 h2; omega
  | succ fu ih =>
    intro i h1 h2
    unfold F_X0_slipping_4
    by_cases hc : R ≤ i
    · have e : i = R := by omega
      subst e
      rw [if_pos (nI_le (Nat.le_refl _) (by omega))]
    · rw [if_neg (nI_ge (by omega) (by omega)), chk_pos (inb_nI (by omega) (by decide)), cl_nI (by omega), slips2_eq]
      simp only [Option.bind_some]
      have hk := ih (i + 1) (by omega) (by omega)
      rw [nI_1]
      rw [show slB f rt (i + 1) = if iabs (offS f (rt i).2.2.1) ≤ (rt i).2.1 then slB f rt i else slB f rt i ||| ishl 1 (nI i) from rfl] at hk
      by_cases hs : iabs (offS f (rt i).2.2.1) ≤ (rt i).2.1
      · rw [if_pos hs] at hk
        rw [if_pos hs, if_pos rfl]
        exact hk
      · rw [if_neg hs] at hk
        rw [if_neg hs, if_neg i10]
        exact hk
theorem slippingC {f : Int32} {R : Nat} {rt : Nat → Rot} (hR : R ≤ 4) : F_X0_slipping f (nI R) rt = some (slB f rt R) := slippingC_loop hR FU 0 (by omega) (by unfold FU; omega)
theorem allLostC_loop {f : Int32} {R : Nat} {rt : Nat → Rot} (hR : R ≤ 4) : ∀ (fu i : Nat), i ≤ R → R - i < fu → F_X0_allLost_4 fu f (nI R) rt (sumI (fun r => iabs (lostS f (rt r).2.2.1)) i) (nI i) = some (alS R f rt) := by
  intro fu
  induction fu with
  | zero => intro i h1 h2; omega
  | succ fu ih =>
    intro i h1 h2
    unfold F_X0_allLost_4
    by_cases hc : R ≤ i
    · have e : i = R := by omega
      subst e
      rw [if_pos (nI_le (Nat.le_refl _) (by omega))]; rfl
    · rw [if_neg (nI_ge (by omega) (by omega)), chk_pos (inb_nI (by omega) (by decide)), cl_nI (by omega), lost2_eq]
      simp only [Option.bind_some]
      rw [nI_1]
      exact ih (i + 1) (by omega) (by omega)
theorem allLostC {f : Int32} {R : Nat} {rt : Nat → Rot} (hR : R ≤ 4) : F_X0_allLost f (nI R) rt = some (alS R f rt) := allLostC_loop hR FU 0 (by omega) (by unfold FU; omega)
theorem lostOfC {f : Int32} {rt : Nat → Rot} {k : Nat} (hk : k < 4) : F_X0_lostOf f rt (nI k) = some (lostS f (rt k).2.2.1) := by
  unfold F_X0_lostOf
  rw [chk_pos (inb_nI hk (by decide)), cl_nI (by omega), lost2_eq]; rfl
theorem p_rule : P_rule := by
  intro rf len fl by_ f t p sn rn sg rt n to wh le k0 f0 t0 p0 sn0 rn0 sg0 rt0 n0 to0 wh0 le0 k1 f1 t1 p1 sn1 rn1 sg1 rt1 n1 to1 wh1 le1 sh tp mf m_moved m_slipTicks tn st m_now kp ta la si ce hRel x1
  have hRel0 := hRel
  obtain ⟨h1, hT, hB, hI0, hI1, hSh⟩ := hRel
  obtain ⟨T, P, S, R, N, ⟨zT, zP1, zP2, zS, zR, zN⟩, ⟨rfl, rfl, rfl, rfl, rfl⟩, ⟨b0, b17, b18, b19, b36, b37⟩, bs, br, bn, bf⟩ := hB
  have hNB : NB f T P S R sg rt st := ⟨⟨b0, b17, b18, b19, b36⟩, fun i hi => (bs i hi).1, fun r hr => (br r hr).1⟩
  have hk : kOk R rt := fun r hr => (br r hr).2.1
  have hs : sOk S sg := fun i hi => (bs i hi).2
  obtain ⟨nw, e0, en⟩ := takesAllM m_moved m_slipTicks st m_now
  have hN2 := NB_cong hNB zS zR (fun j hj => en j (by omega))
  unfold F_X6_rule F_X7_rule
  rw [e0, slippingC zR, allLostC zR]
  simp only [Option.bind_some, slippingM hN2 zR, allLostM hN2 zR, chk_pos (show inb (36 : Int32) 168 by decide), chk_pos (show inb (17 : Int32) 168 by decide), chk_pos (show inb (18 : Int32) 168 by decide), chk_pos (show inb (19 : Int32) 168 by decide), chk_pos (show inb (0 : Int32) 168 by decide), show (36 : Int32).toNatClampNeg = 36 from rfl, show (17 : Int32).toNatClampNeg = 17 from rfl, show (18 : Int32).toNatClampNeg = 18 from rfl, show (19 : Int32).toNatClampNeg = 19 from rfl, show (0 : Int32).toNatClampNeg = 0 from rfl, b0, b17, b18, b19, b36]
  by_cases c0 : x1 = 0
  · simp only [if_pos c0]; exact ⟨_, _, _, _, rfl, rfl, hRel0⟩
  by_cases c1 : x1 = 1
  · simp only [if_neg c0, if_pos c1]; exact ⟨_, _, _, _, rfl, rfl, hRel0⟩
  by_cases c2 : x1 = 2
  · simp only [if_neg c0, if_neg c1, if_pos c2]; exact ⟨_, _, _, _, rfl, rfl, hRel0⟩
  by_cases c3 : x1 = 3
  · simp only [if_neg c0, if_neg c1, if_neg c2, if_pos c3]; exact ⟨_, _, _, _, rfl, rfl, hRel0⟩
  by_cases c4 : x1 = 4
  · simp only [if_neg c0, if_neg c1, if_neg c2, if_neg c3, if_pos c4]; exact ⟨_, _, _, _, rfl, rfl, hRel0⟩
  by_cases c5 : x1 = 5
  · simp only [if_neg c0, if_neg c1, if_neg c2, if_neg c3, if_neg c4, if_pos c5]; exact ⟨_, _, _, _, rfl, rfl, hRel0⟩
  by_cases c6 : x1 = 6
  · simp only [if_neg c0, if_neg c1, if_neg c2, if_neg c3, if_neg c4, if_neg c5, if_pos c6]; exact ⟨_, _, _, _, rfl, rfl, hRel0⟩
  · simp only [if_neg c0, if_neg c1, if_neg c2, if_neg c3, if_neg c4, if_neg c5, if_neg c6]; exact ⟨_, _, _, _, rfl, rfl, hRel0⟩
theorem p_rotor : P_rotor := by
  intro rf len fl by_ f t p sn rn sg rt n to wh le k0 f0 t0 p0 sn0 rn0 sg0 rt0 n0 to0 wh0 le0 k1 f1 t1 p1 sn1 rn1 sg1 rt1 n1 to1 wh1 le1 sh tp mf m_moved m_slipTicks tn st m_now kp ta la si ce hRel x1 x2
  have hRel0 := hRel
  obtain ⟨h1, hT, hB, hI0, hI1, hSh⟩ := hRel
  obtain ⟨T, P, S, R, N, ⟨zT, zP1, zP2, zS, zR, zN⟩, ⟨rfl, rfl, rfl, rfl, rfl⟩, ⟨b0, b17, b18, b19, b36, b37⟩, bs, br, bn, bf⟩ := hB
  have hNB : NB f T P S R sg rt st := ⟨⟨b0, b17, b18, b19, b36⟩, fun i hi => (bs i hi).1, fun r hr => (br r hr).1⟩
  have hk : kOk R rt := fun r hr => (br r hr).2.1
  have hs : sOk S sg := fun i hi => (bs i hi).2
  unfold F_X6_rotor F_X7_rotor
  rcases rotor_cases b36 zR x1 with ⟨k, hkR, rfl, e1, e2⟩ | ⟨e1, e2⟩
  · obtain ⟨nw, e0, en⟩ := takesAllM m_moved m_slipTicks st m_now
    have hN2 := NB_cong hNB zS zR (fun j hj => en j (by omega))
    have g := hN2.2.2 k hkR
    rw [e1, e2]
    simp only [Option.bind_some, if_neg i10, e0]
    rw [chk_pos (inb_nI (by omega) (by decide)), cl_nI (by omega), offM hN2 zR hkR, lostM hN2 zR hkR, off2_eq, lost2_eq, show F_X7_of nw (nI k) 2 = some (nw (20 + 4 * k + 2)) from of_eq (j := 2) (by omega) (by omega), show F_X7_of nw (nI k) 3 = some (nw (20 + 4 * k + 3)) from of_eq (j := 3) (by omega) (by omega), g.2.2.1, g.2.2.2]
    by_cases c0 : x2 = 0
    · subst c0
      simp only [if_pos rfl, show F_X7_of nw (nI k) 0 = some (nw (20 + 4 * k)) from of_eq (j := 0) (by omega) (by omega), g.1, Option.bind_some]; exact ⟨_, _, _, _, rfl, rfl, hRel0⟩
    by_cases c1 : x2 = 1
    · subst c1
      simp only [if_neg c0, if_pos rfl, show F_X7_of nw (nI k) 1 = some (nw (20 + 4 * k + 1)) from of_eq (j := 1) (by omega) (by omega), g.2.1, Option.bind_some]; exact ⟨_, _, _, _, rfl, rfl, hRel0⟩
    by_cases c2 : x2 = 2
    · simp only [if_neg c0, if_neg c1, if_pos c2, Option.bind_some]; exact ⟨_, _, _, _, rfl, rfl, hRel0⟩
    by_cases c3 : x2 = 3
    · simp only [if_neg c0, if_neg c1, if_neg c2, if_pos c3, Option.bind_some]; exact ⟨_, _, _, _, rfl, rfl, hRel0⟩
    by_cases c4 : x2 = 4
    · simp only [if_neg c0, if_neg c1, if_neg c2, if_neg c3, if_pos c4, Option.bind_some]; exact ⟨_, _, _, _, rfl, rfl, hRel0⟩
    by_cases c5 : x2 = 5
    · simp only [if_neg c0, if_neg c1, if_neg c2, if_neg c3, if_neg c4, if_pos c5, Option.bind_some]; exact ⟨_, _, _, _, rfl, rfl, hRel0⟩
    · simp only [if_neg c0, if_neg c1, if_neg c2, if_neg c3, if_neg c4, if_neg c5, Option.bind_some]; exact ⟨_, _, _, _, rfl, rfl, hRel0⟩
  · rw [e1, e2]
    exact ⟨_, _, _, _, rfl, rfl, hRel0⟩
theorem a38_no {st : Nat → Int32} {x1 : Int32} (h : F_X7_isRotor st x1 = some 0) (x2 x3 s : Int32) : F_X7_alter_38 st x1 x2 x3 s = some (-1, st) := by
  unfold F_X7_alter_38; rw [h]; rfl
theorem a38_0 {st : Nat → Int32} {x1 : Int32} (h : F_X7_isRotor st x1 = some 1) (x2 x3 : Int32) : F_X7_alter_38 st x1 x2 x3 0 = some (-1, st) := by
  unfold F_X7_alter_38; rw [h]; rfl
theorem a38_1 {st : Nat → Int32} {k j : Nat} (h : F_X7_isRotor st (nI k) = some 1) (hk : k < 4) (hj : j < 4) (x3 : Int32) : F_X7_alter_38 st (nI k) (nI j) x3 1 = some (st (20 + 4 * k + j), upd st (20 + 4 * k + j) x3) := by
  unfold F_X7_alter_38
  rw [h]
  simp only [Option.bind_some, if_neg i10]
  rw [ix_eq, becomes_eq (by omega)]; rfl
theorem p_alter : P_alter := by
  intro rf len fl by_ f t p sn rn sg rt n to wh le k0 f0 t0 p0 sn0 rn0 sg0 rt0 n0 to0 wh0 le0 k1 f1 t1 p1 sn1 rn1 sg1 rt1 n1 to1 wh1 le1 sh tp mf tn st kp ta la si ce hRel x1 x2 x3
  have hRel0 := hRel
  obtain ⟨h1, hT, hB, hI0, hI1, hSh⟩ := hRel
  obtain ⟨T, P, S, R, N, ⟨zT, zP1, zP2, zS, zR, zN⟩, ⟨rfl, rfl, rfl, rfl, rfl⟩, ⟨b0, b17, b18, b19, b36, b37⟩, bs, br, bn, bf⟩ := hB
  unfold F_X6_alter F_X7_alter F_X7_alter_37 F_X6_alter_26
  rcases rotor_cases b36 zR x1 with ⟨k, hkR, rfl, e1, e2⟩ | ⟨e1, e2⟩
  · rw [e1]
    simp only [Option.bind_some, if_neg i10]
    have hx3 := rng_cases x3 3 (by decide)
    rcases rng_cases x2 1 (by decide) with ⟨j, hj, rfl, f1, f2⟩ | ⟨f1, f2⟩
    · have f1 : F_X6_within (nI j) 1 = some 1 := f1
      rw [f1]
      simp only [Option.bind_some, if_neg i10]
      rcases hx3 with ⟨v, hv, rfl, g1, g2⟩ | ⟨g1, g2⟩
      · have g1 : F_X6_within (nI v) 3 = some 1 := g1
        have g2 : F_X7_in (nI v).toInt64 0 3 = some 1 := g2
        rw [g1, g2]
        simp only [Option.bind_some, if_neg i10]
        rw [a38_1 e2 (by omega) (by omega), chk_pos (inb_nI (by omega) (by decide)), cl_nI (by omega)]
        have o : ∀ i, i ≠ 20 + 4 * k + j → upd st (20 + 4 * k + j) (nI v) i = st i := fun i h => upd_off _ _ h
        have q := br k hkR
        rcases (show j = 0 ∨ j = 1 by omega) with rfl | rfl
        · rw [if_pos (show nI 0 = 0 from rfl)]
          simp only [if_pos (show nI 0 = 0 from rfl)]
          have o : ∀ i, i ≠ 20 + 4 * k → upd st (20 + 4 * k) (nI v) i = st i := o
          rw [show 20 + 4 * k + 0 = 20 + 4 * k from rfl, q.1.1]
          refine ⟨_, _, _, rfl, rfl, h1, hT, ⟨T, P, S, R, N, ⟨zT, zP1, zP2, zS, zR, zN⟩, ⟨rfl, rfl, rfl, rfl, rfl⟩, ⟨(o 0 (by omega)).trans b0, (o 17 (by omega)).trans b17, (o 18 (by omega)).trans b18, (o 19 (by omega)).trans b19, (o 36 (by omega)).trans b36, (o 37 (by omega)).trans b37⟩, fun i hi => ⟨(o _ (by omega)).trans (bs i hi).1, (bs i hi).2⟩, ?_, fun i hi => ⟨⟨(o _ (by omega)).trans (bn i hi).1.1, (o _ (by omega)).trans (bn i hi).1.2.1, (o _ (by omega)).trans (bn i hi).1.2.2⟩, (bn i hi).2⟩, bf⟩, RI_st hI0 (by omega) (fun j hj => o j (by omega)), RI_st hI1 (by omega) (fun j hj => o j (by omega)), hSh⟩
          intro r hr
          by_cases c : r = k
          · subst c
            rw [up_self]
            exact ⟨⟨upd_at _ _ _, (o _ (by omega)).trans q.1.2.1, (o _ (by omega)).trans q.1.2.2.1, (o _ (by omega)).trans q.1.2.2.2⟩, ⟨v, by omega, rfl⟩, q.2.2⟩
          · rw [up_ne _ _ c, o _ (by omega), o _ (by omega), o _ (by omega), o _ (by omega)]; exact br r hr
        · rw [if_neg (show ¬ nI 1 = 0 by decide)]
          simp only [if_neg (show ¬ nI 1 = 0 by decide), if_pos (show nI 1 = 1 from rfl)]
          rw [q.1.2.1]
          refine ⟨_, _, _, rfl, rfl, h1, hT, ⟨T, P, S, R, N, ⟨zT, zP1, zP2, zS, zR, zN⟩, ⟨rfl, rfl, rfl, rfl, rfl⟩, ⟨(o 0 (by omega)).trans b0, (o 17 (by omega)).trans b17, (o 18 (by omega)).trans b18, (o 19 (by omega)).trans b19, (o 36 (by omega)).trans b36, (o 37 (by omega)).trans b37⟩, fun i hi => ⟨(o _ (by omega)).trans (bs i hi).1, (bs i hi).2⟩, ?_, fun i hi => ⟨⟨(o _ (by omega)).trans (bn i hi).1.1, (o _ (by omega)).trans (bn i hi).1.2.1, (o _ (by omega)).trans (bn i hi).1.2.2⟩, (bn i hi).2⟩, bf⟩, RI_st hI0 (by omega) (fun j hj => o j (by omega)), RI_st hI1 (by omega) (fun j hj => o j (by omega)), hSh⟩
          intro r hr
          by_cases c : r = k
          · subst c
            rw [up_self]
            exact ⟨⟨(o _ (by omega)).trans q.1.1, upd_at _ _ _, (o _ (by omega)).trans q.1.2.2.1, (o _ (by omega)).trans q.1.2.2.2⟩, q.2.1, ⟨v, by omega, rfl⟩, q.2.2.2⟩
          · rw [up_ne _ _ c, o _ (by omega), o _ (by omega), o _ (by omega), o _ (by omega)]; exact br r hr
      · have g1 : F_X6_within x3 3 = some 0 := g1
        have g2 : F_X7_in x3.toInt64 0 3 = some 0 := g2
        rw [g1, g2]
        simp only [Option.bind_some, a38_0 e2, if_pos trivial, ite_self]
        exact ⟨_, _, _, rfl, rfl, hRel0⟩
    · have f1 : F_X6_within x2 1 = some 0 := f1
      have f2 : F_X7_in x2.toInt64 0 1 = some 0 := f2
      rw [f1]
      have n0 : ¬ x2 = 0 := by intro h; subst h; exact absurd f1 (by decide)
      have n1 : ¬ x2 = 1 := by intro h; subst h; exact absurd f1 (by decide)
      simp only [if_neg n0, if_neg n1, a38_0 e2]
      exact ⟨_, _, _, rfl, rfl, hRel0⟩
  · rw [e1]
    simp only [a38_no e2]
    have hx3 : ∃ z, F_X7_in x3.toInt64 0 3 = some z := by
      rcases rng_cases x3 3 (by decide) with ⟨v, hv, rfl, g1, g2⟩ | ⟨g1, g2⟩
      · exact ⟨_, g2⟩
      · exact ⟨_, g2⟩
    obtain ⟨z, hz⟩ := hx3
    rw [hz]
    simp only [Option.bind_some, ite_self]
    exact ⟨_, _, _, rfl, rfl, hRel0⟩
theorem iabs_cases (x : Int32) : (0 ≤ x.toInt ∧ iabs x = x) ∨ (x.toInt < 0 ∧ iabs x = -x) := by
  have h := amount_eq x
  unfold F_X7_amount at h
  have h0 : (0 : Int32).toInt = 0 := by decide
  by_cases c : 0 ≤ x
  · rw [if_pos c] at h; rw [i_le] at c; left; exact ⟨by omega, (Option.some.inj h).symm⟩
  · rw [if_neg c] at h; rw [i_le] at c; right; exact ⟨by omega, (Option.some.inj h).symm⟩
theorem iabs_le {x : Int32} {n : Int} (h : (iabs x).toInt ≤ n) (hx : x.toInt ≠ -2147483648) : -n ≤ x.toInt ∧ x.toInt ≤ n := by
  rcases iabs_cases x with ⟨a, e⟩ | ⟨a, e⟩
  · rw [e] at h; omega
  · rw [e, fb_negI hx] at h; omega
theorem p_turn : P_turn := by
  intro rf len fl by_ f t p sn rn sg rt n to wh le k0 f0 t0 p0 sn0 rn0 sg0 rt0 n0 to0 wh0 le0 k1 f1 t1 p1 sn1 rn1 sg1 rt1 n1 to1 wh1 le1 sh tp mf tn st kp ta la si ce hRel x1 x2
  have hRel0 := hRel
  obtain ⟨h1, hT, hB, hI0, hI1, hSh⟩ := hRel
  obtain ⟨T, P, S, R, N, ⟨zT, zP1, zP2, zS, zR, zN⟩, ⟨rfl, rfl, rfl, rfl, rfl⟩, ⟨b0, b17, b18, b19, b36, b37⟩, bs, br, bn, bf⟩ := hB
  unfold F_X6_turn F_X7_turn
  rcases rotor_cases b36 zR x1 with ⟨k, hkR, rfl, e1, e2⟩ | ⟨e1, e2⟩
  · rw [e1, e2]
    simp only [Option.bind_some, if_neg i10]
    rcases rng_cases x2 16 (by decide) with ⟨d, hd, rfl, f1, f2⟩ | ⟨f1, f2⟩
    · have f1 : F_X6_within (nI d) 16 = some 1 := f1
      have f2 : F_X7_in (nI d).toInt64 0 16 = some 1 := f2
      have q := br k hkR
      rw [f1, f2]
      simp only [Option.bind_some, if_neg i10, chk_pos (inb_nI (n := k) (N := 4) (by omega) (by decide)), cl_nI (n := k) (by omega), show (20 : Int32) + 4 * nI k + 2 = nI (20 + 4 * k + 2) from ix_eq k 2, show (20 : Int32) + 4 * nI k + 3 = nI (20 + 4 * k + 3) from ix_eq k 3, chk_pos (inb_nI (n := 20 + 4 * k + 2) (N := 168) (by omega) (by decide)), chk_pos (inb_nI (n := 20 + 4 * k + 3) (N := 168) (by omega) (by decide)), cl_nI (n := 20 + 4 * k + 2) (by omega), cl_nI (n := 20 + 4 * k + 3) (by omega), q.1.2.2.1, amount_eq, up_self]
      generalize hz : (rt k).2.2.1 + nI d - 8 = z
      have hz2 : (rt k).2.2.1 + (nI d - 8) = z := by rw [← hz, Int32.sub_eq_add_neg, Int32.sub_eq_add_neg, Int32.add_assoc]
      have h8 : (8 : Int32).toInt = 8 := by decide
      have hd1 := nI_toInt (n := d) (by omega)
      have hz3 : z.toInt = (rt k).2.2.1.toInt + d - 8 := by
        have q3 := q.2.2.2
        rw [← hz, fb_subI (by rw [fb_addI (by omega) (by omega)]; omega) (by rw [fb_addI (by omega) (by omega)]; omega), fb_addI (by omega) (by omega)]; omega
      have q3 := q.2.2.2
      rw [hz2]
      by_cases c : iabs z ≤ 30000
      · rw [if_pos c, if_pos c, upd_off _ _ (show 20 + 4 * k + 2 ≠ 20 + 4 * k + 3 by omega), upd_at]
        rw [i_le] at c
        have c2 := iabs_le c (by omega)
        have h3 : (30000 : Int32).toInt = 30000 := by decide
        have o : ∀ j, j ≠ 20 + 4 * k + 2 → j ≠ 20 + 4 * k + 3 → upd (upd st (20 + 4 * k + 2) z) (20 + 4 * k + 3) 0 j = st j := fun j h h' => by rw [upd_off _ _ h', upd_off _ _ h]
        refine ⟨_, _, _, rfl, rfl, h1, hT, ⟨T, P, S, R, N, ⟨zT, zP1, zP2, zS, zR, zN⟩, ⟨rfl, rfl, rfl, rfl, rfl⟩, ⟨(o 0 (by omega) (by omega)).trans b0, (o _ (by omega) (by omega)).trans b17, (o _ (by omega) (by omega)).trans b18, (o _ (by omega) (by omega)).trans b19, (o _ (by omega) (by omega)).trans b36, (o _ (by omega) (by omega)).trans b37⟩, ?_, ?_, ?_, bf⟩, RI_st hI0 (by omega) (fun j hj => o j (by omega) (by omega)), RI_st hI1 (by omega) (fun j hj => o j (by omega) (by omega)), hSh⟩
        · intro i hi
          rw [o _ (by omega) (by omega)]; exact bs i hi
        · intro r hr
          by_cases ci : r = k
          · subst ci
            rw [up_self]
            refine ⟨⟨(o _ (by omega) (by omega)).trans q.1.1, (o _ (by omega) (by omega)).trans q.1.2.1, ?_, upd_at _ _ _⟩, q.2.1, q.2.2.1, ?_⟩
            · rw [upd_off _ _ (by omega), upd_at]
            · show _ ≤ z.toInt ∧ z.toInt ≤ _
              omega
          · rw [up_ne _ _ ci, up_ne _ _ ci, o _ (by omega) (by omega), o _ (by omega) (by omega), o _ (by omega) (by omega), o _ (by omega) (by omega)]; exact br r hr
        · intro i hi
          rw [o _ (by omega) (by omega), o _ (by omega) (by omega), o _ (by omega) (by omega)]; exact bn i hi
      · rw [if_neg c, if_neg c]
        exact ⟨_, _, _, rfl, rfl, hRel0⟩
    · have f1 : F_X6_within x2 16 = some 0 := f1
      have f2 : F_X7_in x2.toInt64 0 16 = some 0 := f2
      rw [f1, f2]
      exact ⟨_, _, _, rfl, rfl, hRel0⟩
  · rw [e1, e2]
    exact ⟨_, _, _, rfl, rfl, hRel0⟩
theorem ixs_eq (N j : Nat) : (38 : Int32) + 3 * nI N + nI j = nI (38 + 3 * N + j) := by
  rw [show (38 : Int32) = nI 38 from rfl, show (3 : Int32) = nI 3 from rfl, pk_mul, nI_add, nI_add]
theorem p_see : P_see := by
  intro rf len fl by_ f t p sn rn sg rt n to wh le k0 f0 t0 p0 sn0 rn0 sg0 rt0 n0 to0 wh0 le0 k1 f1 t1 p1 sn1 rn1 sg1 rt1 n1 to1 wh1 le1 sh tp mf tn st kp ta la si ce hRel x1 x2 x3
  have hRel0 := hRel
  obtain ⟨h1, hT, hB, hI0, hI1, hSh⟩ := hRel
  obtain ⟨T, P, S, R, N, ⟨zT, zP1, zP2, zS, zR, zN⟩, ⟨rfl, rfl, rfl, rfl, rfl⟩, ⟨b0, b17, b18, b19, b36, b37⟩, bs, br, bn, bf⟩ := hB
  unfold F_X6_see F_X7_see F_X4_note
  rcases rng_cases x1 40 (by decide) with ⟨a, ha, rfl, e1, e2⟩ | ⟨e1, e2⟩
  · have e1 : F_X6_within (nI a) 40 = some 1 := e1
    have e2 : F_X7_in (nI a).toInt64 0 40 = some 1 := e2
    rw [e1, e2]
    simp only [Option.bind_some, if_neg i10]
    rcases rotor_cases b36 zR x2 with ⟨k, hkR, rfl, e1, e2⟩ | ⟨e1, e2⟩
    · rw [e1, e2]
      simp only [Option.bind_some, if_neg i10]
      rcases rng_cases x3 7 (by decide) with ⟨l, hl, rfl, e1, e2⟩ | ⟨e1, e2⟩
      · have e1 : F_X6_within (nI l) 7 = some 1 := e1
        have e2 : F_X7_in (nI l).toInt64 0 7 = some 1 := e2
        rw [e1, e2]
        simp only [Option.bind_some, if_neg i10, chk_pos (show inb (37 : Int32) 168 by decide), show (37 : Int32).toNatClampNeg = 37 from rfl, b37]
        by_cases c : N = 6
        · subst c
          rw [if_neg (show ¬ nI 6 < (6 : Int32) by decide), if_pos (show nI 6 = (6 : Int32) from rfl)]
          exact ⟨_, _, _, _, _, _, rfl, rfl, hRel0⟩
        · have c1 : nI N < (6 : Int32) := nI_lt (b := 6) (by omega) (by decide)
          have c2 : ¬ nI N = (6 : Int32) := by rw [show (6 : Int32) = nI 6 from rfl, nI_eq (by omega) (by decide)]; exact c
          have i0 : (38 : Int32) + 3 * nI N = nI (38 + 3 * N) := by rw [show (38 : Int32) = nI 38 from rfl, show (3 : Int32) = nI 3 from rfl, pk_mul, nI_add]
          rw [if_pos c1, if_neg c2]
          simp only [i0, show nI (38 + 3 * N) + 1 = nI (38 + 3 * N + 1) from nI_add _ 1, show nI (38 + 3 * N) + 2 = nI (38 + 3 * N + 2) from nI_add _ 2, chk_pos (inb_nI (n := N) (N := 6) (by omega) (by decide)), chk_pos (inb_nI (n := 38 + 3 * N) (N := 168) (by omega) (by decide)), chk_pos (inb_nI (n := 38 + 3 * N + 1) (N := 168) (by omega) (by decide)), chk_pos (inb_nI (n := 38 + 3 * N + 2) (N := 168) (by omega) (by decide)), cl_nI (n := N) (by omega), cl_nI (n := 38 + 3 * N) (by omega), cl_nI (n := 38 + 3 * N + 1) (by omega), cl_nI (n := 38 + 3 * N + 2) (by omega), Option.bind_some, if_neg i10, upd_at]
          rw [upd_off _ _ (show 37 ≠ 38 + 3 * N + 2 by omega), upd_off _ _ (show 37 ≠ 38 + 3 * N + 1 by omega), upd_off _ _ (show 37 ≠ 38 + 3 * N by omega), b37, nI_1]
          have o : ∀ j, j ≠ 37 → j ≠ 38 + 3 * N → j ≠ 38 + 3 * N + 1 → j ≠ 38 + 3 * N + 2 → upd (upd (upd (upd st (38 + 3 * N) (nI a)) (38 + 3 * N + 1) (nI k)) (38 + 3 * N + 2) (nI l)) 37 (nI (N + 1)) j = st j := fun j h h' h2 h3 => by rw [upd_off _ _ h, upd_off _ _ h3, upd_off _ _ h2, upd_off _ _ h']
          have o' : ∀ j, j < 37 ∨ 56 ≤ j → upd (upd (upd (upd st (38 + 3 * N) (nI a)) (38 + 3 * N + 1) (nI k)) (38 + 3 * N + 2) (nI l)) 37 (nI (N + 1)) j = st j := fun j h => o j (by omega) (by omega) (by omega) (by omega)
          refine ⟨_, _, _, _, _, _, rfl, rfl, h1, hT, ⟨T, P, S, R, N + 1, ⟨zT, zP1, zP2, zS, zR, by omega⟩, ⟨rfl, rfl, rfl, rfl, rfl⟩, ⟨(o' 0 (by omega)).trans b0, (o' _ (by omega)).trans b17, (o' _ (by omega)).trans b18, (o' _ (by omega)).trans b19, (o' _ (by omega)).trans b36, upd_at _ _ _⟩, ?_, ?_, ?_, bf⟩, RI_st hI0 (by omega) (fun j hj => o' j (by omega)), RI_st hI1 (by omega) (fun j hj => o' j (by omega)), hSh⟩
          · intro i hi
            rw [o' _ (by omega)]; exact bs i hi
          · intro r hr
            rw [o' _ (by omega), o' _ (by omega), o' _ (by omega), o' _ (by omega)]; exact br r hr
          · intro i hi
            by_cases ci : i = N
            · subst ci
              rw [upd_at, upd_at, upd_at]
              refine ⟨⟨?_, ?_, ?_⟩, ⟨a, ha, rfl⟩, ⟨k, hkR, rfl⟩, ⟨l, by omega, rfl⟩⟩
              · rw [upd_off _ _ (by omega), upd_off _ _ (by omega), upd_off _ _ (by omega), upd_at]
              · rw [upd_off _ _ (by omega), upd_off _ _ (by omega), upd_at]
              · rw [upd_off _ _ (by omega), upd_at]
            · rw [upd_off _ _ ci, upd_off _ _ ci, upd_off _ _ ci, o _ (by omega) (by omega) (by omega) (by omega), o _ (by omega) (by omega) (by omega) (by omega), o _ (by omega) (by omega) (by omega) (by omega)]; exact bn i (by omega)
      · have e1 : F_X6_within x3 7 = some 0 := e1
        have e2 : F_X7_in x3.toInt64 0 7 = some 0 := e2
        rw [e1, e2]
        exact ⟨_, _, _, _, _, _, rfl, rfl, hRel0⟩
    · rw [e1, e2]
      exact ⟨_, _, _, _, _, _, rfl, rfl, hRel0⟩
  · have e1 : F_X6_within x1 40 = some 0 := e1
    have e2 : F_X7_in x1.toInt64 0 40 = some 0 := e2
    rw [e1, e2]
    exact ⟨_, _, _, _, _, _, rfl, rfl, hRel0⟩
theorem allGripsC_loop {R : Nat} {rt : Nat → Rot} (hR : R ≤ 4) : ∀ (fu i : Nat), i ≤ R → R - i < fu → F_X0_allGrips_4 fu (nI R) rt (sumI (fun r => (rt r).2.1) i) (nI i) = some (sumI (fun r => (rt r).2.1) R) := by
  intro fu
  induction fu with
  | zero => intro i h1 h2; omega
  | succ fu ih =>
    intro i h1 h2
    unfold F_X0_allGrips_4
    by_cases hc : R ≤ i
    · have e : i = R := by omega
      subst e
      rw [if_pos (nI_le (Nat.le_refl _) (by omega))]
    · rw [if_neg (nI_ge (by omega) (by omega)), chk_pos (inb_nI (by omega) (by decide)), cl_nI (by omega), nI_1]
      exact ih (i + 1) (by omega) (by omega)
theorem allSignsC_loop {S : Nat} {sg : Nat → Int32} (hS : S ≤ 16) : ∀ (fu i : Nat), i ≤ S → S - i < fu → F_X0_allSigns_4 fu (nI S) sg (sumI sg i) (nI i) = some (sumI sg S) := by
  intro fu
  induction fu with
  | zero => intro i h1 h2; omega
  | succ fu ih =>
    intro i h1 h2
    unfold F_X0_allSigns_4
    by_cases hc : S ≤ i
    · have e : i = S := by omega
      subst e
      rw [if_pos (nI_le (Nat.le_refl _) (by omega))]
    · rw [if_neg (nI_ge (by omega) (by omega)), chk_pos (inb_nI (by omega) (by decide)), cl_nI (by omega), nI_1]
      exact ih (i + 1) (by omega) (by omega)
/-- the reference's answers to 'count' -/
def cntS (tp n k0 k1 x1 g s la0 si0 : Int32) : Option Int32 :=
  if x1 = 0 then some n else if x1 = 1 then (F_X7_flag k0).bind fun a => (F_X7_flag k1).bind fun b => some (a + b) else if x1 = 2 then some tp else if x1 = 3 then (if la0 = -4 then some (-4) else some si0) else if x1 = 4 then some g else if x1 = 5 then some s else some (-1)
theorem count45_loop {tp : Int32} {st kp la si : Nat → Int32} {S : Nat} {sg : Nat → Int32} {x1 x2 : Int32} (hS : S ≤ 16) (h17 : st 17 = nI S) (hs : ∀ i, i < S → st (1 + i) = sg i) : ∀ (fu i : Nat), i ≤ S → S - i < fu → F_X7_count_45 fu tp st kp la si x1 x2 (sumI sg i) (nI i) = cntS tp (st 37) (kp 0) (kp 1) x1 x2 (sumI sg S) (la 0) (si 0) := by
  intro fu
  induction fu with
  | zero => intro i h1 h2; omega
  | succ fu ih =>
    intro i h1 h2
    unfold F_X7_count_45
    rw [chk_pos (by decide), show (17 : Int32).toNatClampNeg = 17 from rfl, h17]
    by_cases hc : S ≤ i
    · have e : i = S := by omega
      subst e
      rw [if_pos (nI_le (Nat.le_refl _) (by omega))]
      unfold cntS
      simp only [chk_pos (show inb (37 : Int32) 168 by decide), chk_pos (show inb (0 : Int32) 2 by decide), chk_pos (show inb (1 : Int32) 2 by decide), chk_pos (show inb (0 : Int32) 4 by decide), show (37 : Int32).toNatClampNeg = 37 from rfl, show (0 : Int32).toNatClampNeg = 0 from rfl, show (1 : Int32).toNatClampNeg = 1 from rfl]
    · rw [if_neg (nI_ge (by omega) (by omega)), show (1 : Int32) + nI i = nI (1 + i) from nI_add 1 i, chk_pos (inb_nI (by omega) (by decide)), cl_nI (by omega), nI_1, hs i (by omega)]
      exact ih (i + 1) (by omega) (by omega)
theorem count7_loop {tp : Int32} {st kp la si : Nat → Int32} {S R : Nat} {sg : Nat → Int32} {rt : Nat → Rot} {x1 : Int32} (hS : S ≤ 16) (h17 : st 17 = nI S) (hs : ∀ i, i < S → st (1 + i) = sg i) (hR : R ≤ 4) (h36 : st 36 = nI R) (hr : ∀ r, r < R → st (20 + 4 * r + 1) = (rt r).2.1) : ∀ (fu i : Nat), i ≤ R → R - i < fu → F_X7_count_7 fu tp st kp la si x1 (sumI (fun r => (rt r).2.1) i) 0 (nI i) = cntS tp (st 37) (kp 0) (kp 1) x1 (sumI (fun r => (rt r).2.1) R) (sumI sg S) (la 0) (si 0) := by
  intro fu
  induction fu with
  | zero => intro i h1 h2; omega
  | succ fu ih =>
    intro i h1 h2
    unfold F_X7_count_7
    rw [chk_pos (by decide), show (36 : Int32).toNatClampNeg = 36 from rfl, h36]
    by_cases hc : R ≤ i
    · have e : i = R := by omega
      subst e
      rw [if_pos (nI_le (Nat.le_refl _) (by omega))]
      exact count45_loop hS h17 hs FU 0 (by omega) (by unfold FU; omega)
    · rw [if_neg (nI_ge (by omega) (by omega)), show (20 : Int32) + 4 * nI i + 1 = nI (20 + 4 * i + 1) from ix_eq i 1, chk_pos (inb_nI (by omega) (by decide)), cl_nI (by omega), nI_1, hr i (by omega)]
      exact ih (i + 1) (by omega) (by omega)
theorem p_count : P_count := by
  intro rf len fl by_ f t p sn rn sg rt n to wh le k0 f0 t0 p0 sn0 rn0 sg0 rt0 n0 to0 wh0 le0 k1 f1 t1 p1 sn1 rn1 sg1 rt1 n1 to1 wh1 le1 sh tp mf tn st kp ta la si ce hRel x1
  have hRel0 := hRel
  obtain ⟨h1, hT, hB, hI0, hI1, hSh⟩ := hRel
  obtain ⟨T, P, S, R, N, ⟨zT, zP1, zP2, zS, zR, zN⟩, ⟨rfl, rfl, rfl, rfl, rfl⟩, ⟨b0, b17, b18, b19, b36, b37⟩, bs, br, bn, bf⟩ := hB
  have e2 : F_X7_count tp st kp la si x1 = _ := count7_loop (tp := tp) (kp := kp) (la := la) (si := si) (x1 := x1) zS b17 (fun i hi => (bs i hi).1) zR b36 (fun r hr => (br r hr).1.2.1) FU 0 (by omega) (by unfold FU; omega)
  obtain ⟨n, hn, hl1, hl2, hby⟩ := hT
  subst hl1
  subst hl2
  have e1 : F_X6_count (nI n) (nI S) (nI R) sg rt (nI N) k0 k1 sh x1 = cntS (nI n) (st 37) (kp 0) (kp 1) x1 (sumI (fun r => (rt r).2.1) R) (sumI sg S) (la 0) (si 0) := by
    unfold F_X6_count F_X6_count_65 cntS
    have g1 : F_X0_allGrips (nI R) rt = some _ := allGripsC_loop zR FU 0 (by omega) (by unfold FU; omega)
    have g2 : F_X0_allSigns (nI S) sg = some _ := allSignsC_loop zS FU 0 (by omega) (by unfold FU; omega)
    rw [g1, g2, b37, hI0.1, hI1.1]
    simp only [chk_pos (show inb (0 : Int32) 2 by decide), chk_pos (show inb (1 : Int32) 2 by decide), chk_pos (show inb (0 : Int32) 4 by decide), show (0 : Int32).toNatClampNeg = 0 from rfl, Option.bind_some]
    have hk0 : k0 = 0 ∨ k0 = 1 := by rcases hI0.2 with h | h; exact Or.inl h; exact Or.inr h.1
    have hk1 : k1 = 0 ∨ k1 = 1 := by rcases hI1.2 with h | h; exact Or.inl h; exact Or.inr h.1
    have hf : (if k0 = 0 then (if k1 = 0 then some ((0 : Int32) + 0) else some (0 + 1)) else (if k1 = 0 then some (1 + 0) else some (1 + 1))) = (F_X7_flag k0).bind fun a => (F_X7_flag k1).bind fun b => some (a + b) := by
      rcases hk0 with rfl | rfl <;> rcases hk1 with rfl | rfl <;> rfl
    rw [hf]
    have hs0 : (if (sh 0).1 = -1 then some (-4) else some (sh 0).2.1) = (if la 0 = -4 then some (-4) else some (si 0)) := by
      rcases hSh 0 (by omega) with ⟨e, e'⟩ | ⟨a, z, ha, hz, e, e', e3, e4, _⟩
      · rw [if_pos e, if_pos e']
      · rw [e, e', e3, e4]
        have : ∀ a, a < 3 → ¬ nI a = -1 ∧ ¬ nI a = -4 := by decide
        rw [if_neg (this a ha).1, if_neg (this a ha).2]
    rw [hs0]
  rw [e1, e2]
  have hc : ∃ r, cntS (nI n) (st 37) (kp 0) (kp 1) x1 (sumI (fun r => (rt r).2.1) R) (sumI sg S) (la 0) (si 0) = some r := by
    have hfl : ∀ x, ∃ a, F_X7_flag x = some a := fun x => by
      unfold F_X7_flag
      by_cases c : x = 0
      · exact ⟨0, if_pos c⟩
      · exact ⟨1, if_neg c⟩
    obtain ⟨a, ha⟩ := hfl (kp 0)
    obtain ⟨b, hb⟩ := hfl (kp 1)
    unfold cntS
    rw [ha, hb]
    simp only [Option.bind_some]
    split
    · exact ⟨_, rfl⟩
    split
    · exact ⟨_, rfl⟩
    split
    · exact ⟨_, rfl⟩
    split
    · split <;> exact ⟨_, rfl⟩
    split
    · exact ⟨_, rfl⟩
    split <;> exact ⟨_, rfl⟩
  obtain ⟨r, hr⟩ := hc
  exact ⟨r, hr, hr, hRel0⟩
