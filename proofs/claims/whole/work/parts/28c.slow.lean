/-! slow, need -/
theorem NB_pace {f : Int32} {T P S R : Nat} {sg : Nat → Int32} {rt : Nat → Rot} {b : Nat → Int32} (h : NB f T P S R sg rt b) (hS : S ≤ 16) (p : Nat) : NB f T p S R sg rt (upd b 18 (nI p)) := by
  obtain ⟨⟨a0, a1, a2, a3, a4⟩, hs, hr⟩ := h
  have o : ∀ j, j ≠ 18 → upd b 18 (nI p) j = b j := fun j h => upd_off _ _ h
  exact ⟨⟨(o 0 (by omega)).trans a0, (o 17 (by omega)).trans a1, upd_at _ _ _, (o 19 (by omega)).trans a3, (o 36 (by omega)).trans a4⟩, fun i hi => (o _ (by omega)).trans (hs i hi), fun r hr' => ⟨(o _ (by omega)).trans (hr r hr').1, (o _ (by omega)).trans (hr r hr').2.1, (o _ (by omega)).trans (hr r hr').2.2.1, (o _ (by omega)).trans (hr r hr').2.2.2⟩⟩
theorem NB_fld {f : Int32} {T P S R : Nat} {sg : Nat → Int32} {rt : Nat → Rot} {b : Nat → Int32} (h : NB f T P S R sg rt b) (hS : S ≤ 16) (hR : R ≤ 4) {k j : Nat} (hk : k < R) (hj : j < 4) (v : Int32) (q : Rot) (h0 : q.1 = if j = 0 then v else (rt k).1) (h1 : q.2.1 = if j = 1 then v else (rt k).2.1) (h2 : q.2.2.1 = if j = 2 then v else (rt k).2.2.1) (h3 : q.2.2.2 = if j = 3 then v else (rt k).2.2.2) : NB f T P S R sg (up rt k q) (upd b (20 + 4 * k + j) v) := by
  obtain ⟨⟨a0, a1, a2, a3, a4⟩, hs, hr⟩ := h
  have o : ∀ i, i ≠ 20 + 4 * k + j → upd b (20 + 4 * k + j) v i = b i := fun i h => upd_off _ _ h
  refine ⟨⟨(o 0 (by omega)).trans a0, (o 17 (by omega)).trans a1, (o 18 (by omega)).trans a2, (o 19 (by omega)).trans a3, (o 36 (by omega)).trans a4⟩, fun i hi => (o _ (by omega)).trans (hs i hi), ?_⟩
  intro r hr'
  by_cases c : r = k
  · subst c
    rw [up_self, h0, h1, h2, h3]
    have g := hr r hr'
    have key : ∀ i, i < 4 → upd b (20 + 4 * r + j) v (20 + 4 * r + i) = if j = i then v else b (20 + 4 * r + i) := by
      intro i hi
      by_cases ci : j = i
      · subst ci; rw [if_pos rfl, upd_at]
      · rw [if_neg ci, upd_off _ _ (by omega)]
    refine ⟨?_, ?_, ?_, ?_⟩
    · have := key 0 (by omega); rw [← g.1]; exact this
    · rw [key 1 (by omega), ← g.2.1]
    · rw [key 2 (by omega), ← g.2.2.1]
    · rw [key 3 (by omega), ← g.2.2.2]
  · rw [up_ne _ _ c, o _ (by omega), o _ (by omega), o _ (by omega), o _ (by omega)]; exact hr r hr'
theorem NB_take {f : Int32} {T P S R : Nat} {sg sg' : Nat → Int32} {rt rt' : Nat → Rot} {st nw : Nat → Int32} (h : NB f T P S R sg rt st) (hS : S ≤ 16) (hR : R ≤ 4) (en : ∀ j, j < 56 → nw j = st j) (es : ∀ i, i < 16 → sg' i = sg i) (er : ∀ r, r < R → rt' r = rt r) : NB f T P S R sg' rt' nw :=
  NB_rt (NB_sg (NB_cong h hS hR (fun j hj => en j (by omega))) (fun i hi => es i (by omega))) er
theorem kOk_cong {R : Nat} {rt rt' : Nat → Rot} (h : kOk R rt) (er : ∀ r, r < R → rt' r = rt r) : kOk R rt' := fun r hr => by rw [er r hr]; exact h r hr
theorem sOk_cong {S : Nat} {sg sg' : Nat → Int32} (h : sOk S sg) (hS : S ≤ 16) (es : ∀ i, i < 16 → sg' i = sg i) : sOk S sg' := fun i hi => by rw [es i (by omega)]; exact h i hi
theorem lnm_eq {P S R T n k : Nat} {sg : Nat → Int32} {f nf : Int32} {rt nrt : Nat → Rot} (hP : 1 ≤ P) (hP2 : P ≤ 9) (hS : S ≤ 16) (hR : R ≤ 4) (hT : T + n < 20000) (hn : n ≤ 1000) (hk : k < 4) :
    F_X6_losesNothingMore nf nrt f (nI T) (nI P) (nI S) (nI R) sg rt (nI k) (nI n) = some (if lostS (goS P S R sg n (f, T, rt)).2.1 ((goS P S R sg n (f, T, rt)).2.2.2 k).2.2.1 = lostS nf (nrt k).2.2.1 then 1 else 0, (goS P S R sg n (f, T, rt)).2.1, nI (T + n), (goS P S R sg n (f, T, rt)).2.2.2) := by
  unfold F_X6_losesNothingMore
  rw [go_eq hP hP2 hS hR hT hn]
  simp only [ob]
  rw [lostOfC hk]
  simp only [ob]
  rw [lostOfC hk]
  simp only [ob]
  by_cases c : lostS (goS P S R sg n (f, T, rt)).2.1 ((goS P S R sg n (f, T, rt)).2.2.2 k).2.2.1 = lostS nf (nrt k).2.2.1
  · rw [if_pos c, if_pos c]
  · rw [if_neg c, if_neg c]
theorem slow_loop {P S R T n k : Nat} {sg st : Nat → Int32} {f : Int32} {rt : Nat → Rot} (hNB : NB f T P S R sg rt st) (hS : S ≤ 16) (hR : R ≤ 4) (hT : T + n < 20000) (hn : n ≤ 1000) (hs : sOk S sg) (hk : kOk R rt) (hkR : k < R) : ∀ (m i fu fu' : Nat) (tf tt tp tsn trn : Int32) (tsg : Nat → Int32) (trt : Nat → Rot) (mv sl : Int32) (nw : Nat → Int32), i + m = 10 → 1 ≤ i → m < fu → m < fu' →
    ∃ r w w', F_X6_slow_22 fu f (nI T) (nI P) (nI S) (nI R) sg rt tf tt tp tsn trn tsg trt (nI k) (nI n) (nI i) = some (r, w) ∧ F_X7_leastOf_3 fu' mv sl st nw 18 9 (nI k) (nI n) (nI i) = some (r, w') := by
  intro m
  induction m with
  | zero =>
    intro i fu fu' tf tt tp tsn trn tsg trt mv sl nw h1 h2 h3 h4
    obtain ⟨fu, rfl⟩ : ∃ g, fu = g + 1 := ⟨fu - 1, by omega⟩
    obtain ⟨fu', rfl⟩ : ∃ g, fu' = g + 1 := ⟨fu' - 1, by omega⟩
    obtain rfl : i = 10 := by omega
    unfold F_X6_slow_22 F_X7_leastOf_3
    rw [if_pos (show (9 : Int32) < nI 10 by decide), if_pos (show (9 : Int32) < nI 10 by decide)]
    exact ⟨_, _, _, rfl, rfl⟩
  | succ m ih =>
    intro i fu fu' tf tt tp tsn trn tsg trt mv sl nw h1 h2 h3 h4
    obtain ⟨fu, rfl⟩ : ∃ g, fu = g + 1 := ⟨fu - 1, by omega⟩
    obtain ⟨fu', rfl⟩ : ∃ g, fu' = g + 1 := ⟨fu' - 1, by omega⟩
    unfold F_X6_slow_22 F_X7_leastOf_3
    have c : ¬ (9 : Int32) < nI i := by rw [show (9 : Int32) = nI 9 from rfl, nI_ltI (by decide) (by omega)]; omega
    obtain ⟨sg', rt', ec, es, er⟩ := copyC hR tf tt tp tsn trn tsg trt f (nI T) (nI P) (nI S) sg rt
    obtain ⟨nw1, e0, en⟩ := takesAllM mv sl st nw
    have hN2 := NB_take hNB hS hR en es er
    have hk2 := kOk_cong hk er
    have hs2 := sOk_cong hs hS es
    obtain ⟨nw2, e4, hN3, en2⟩ := ticksGoM (NB_pace hN2 hS i) h2 (by omega) hS hR (n := n) (by omega) (by omega) hs2 hk2 0 0
    rw [if_neg c, if_neg c, ec]
    simp only [ob]
    rw [e0]
    simp only [ob]
    rw [lnm_eq h2 (by omega) hS hR hT hn (by omega)]
    simp only [ob]
    rw [lostM hN2 hR hkR]
    simp only [ob]
    rw [chk_pos (by decide), show (18 : Int32).toNatClampNeg = 18 from rfl, e4]
    simp only [ob]
    rw [lostM hN3 hR hkR]
    simp only [ob]
    rw [er k hkR]
    by_cases cz : lostS (goS i S R sg' n (f, T, rt')).2.1 ((goS i S R sg' n (f, T, rt')).2.2.2 k).2.2.1 = lostS f (rt k).2.2.1
    · rw [if_pos cz, if_pos cz, if_neg i10]
      exact ⟨_, _, _, rfl, rfl⟩
    · rw [if_neg cz, if_neg cz, if_pos rfl, nI_1]
      exact ih (i + 1) fu fu' _ _ _ _ _ _ _ _ _ _ (by omega) (by omega) (by omega) (by omega)
theorem p_slow : P_slow := by
  intro rf len fl by_ f t p sn rn sg rt tr_f tr_t tr_p tr_sn tr_rn tr_sg tr_rt n to wh le k0 f0 t0 p0 sn0 rn0 sg0 rt0 n0 to0 wh0 le0 k1 f1 t1 p1 sn1 rn1 sg1 rt1 n1 to1 wh1 le1 sh tp mf m_moved m_slipTicks tn st m_now kp ta la si ce hRel x1 x2
  have hRel0 := hRel
  obtain ⟨h1, hT, hB, hI0, hI1, hSh⟩ := hRel
  obtain ⟨T, P, S, R, N, ⟨zT, zP1, zP2, zS, zR, zN⟩, ⟨rfl, rfl, rfl, rfl, rfl⟩, ⟨b0, b17, b18, b19, b36, b37⟩, bs, br, bn, bf⟩ := hB
  have hNB : NB f T P S R sg rt st := ⟨⟨b0, b17, b18, b19, b36⟩, fun i hi => (bs i hi).1, fun r hr => (br r hr).1⟩
  have hk : kOk R rt := fun r hr => (br r hr).2.1
  have hs : sOk S sg := fun i hi => (bs i hi).2
  unfold F_X6_slow F_X7_slow F_X7_leastOf
  rcases rotor_cases b36 zR x1 with ⟨k, hkR, rfl, e1, e2⟩ | ⟨e1, e2⟩
  · rw [e1, e2]
    simp only [ob]
    rw [if_neg i10, if_neg i10]
    rcases far_cases x2 with ⟨m, hm, rfl, e1, e2⟩ | ⟨e1, e2⟩
    · rw [e1, e2]
      simp only [ob]
      rw [if_neg i10, if_neg i10]
      obtain ⟨r, ⟨w1, w2, w3, w4, w5, w6, w7⟩, ⟨w8, w9, w10⟩, g1, g2⟩ := slow_loop (k := k) (n := m) hNB zS zR (by omega) (by omega) hs hk hkR 9 1 FU FU tr_f tr_t tr_p tr_sn tr_rn tr_sg tr_rt m_moved m_slipTicks m_now (by omega) (by omega) (by unfold FU; omega) (by unfold FU; omega)
      rw [show (1 : Int32) = nI 1 from rfl, g1, g2]
      exact ⟨_, _, _, _, _, _, _, _, _, _, _, rfl, rfl, hRel0⟩
    · rw [e1, e2, bz, bz]
      exact ⟨_, _, _, _, _, _, _, _, _, _, _, rfl, rfl, hRel0⟩
  · rw [e1, e2, bz, bz]
    exact ⟨_, _, _, _, _, _, _, _, _, _, _, rfl, rfl, hRel0⟩
/-- a trial with one thing of one rotor changed -/
theorem tryWith_eq {R k : Nat} (hR : R ≤ 4) (hk : k < R) (tf tt tp tsn trn : Int32) (tsg : Nat → Int32) (trt : Nat → Rot) (f t p sn : Int32) (sg : Nat → Int32) (rt : Nat → Rot) (x2 v : Int32) :
    ∃ sg' rt', F_X6_tryWith f t p sn (nI R) sg rt tf tt tp tsn trn tsg trt (nI k) x2 v = some (f, t, p, sn, nI R, sg', up rt' k (if x2 = 0 then (v, (rt k).2.1, (rt k).2.2.1, (rt k).2.2.2) else if x2 = 1 then ((rt k).1, v, (rt k).2.2.1, (rt k).2.2.2) else ((rt k).1, (rt k).2.1, (rt k).2.2.1 + v, (rt k).2.2.2))) ∧ (∀ i, i < 16 → sg' i = sg i) ∧ ∀ r, r < R → rt' r = rt r := by
  obtain ⟨sg', rt', ec, es, er⟩ := copyC hR tf tt tp tsn trn tsg trt f t p sn sg rt
  refine ⟨sg', rt', ?_, es, er⟩
  unfold F_X6_tryWith
  rw [ec]
  simp only [ob]
  rw [chk_pos (inb_nI (by omega) (by decide)), cl_nI (by omega), er k hk]
  by_cases c0 : x2 = 0
  · rw [if_pos c0, if_pos c0]
  · rw [if_neg c0, if_neg c0]
    by_cases c1 : x2 = 1
    · rw [if_pos c1, if_pos c1]
    · rw [if_neg c1, if_neg c1]
theorem need_loop {P S R T n k : Nat} {sg st : Nat → Int32} {f : Int32} {rt : Nat → Rot} (hNB : NB f T P S R sg rt st) (hP : 1 ≤ P) (hP2 : P ≤ 9) (hS : S ≤ 16) (hR : R ≤ 4) (hT : T + n < 20000) (hn : n ≤ 1000) (hs : sOk S sg) (hk : kOk R rt) (hkR : k < R) : ∀ (m i fu fu' : Nat) (tf tt tp tsn trn : Int32) (tsg : Nat → Int32) (trt : Nat → Rot) (mv sl : Int32) (nw : Nat → Int32), i + m = 4 → m < fu → m < fu' →
    ∃ r w w', F_X6_need_22 fu f (nI T) (nI P) (nI S) (nI R) sg rt tf tt tp tsn trn tsg trt (nI k) (nI n) (nI i) = some (r, w) ∧ F_X7_leastOf_3 fu' mv sl st nw (nI (20 + 4 * k + 1)) 3 (nI k) (nI n) (nI i) = some (r, w') := by
  intro m
  induction m with
  | zero =>
    intro i fu fu' tf tt tp tsn trn tsg trt mv sl nw h1 h3 h4
    obtain ⟨fu, rfl⟩ : ∃ g, fu = g + 1 := ⟨fu - 1, by omega⟩
    obtain ⟨fu', rfl⟩ : ∃ g, fu' = g + 1 := ⟨fu' - 1, by omega⟩
    obtain rfl : i = 4 := by omega
    unfold F_X6_need_22 F_X7_leastOf_3
    rw [if_pos (show (3 : Int32) < nI 4 by decide), if_pos (show (3 : Int32) < nI 4 by decide)]
    exact ⟨_, _, _, rfl, rfl⟩
  | succ m ih =>
    intro i fu fu' tf tt tp tsn trn tsg trt mv sl nw h1 h3 h4
    obtain ⟨fu, rfl⟩ : ∃ g, fu = g + 1 := ⟨fu - 1, by omega⟩
    obtain ⟨fu', rfl⟩ : ∃ g, fu' = g + 1 := ⟨fu' - 1, by omega⟩
    unfold F_X6_need_22 F_X7_leastOf_3
    have c : ¬ (3 : Int32) < nI i := by rw [show (3 : Int32) = nI 3 from rfl, nI_ltI (by decide) (by omega)]; omega
    obtain ⟨sg', rt', ec, es, er⟩ := tryWith_eq (k := k) hR hkR tf tt tp tsn trn tsg trt f (nI T) (nI P) (nI S) sg rt 1 (nI i)
    obtain ⟨nw1, e0, en⟩ := takesAllM mv sl st nw
    have hN2 := NB_take hNB hS hR en es er
    have hk2 : kOk R (up rt' k ((rt k).1, nI i, (rt k).2.2.1, (rt k).2.2.2)) := by
      intro r hr
      by_cases c : r = k
      · subst c; rw [up_self]; exact hk r hr
      · rw [up_ne _ _ c, er r hr]; exact hk r hr
    have hs2 := sOk_cong hs hS es
    have hN4 : NB f T P S R sg' (up rt' k ((rt k).1, nI i, (rt k).2.2.1, (rt k).2.2.2)) (upd nw1 (20 + 4 * k + 1) (nI i)) := NB_fld hN2 hS hR hkR (by omega) _ _ (by rw [if_neg (by omega), er k hkR]) (by rw [if_pos rfl]) (by rw [if_neg (by omega), er k hkR]) (by rw [if_neg (by omega), er k hkR])
    obtain ⟨nw2, e4, hN3, en2⟩ := ticksGoM hN4 hP hP2 hS hR (n := n) (by omega) (by omega) hs2 hk2 0 0
    rw [if_neg i10, if_pos rfl] at ec
    rw [if_neg c, if_neg c, ec]
    simp only [ob]
    rw [e0]
    simp only [ob]
    rw [lnm_eq hP hP2 hS hR hT hn (by omega)]
    simp only [ob]
    rw [lostM hN2 hR hkR]
    simp only [ob]
    rw [chk_pos (inb_nI (by omega) (by decide)), cl_nI (by omega), e4]
    simp only [ob]
    rw [lostM hN3 hR hkR]
    simp only [ob]
    rw [er k hkR]
    by_cases cz : lostS (goS P S R sg' n (f, T, up rt' k ((rt k).1, nI i, (rt k).2.2.1, (rt k).2.2.2))).2.1 ((goS P S R sg' n (f, T, up rt' k ((rt k).1, nI i, (rt k).2.2.1, (rt k).2.2.2))).2.2.2 k).2.2.1 = lostS f (rt k).2.2.1
    · rw [if_pos cz, if_pos cz, if_neg i10]
      exact ⟨_, _, _, rfl, rfl⟩
    · rw [if_neg cz, if_neg cz, if_pos rfl, nI_1]
      exact ih (i + 1) fu fu' _ _ _ _ _ _ _ _ _ _ (by omega) (by omega) (by omega)
theorem p_need : P_need := by
  intro rf len fl by_ f t p sn rn sg rt tr_f tr_t tr_p tr_sn tr_rn tr_sg tr_rt n to wh le k0 f0 t0 p0 sn0 rn0 sg0 rt0 n0 to0 wh0 le0 k1 f1 t1 p1 sn1 rn1 sg1 rt1 n1 to1 wh1 le1 sh tp mf m_moved m_slipTicks tn st m_now kp ta la si ce hRel x1 x2
  have hRel0 := hRel
  obtain ⟨h1, hT, hB, hI0, hI1, hSh⟩ := hRel
  obtain ⟨T, P, S, R, N, ⟨zT, zP1, zP2, zS, zR, zN⟩, ⟨rfl, rfl, rfl, rfl, rfl⟩, ⟨b0, b17, b18, b19, b36, b37⟩, bs, br, bn, bf⟩ := hB
  have hNB : NB f T P S R sg rt st := ⟨⟨b0, b17, b18, b19, b36⟩, fun i hi => (bs i hi).1, fun r hr => (br r hr).1⟩
  have hk : kOk R rt := fun r hr => (br r hr).2.1
  have hs : sOk S sg := fun i hi => (bs i hi).2
  unfold F_X6_need F_X7_need F_X7_leastOf
  rcases rotor_cases b36 zR x1 with ⟨k, hkR, rfl, e1, e2⟩ | ⟨e1, e2⟩
  · rw [e1, e2]
    simp only [ob]
    rw [if_neg i10, if_neg i10]
    rcases far_cases x2 with ⟨m, hm, rfl, e1, e2⟩ | ⟨e1, e2⟩
    · rw [e1, e2]
      simp only [ob]
      rw [if_neg i10, if_neg i10]
      obtain ⟨r, ⟨w1, w2, w3, w4, w5, w6, w7⟩, ⟨w8, w9, w10⟩, g1, g2⟩ := need_loop (k := k) (n := m) hNB zP1 zP2 zS zR (by omega) (by omega) hs hk hkR 4 0 FU FU tr_f tr_t tr_p tr_sn tr_rn tr_sg tr_rt m_moved m_slipTicks m_now (by omega) (by unfold FU; omega) (by unfold FU; omega)
      rw [show (20 : Int32) + 4 * nI k + 1 = nI (20 + 4 * k + 1) from ix_eq k 1, show (0 : Int32) = nI 0 from rfl, g1, g2]
      exact ⟨_, _, _, _, _, _, _, _, _, _, _, rfl, rfl, hRel0⟩
    · rw [e1, e2, bz, bz]
      exact ⟨_, _, _, _, _, _, _, _, _, _, _, rfl, rfl, hRel0⟩
  · rw [e1, e2, bz, bz]
    exact ⟨_, _, _, _, _, _, _, _, _, _, _, rfl, rfl, hRel0⟩
