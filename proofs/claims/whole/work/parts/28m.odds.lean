/-! luck, mean -/
theorem shl_tab : ∀ n, n ≤ 8 → ishl 1 (nI n) = nI (2 ^ n) := by decide
section
variable {f : Int32} {T P S R : Nat} {sg : Nat → Int32} {rt : Nat → Rot} {st : Nat → Int32} {v n x : Nat}
theorem odds63_loop {kk : Int32 → Int32 → Int64 → Int64 → Int64 → (Nat → Int32) → (Nat → Int32) → Int32 → Int32 → Int32 → Int32 → Option (Int32 × Int32 × Int64 × Int64 × Int64 × (Nat → Int32))} {ss ms aw : Int64} {r : Int32} (hP : 1 ≤ P) (hP2 : P ≤ 9) (hS : S ≤ 16) (hR : R ≤ 4) (hT : T + 50 < 20000) (hs : sOk S sg) (hk : kOk R rt) (hv : v ≤ 10) (hn : n ≤ 8) : ∀ (m i fu : Nat) (sl : Int32) (b : Nat → Int32), i + m = n → m < fu → NB (foS P S R sg x i (f, T, rt)).2.1 (T + i) P S R sg (foS P S R sg x i (f, T, rt)).2.2.2 b →
    ∃ sl' b', F_X7_findOdds_63 fu kk (foS P S R sg x i (f, T, rt)).1 sl ss ms aw st b (nI v) r (nI n) (nI x) (lN (wN x v i)) (nI i) = F_X7_findOdds_63 1 kk (foS P S R sg x n (f, T, rt)).1 sl' ss ms aw st b' (nI v) r (nI n) (nI x) (lN (wN x v n)) (nI n) ∧ NB (foS P S R sg x n (f, T, rt)).2.1 (T + n) P S R sg (foS P S R sg x n (f, T, rt)).2.2.2 b' := by
  intro m
  induction m with
  | zero =>
    intro i fu sl b h1 h2 h
    obtain ⟨fu, rfl⟩ : ∃ g, fu = g + 1 := ⟨fu - 1, by omega⟩
    obtain rfl : i = n := by omega
    refine ⟨sl, b, ?_, h⟩
    have c := nI_le (Nat.le_refl i) (show i < 2 ^ 31 by omega)
    rw [F_X7_findOdds_63, if_pos c, F_X7_findOdds_63, if_pos c]
  | succ m ih =>
    intro i fu sl b h1 h2 h
    obtain ⟨fu, rfl⟩ : ∃ g, fu = g + 1 := ⟨fu - 1, by omega⟩
    rw [F_X7_findOdds_63, if_neg (nI_ge (by omega) (by omega))]
    have hTi : (foS P S R sg x i (f, T, rt)).2.2.1 = T + i := foS_T P S R sg x (f, T, rt) i
    obtain ⟨b1, q1, q2, q3⟩ := fieldGoesM h hP hP2 hS hR (by omega) hs
    rw [q1]
    simp only [ob]
    have e1 : foS P S R sg x (i + 1) (f, T, rt) = ((foS P S R sg x i (f, T, rt)).1 + (fkS P S R sg x i (foS P S R sg x i (f, T, rt)).2).1, (fkS P S R sg x i (foS P S R sg x i (f, T, rt)).2).2) := rfl
    have e2 : wN x v (i + 1) = wN x v i * (if ishr (nI x) (nI i) &&& 1 = 1 then v else 10 - v) := rfl
    unfold fkS at e1
    rw [hTi] at e1
    by_cases c : ishr (nI x) (nI i) &&& 1 = 1
    · rw [if_pos c] at e1 e2
      obtain ⟨sl1, b2, r1, r2⟩ := rotorsLeaveM q2 hS hR (foS P S R sg x i (f, T, rt)).1 sl
      have z := ih (i + 1) fu sl1 b2 (by omega) (by omega) (by rw [e1]; exact r2)
      rw [e1, e2] at z
      simp only [Int32.add_zero] at z
      rw [if_pos c, r1]
      simp only [ob]
      rw [nI_l (show v < 2 ^ 31 by omega), lN_mul, nI_1]
      exact z
    · rw [if_neg c] at e1 e2
      obtain ⟨b2, r1, r2, r3⟩ := rotorsGoM q2 hS hR (kOk_fo hk i) (foS P S R sg x i (f, T, rt)).1 sl
      have z := ih (i + 1) fu (sl + slN R (ledS P S sg (foS P S R sg x i (f, T, rt)).2.1 (T + i)) (foS P S R sg x i (f, T, rt)).2.2.2) b2 (by omega) (by omega) (by rw [e1]; exact r2)
      rw [e1, e2] at z
      rw [if_neg c, r1]
      simp only [ob]
      rw [show (10 : Int32) = nI 10 from rfl, pk_sub hv, nI_l (show 10 - v < 2 ^ 31 by omega), lN_mul, nI_1]
      exact z
theorem odds18_loop {ss ms : Int64} {mv sl r : Int32} {nw : Nat → Int32} (hn : n ≤ 8) : ∀ (m i fu : Nat), i + m = n → m < fu → F_X7_findOdds_18 fu mv sl ss ms (lN (10 ^ i)) st nw (nI v) r (nI n) (nI i) = F_X7_findOdds_45 FU mv sl ss ms (lN (10 ^ n)) st nw (nI v) r (nI n) 0 := by
  intro m
  induction m with
  | zero =>
    intro i fu h1 h2
    obtain ⟨fu, rfl⟩ : ∃ g, fu = g + 1 := ⟨fu - 1, by omega⟩
    obtain rfl : i = n := by omega
    rw [F_X7_findOdds_18, if_pos (nI_le (Nat.le_refl _) (by omega))]
  | succ m ih =>
    intro i fu h1 h2
    obtain ⟨fu, rfl⟩ : ∃ g, fu = g + 1 := ⟨fu - 1, by omega⟩
    rw [F_X7_findOdds_18, if_neg (nI_ge (by omega) (by omega)), show (10 : Int64) = lN 10 from rfl, lN_mul, nI_1, ← Nat.pow_succ]
    exact ih (i + 1) fu (by omega) (by omega)
end
theorem pow8 {n : Nat} (hn : n ≤ 8) : 10 ^ n ≤ 100000000 ∧ 0 < 10 ^ n ∧ 2 ^ n ≤ 256 :=
  ⟨Nat.pow_le_pow_right (n := 10) (by decide) hn, Nat.pow_pos (by decide), Nat.pow_le_pow_right (n := 2) (by decide) hn⟩
theorem luck_loop {P S R T n k v : Nat} {sg st : Nat → Int32} {f : Int32} {rt : Nat → Rot} {x4 : Int32} {aw : Int64} (hNB : NB f T P S R sg rt st) (hP : 1 ≤ P) (hP2 : P ≤ 9) (hS : S ≤ 16) (hR : R ≤ 4) (hT : T + 50 < 20000) (hs : sOk S sg) (hk : kOk R rt) (hv : v ≤ 10) (hn : n ≤ 8) (hkR : k < R) :
    ∀ (m x fu fu' : Nat) (tf tt tp tsn trn : Int32) (tsg : Nat → Int32) (trt : Nat → Rot) (mv sl : Int32) (A : Nat) (ms : Int64) (nw : Nat → Int32), x + m = 2 ^ n → m < fu → m < fu' → A ≤ x * 100000000 →
    ∃ A' w mv' sl' ms' nw', A' ≤ 25600000000 ∧ F_X6_luck_45 fu f (nI T) (nI P) (nI S) (nI R) sg rt tf tt tp tsn trn tsg trt (nI v) (nI k) (nI n) x4 (lN A) (nI x) = ((F_X6_power 10 (nI n)).bind fun r2 => (F_X6_inLowestTerms (lN A') r2 x4).bind fun r4 => some (r4, w)) ∧ F_X7_findOdds_45 fu' mv sl (lN A) ms aw st nw (nI v) (nI k) (nI n) (nI x) = some (mv', sl', lN A', ms', aw, nw') := by
  obtain ⟨p1, p2, p3⟩ := pow8 hn
  intro m
  induction m with
  | zero =>
    intro x fu fu' tf tt tp tsn trn tsg trt mv sl A ms nw h1 h2 h3 h4
    obtain ⟨fu, rfl⟩ : ∃ g, fu = g + 1 := ⟨fu - 1, by omega⟩
    obtain ⟨fu', rfl⟩ : ∃ g, fu' = g + 1 := ⟨fu' - 1, by omega⟩
    obtain rfl : x = 2 ^ n := by omega
    have c := nI_le (Nat.le_refl (2 ^ n)) (show 2 ^ n < 2 ^ 31 by omega)
    rw [F_X6_luck_45, F_X7_findOdds_45, shl_tab n hn, if_pos c, if_pos c]
    exact ⟨A, _, _, _, _, _, by omega, rfl, rfl⟩
  | succ m ih =>
    intro x fu fu' tf tt tp tsn trn tsg trt mv sl A ms nw h1 h2 h3 h4
    obtain ⟨fu, rfl⟩ : ∃ g, fu = g + 1 := ⟨fu - 1, by omega⟩
    obtain ⟨fu', rfl⟩ : ∃ g, fu' = g + 1 := ⟨fu' - 1, by omega⟩
    have c : ¬ nI (2 ^ n) ≤ nI x := nI_ge (by omega) (by omega)
    obtain ⟨sg', rt', ec, es, er⟩ := copyC hR tf tt tp tsn trn tsg trt f (nI T) (nI P) (nI S) sg rt
    obtain ⟨nw1, e0, en⟩ := takesAllM mv sl st nw
    have hN2 := NB_take hNB hS hR en es er
    obtain ⟨sl', b', e6, hN3⟩ := odds63_loop (st := st) (n := n) (x := x) (v := v) (r := nI k) (ss := lN A) (ms := ms) (aw := aw) (kk := fun (v_moved : Int32) (v_slipTicks : Int32) (v_straightSum : Int64) (v_movedSum : Int64) (v_allWays : Int64) (v_st : Nat → Int32) (v_now : Nat → Int32) (x1 : Int32) (x2 : Int32) (x3 : Int32) (x4 : Int32) => F_X7_findOdds_45 fu' v_moved v_slipTicks v_straightSum v_movedSum v_allWays v_st v_now x1 x2 x3 x4) hP hP2 hS hR hT (sOk_cong hs hS es) (kOk_cong hk er) hv hn n 0 FU 0 nw1 (by omega) (by unfold FU; omega) hN2
    have e6 : F_X7_findOdds_63 FU (fun (v_moved : Int32) (v_slipTicks : Int32) (v_straightSum : Int64) (v_movedSum : Int64) (v_allWays : Int64) (v_st : Nat → Int32) (v_now : Nat → Int32) (x1 : Int32) (x2 : Int32) (x3 : Int32) (x4 : Int32) => F_X7_findOdds_45 fu' v_moved v_slipTicks v_straightSum v_movedSum v_allWays v_st v_now x1 x2 x3 x4) 0 0 (lN A) ms aw st nw1 (nI v) (nI k) (nI n) (nI x) 1 0 = _ := e6
    have hW := wN_le (x := x) hv n
    have cn := nI_le (Nat.le_refl n) (show n < 2 ^ 31 by omega)
    rw [F_X6_luck_45, F_X7_findOdds_45, shl_tab n hn, if_neg c, if_neg c, ec, e0]
    simp only [ob]
    rw [e6, failC hP hP2 hS hR (by omega) (by omega), F_X7_findOdds_63, if_pos cn, if_neg (best_ne k (by omega)), offM hN3 hR hkR]
    simp only [ob]
    rw [chk_pos (inb_nI (by omega) (by decide)), cl_nI (by omega), show F_X2_off ((foS P S R sg' x n (f, T, rt')).2.2.2 k).2.2.1 (foS P S R sg' x n (f, T, rt')).2.1 = some (offS (foS P S R sg' x n (f, T, rt')).2.1 ((foS P S R sg' x n (f, T, rt')).2.2.2 k).2.2.1) from rfl]
    simp only [ob]
    rw [nI_1]
    by_cases d : offS (foS P S R sg' x n (f, T, rt')).2.1 ((foS P S R sg' x n (f, T, rt')).2.2.2 k).2.2.1 = 0
    · rw [if_pos d, if_pos d, bc_tab n hn x (by omega)]
      simp only [ob]
      rw [weight_eq hv hn]
      simp only [ob]
      rw [lN_add]
      exact ih (x + 1) fu fu' _ _ _ _ _ _ _ _ _ _ _ _ (by omega) (by omega) (by omega) (by omega)
    · rw [if_neg d, if_neg d, Int64.add_zero]
      exact ih (x + 1) fu fu' _ _ _ _ _ _ _ _ _ A _ _ (by omega) (by omega) (by omega) (Nat.le_trans h4 (Nat.mul_le_mul_right _ (by omega)))
theorem mean_loop {P S R T n v : Nat} {sg st : Nat → Int32} {f : Int32} {rt : Nat → Rot} {x4 : Int32} {aw : Int64} (hNB : NB f T P S R sg rt st) (hP : 1 ≤ P) (hP2 : P ≤ 9) (hS : S ≤ 16) (hR : R ≤ 4) (hT : T + 50 < 20000) (hs : sOk S sg) (hk : kOk R rt) (hv : v ≤ 10) (hn : n ≤ 8) :
    ∀ (m x fu fu' : Nat) (tf tt tp tsn trn : Int32) (tsg : Nat → Int32) (trt : Nat → Rot) (mv sl : Int32) (A : Nat) (ss : Int64) (nw : Nat → Int32), x + m = 2 ^ n → m < fu → m < fu' → A ≤ x * 6400000000 →
    ∃ A' w mv' sl' ss' nw', A' ≤ 1638400000000 ∧ F_X6_mean_36 fu f (nI T) (nI P) (nI S) (nI R) sg rt tf tt tp tsn trn tsg trt (nI v) (nI n) x4 (lN A) (nI x) = ((F_X6_power 10 (nI n)).bind fun r2 => (F_X6_inLowestTerms (lN A') r2 x4).bind fun r4 => some (r4, w)) ∧ F_X7_findOdds_45 fu' mv sl ss (lN A) aw st nw (nI v) (-4) (nI n) (nI x) = some (mv', sl', ss', lN A', aw, nw') := by
  obtain ⟨p1, p2, p3⟩ := pow8 hn
  intro m
  induction m with
  | zero =>
    intro x fu fu' tf tt tp tsn trn tsg trt mv sl A ss nw h1 h2 h3 h4
    obtain ⟨fu, rfl⟩ : ∃ g, fu = g + 1 := ⟨fu - 1, by omega⟩
    obtain ⟨fu', rfl⟩ : ∃ g, fu' = g + 1 := ⟨fu' - 1, by omega⟩
    obtain rfl : x = 2 ^ n := by omega
    have c := nI_le (Nat.le_refl (2 ^ n)) (show 2 ^ n < 2 ^ 31 by omega)
    rw [F_X6_mean_36, F_X7_findOdds_45, shl_tab n hn, if_pos c, if_pos c]
    exact ⟨A, _, _, _, _, _, by omega, rfl, rfl⟩
  | succ m ih =>
    intro x fu fu' tf tt tp tsn trn tsg trt mv sl A ss nw h1 h2 h3 h4
    obtain ⟨fu, rfl⟩ : ∃ g, fu = g + 1 := ⟨fu - 1, by omega⟩
    obtain ⟨fu', rfl⟩ : ∃ g, fu' = g + 1 := ⟨fu' - 1, by omega⟩
    have c : ¬ nI (2 ^ n) ≤ nI x := nI_ge (by omega) (by omega)
    obtain ⟨sg', rt', ec, es, er⟩ := copyC hR tf tt tp tsn trn tsg trt f (nI T) (nI P) (nI S) sg rt
    obtain ⟨nw1, e0, en⟩ := takesAllM mv sl st nw
    have hN2 := NB_take hNB hS hR en es er
    obtain ⟨sl', b', e6, hN3⟩ := odds63_loop (st := st) (n := n) (x := x) (v := v) (r := -4) (ss := ss) (ms := lN A) (aw := aw) (kk := fun (v_moved : Int32) (v_slipTicks : Int32) (v_straightSum : Int64) (v_movedSum : Int64) (v_allWays : Int64) (v_st : Nat → Int32) (v_now : Nat → Int32) (x1 : Int32) (x2 : Int32) (x3 : Int32) (x4 : Int32) => F_X7_findOdds_45 fu' v_moved v_slipTicks v_straightSum v_movedSum v_allWays v_st v_now x1 x2 x3 x4) hP hP2 hS hR hT (sOk_cong hs hS es) (kOk_cong hk er) hv hn n 0 FU 0 nw1 (by omega) (by unfold FU; omega) hN2
    have e6 : F_X7_findOdds_63 FU (fun (v_moved : Int32) (v_slipTicks : Int32) (v_straightSum : Int64) (v_movedSum : Int64) (v_allWays : Int64) (v_st : Nat → Int32) (v_now : Nat → Int32) (x1 : Int32) (x2 : Int32) (x3 : Int32) (x4 : Int32) => F_X7_findOdds_45 fu' v_moved v_slipTicks v_straightSum v_movedSum v_allWays v_st v_now x1 x2 x3 x4) 0 0 ss (lN A) aw st nw1 (nI v) (-4) (nI n) (nI x) 1 0 = _ := e6
    have hW := wN_le (x := x) hv n
    obtain ⟨M, hM, eM⟩ := foS_mv (P := P) (S := S) (sg := sg') (x := x) (s := (f, T, rt')) hR n
    have hMW : M * wN x v n ≤ 64 * 100000000 := Nat.mul_le_mul (by omega) (by omega)
    have cn := nI_le (Nat.le_refl n) (show n < 2 ^ 31 by omega)
    rw [F_X6_mean_36, F_X7_findOdds_45, shl_tab n hn, if_neg c, if_neg c, ec, e0]
    simp only [ob]
    rw [e6, failC hP hP2 hS hR (by omega) (by omega), F_X7_findOdds_63, if_pos cn, if_pos rfl]
    simp only [ob]
    rw [bc_tab n hn x (by omega)]
    simp only [ob]
    rw [weight_eq hv hn]
    simp only [ob]
    rw [eM, nI_l (show M < 2 ^ 31 by omega), lN_mul, lN_mul, Nat.mul_comm (wN x v n) M, lN_add, nI_1]
    exact ih (x + 1) fu fu' _ _ _ _ _ _ _ _ _ _ _ _ (by omega) (by omega) (by omega) (by omega)
theorem p_luck : P_luck := by
  intro rf len fl by_ f t p sn rn sg rt tr_f tr_t tr_p tr_sn tr_rn tr_sg tr_rt n to wh le k0 f0 t0 p0 sn0 rn0 sg0 rt0 n0 to0 wh0 le0 k1 f1 t1 p1 sn1 rn1 sg1 rt1 n1 to1 wh1 le1 sh tp mf m_moved m_slipTicks m_straightSum m_movedSum m_allWays tn st m_now kp ta la si ce hRel x1 x2 x3 x4
  have hRel0 := hRel
  obtain ⟨h1, hT, hB, hI0, hI1, hSh⟩ := hRel
  obtain ⟨T, P, S, R, N, ⟨zT, zP1, zP2, zS, zR, zN⟩, ⟨rfl, rfl, rfl, rfl, rfl⟩, ⟨b0, b17, b18, b19, b36, b37⟩, bs, br, bn, bf⟩ := hB
  have hNB : NB f T P S R sg rt st := ⟨⟨b0, b17, b18, b19, b36⟩, fun i hi => (bs i hi).1, fun r hr => (br r hr).1⟩
  have hk : kOk R rt := fun r hr => (br r hr).2.1
  have hs : sOk S sg := fun i hi => (bs i hi).2
  unfold F_X6_luck F_X7_luck
  rcases rng_cases x1 10 (by decide) with ⟨v, hv, rfl, e1, e2⟩ | ⟨e1, e2⟩
  · have e1 : F_X6_within (nI v) 10 = some 1 := e1
    have e2 : F_X7_in (nI v).toInt64 0 10 = some 1 := e2
    rw [e1, e2]
    simp only [ob]
    rw [if_neg i10, if_neg i10]
    rcases rotor_cases b36 zR x2 with ⟨k, hkR, rfl, e1, e2⟩ | ⟨e1, e2⟩
    · rw [e1, e2]
      simp only [ob]
      rw [if_neg i10, if_neg i10]
      rcases rng_cases x3 8 (by decide) with ⟨m, hm, rfl, e1, e2⟩ | ⟨e1, e2⟩
      · have e1 : F_X6_within (nI m) 8 = some 1 := e1
        have e2 : F_X7_in (nI m).toInt64 0 8 = some 1 := e2
        rw [e1, e2]
        simp only [ob]
        rw [if_neg i10, if_neg i10]
        rcases part_cases x4 with ⟨j, hj, rfl, e1, e2⟩ | ⟨e1, e2⟩
        · rw [e1, e2]
          simp only [ob]
          rw [if_neg i10, if_neg i10]
          obtain ⟨p1, p2, p3⟩ := pow8 hm
          obtain ⟨A, ⟨w1, w2, w3, w4, w5, w6, w7⟩, mv', sl', ms', nw', hA, g1, g2⟩ := luck_loop (n := m) (k := k) (v := v) (x4 := nI j) (aw := lN (10 ^ m)) hNB zP1 zP2 zS zR (by omega) hs hk hv hm hkR (2 ^ m) 0 FU FU tr_f tr_t tr_p tr_sn tr_rn tr_sg tr_rt m_moved m_slipTicks 0 0 m_now (by omega) (by unfold FU; omega) (by unfold FU; omega) (by omega)
          have g1 : F_X6_luck_45 FU f (nI T) (nI P) (nI S) (nI R) sg rt tr_f tr_t tr_p tr_sn tr_rn tr_sg tr_rt (nI v) (nI k) (nI m) (nI j) 0 0 = _ := g1
          have g2 : F_X7_findOdds_45 FU m_moved m_slipTicks 0 0 (lN (10 ^ m)) st m_now (nI v) (nI k) (nI m) 0 = _ := g2
          have g3 : F_X7_findOdds m_moved m_slipTicks m_straightSum m_movedSum m_allWays st m_now (nI v) (nI k) (nI m) = F_X7_findOdds_45 FU m_moved m_slipTicks 0 0 (lN (10 ^ m)) st m_now (nI v) (nI k) (nI m) 0 := odds18_loop hm m 0 FU (by omega) (by unfold FU; omega)
          obtain ⟨r, l1, l2⟩ := low_eq (a := A) (b := 10 ^ m) (x4 := nI j) (by omega) (by omega) p2
          rw [g1, g3, g2, show (10 : Int32) = nI 10 from rfl, power_eq (by omega) hm]
          simp only [ob]
          rw [l1, l2]
          simp only [ob]
          exact ⟨_, _, _, _, _, _, _, _, _, _, _, _, _, _, rfl, rfl, hRel0⟩
        · rw [e1, e2, bz, bz]
          exact ⟨_, _, _, _, _, _, _, _, _, _, _, _, _, _, rfl, rfl, hRel0⟩
      · have e1 : F_X6_within x3 8 = some 0 := e1
        have e2 : F_X7_in x3.toInt64 0 8 = some 0 := e2
        rw [e1, e2, bz, bz]
        exact ⟨_, _, _, _, _, _, _, _, _, _, _, _, _, _, rfl, rfl, hRel0⟩
    · rw [e1, e2, bz, bz]
      exact ⟨_, _, _, _, _, _, _, _, _, _, _, _, _, _, rfl, rfl, hRel0⟩
  · have e1 : F_X6_within x1 10 = some 0 := e1
    have e2 : F_X7_in x1.toInt64 0 10 = some 0 := e2
    rw [e1, e2, bz, bz]
    exact ⟨_, _, _, _, _, _, _, _, _, _, _, _, _, _, rfl, rfl, hRel0⟩
theorem p_mean : P_mean := by
  intro rf len fl by_ f t p sn rn sg rt tr_f tr_t tr_p tr_sn tr_rn tr_sg tr_rt n to wh le k0 f0 t0 p0 sn0 rn0 sg0 rt0 n0 to0 wh0 le0 k1 f1 t1 p1 sn1 rn1 sg1 rt1 n1 to1 wh1 le1 sh tp mf m_moved m_slipTicks m_straightSum m_movedSum m_allWays tn st m_now kp ta la si ce hRel x1 x2 x3
  have hRel0 := hRel
  obtain ⟨h1, hT, hB, hI0, hI1, hSh⟩ := hRel
  obtain ⟨T, P, S, R, N, ⟨zT, zP1, zP2, zS, zR, zN⟩, ⟨rfl, rfl, rfl, rfl, rfl⟩, ⟨b0, b17, b18, b19, b36, b37⟩, bs, br, bn, bf⟩ := hB
  have hNB : NB f T P S R sg rt st := ⟨⟨b0, b17, b18, b19, b36⟩, fun i hi => (bs i hi).1, fun r hr => (br r hr).1⟩
  have hk : kOk R rt := fun r hr => (br r hr).2.1
  have hs : sOk S sg := fun i hi => (bs i hi).2
  unfold F_X6_mean F_X7_mean
  rcases rng_cases x1 10 (by decide) with ⟨v, hv, rfl, e1, e2⟩ | ⟨e1, e2⟩
  · have e1 : F_X6_within (nI v) 10 = some 1 := e1
    have e2 : F_X7_in (nI v).toInt64 0 10 = some 1 := e2
    rw [e1, e2]
    simp only [ob]
    rw [if_neg i10, if_neg i10]
    rcases rng_cases x2 8 (by decide) with ⟨m, hm, rfl, e1, e2⟩ | ⟨e1, e2⟩
    · have e1 : F_X6_within (nI m) 8 = some 1 := e1
      have e2 : F_X7_in (nI m).toInt64 0 8 = some 1 := e2
      rw [e1, e2]
      simp only [ob]
      rw [if_neg i10, if_neg i10]
      rcases part_cases x3 with ⟨j, hj, rfl, e1, e2⟩ | ⟨e1, e2⟩
      · rw [e1, e2]
        simp only [ob]
        rw [if_neg i10, if_neg i10]
        obtain ⟨p1, p2, p3⟩ := pow8 hm
        obtain ⟨A, ⟨w1, w2, w3, w4, w5, w6, w7⟩, mv', sl', ms', nw', hA, g1, g2⟩ := mean_loop (n := m) (v := v) (x4 := nI j) (aw := lN (10 ^ m)) hNB zP1 zP2 zS zR (by omega) hs hk hv hm (2 ^ m) 0 FU FU tr_f tr_t tr_p tr_sn tr_rn tr_sg tr_rt m_moved m_slipTicks 0 0 m_now (by omega) (by unfold FU; omega) (by unfold FU; omega) (by omega)
        have g1 : F_X6_mean_36 FU f (nI T) (nI P) (nI S) (nI R) sg rt tr_f tr_t tr_p tr_sn tr_rn tr_sg tr_rt (nI v) (nI m) (nI j) 0 0 = _ := g1
        have g2 : F_X7_findOdds_45 FU m_moved m_slipTicks 0 0 (lN (10 ^ m)) st m_now (nI v) (-4) (nI m) 0 = _ := g2
        have g3 : F_X7_findOdds m_moved m_slipTicks m_straightSum m_movedSum m_allWays st m_now (nI v) (-4) (nI m) = F_X7_findOdds_45 FU m_moved m_slipTicks 0 0 (lN (10 ^ m)) st m_now (nI v) (-4) (nI m) 0 := odds18_loop hm m 0 FU (by omega) (by unfold FU; omega)
        obtain ⟨r, l1, l2⟩ := low_eq (a := A) (b := 10 ^ m) (x4 := nI j) (by omega) (by omega) p2
        rw [g1, g3, g2, show (10 : Int32) = nI 10 from rfl, power_eq (by omega) hm]
        simp only [ob]
        rw [l1, l2]
        simp only [ob]
        exact ⟨_, _, _, _, _, _, _, _, _, _, _, _, _, _, rfl, rfl, hRel0⟩
      · rw [e1, e2, bz, bz]
        exact ⟨_, _, _, _, _, _, _, _, _, _, _, _, _, _, rfl, rfl, hRel0⟩
    · have e1 : F_X6_within x2 8 = some 0 := e1
      have e2 : F_X7_in x2.toInt64 0 8 = some 0 := e2
      rw [e1, e2, bz, bz]
      exact ⟨_, _, _, _, _, _, _, _, _, _, _, _, _, _, rfl, rfl, hRel0⟩
  · have e1 : F_X6_within x1 10 = some 0 := e1
    have e2 : F_X7_in x1.toInt64 0 10 = some 0 := e2
    rw [e1, e2, bz, bz]
    exact ⟨_, _, _, _, _, _, _, _, _, _, _, _, _, _, rfl, rfl, hRel0⟩
