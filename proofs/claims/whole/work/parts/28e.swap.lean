/-! ease, swap -/
theorem NB_sign {f : Int32} {T P S R : Nat} {sg : Nat → Int32} {rt : Nat → Rot} {b : Nat → Int32} (h : NB f T P S R sg rt b) (hS : S ≤ 16) {i : Nat} (hi : i < S) (v : Int32) : NB f T P S R (upd sg i v) rt (upd b (1 + i) v) := by
  obtain ⟨⟨a0, a1, a2, a3, a4⟩, hs, hr⟩ := h
  have o : ∀ j, j ≠ 1 + i → upd b (1 + i) v j = b j := fun j h => upd_off _ _ h
  refine ⟨⟨(o 0 (by omega)).trans a0, (o 17 (by omega)).trans a1, (o 18 (by omega)).trans a2, (o 19 (by omega)).trans a3, (o 36 (by omega)).trans a4⟩, ?_, fun r hr' => ⟨(o _ (by omega)).trans (hr r hr').1, (o _ (by omega)).trans (hr r hr').2.1, (o _ (by omega)).trans (hr r hr').2.2.1, (o _ (by omega)).trans (hr r hr').2.2.2⟩⟩
  intro j hj
  by_cases c : j = i
  · subst c; rw [upd_at, upd_at]
  · rw [upd_off _ _ c, o _ (by omega)]; exact hs j hj
theorem sOk_upd {S : Nat} {sg : Nat → Int32} (h : sOk S sg) (i : Nat) {v : Int32} (hv : ∃ k, k < 4 ∧ v = nI k) : sOk S (upd sg i v) := by
  intro j hj
  by_cases c : j = i
  · subst c; rw [upd_at]; exact hv
  · rw [upd_off _ _ c]; exact h j hj
theorem ease_loop {P S R T n : Nat} {sg st : Nat → Int32} {f : Int32} {rt : Nat → Rot} {x2 : Int32} (hNB : NB f T P S R sg rt st) (hP : 1 ≤ P) (hP2 : P ≤ 9) (hS : S ≤ 16) (hR : R ≤ 4) (hT : T + n < 20000) (hn : n ≤ 1000) (hs : sOk S sg) (hk : kOk R rt) : ∀ (m i fu fu' : Nat) (tf tt tp tsn trn : Int32) (tsg : Nat → Int32) (trt : Nat → Rot) (mv sl cc cm : Int32) (nw : Nat → Int32), i + m = S → m < fu → m < fu' →
    ∃ r w w', F_X6_ease_44 fu f (nI T) (nI P) (nI S) (nI R) sg rt tf tt tp tsn trn tsg trt (nI n) x2 cm cc (nI i) = some (r, w) ∧ F_X7_ease_31 fu' mv sl cc cm st nw (nI n) x2 (nI i) = some (r, w') := by
  intro m
  induction m with
  | zero =>
    intro i fu fu' tf tt tp tsn trn tsg trt mv sl cc cm nw h1 h3 h4
    obtain ⟨fu, rfl⟩ : ∃ g, fu = g + 1 := ⟨fu - 1, by omega⟩
    obtain ⟨fu', rfl⟩ : ∃ g, fu' = g + 1 := ⟨fu' - 1, by omega⟩
    obtain rfl : i = S := by omega
    unfold F_X6_ease_44 F_X7_ease_31 F_X6_ease_115
    rw [chk_pos (show inb (17 : Int32) 168 by decide), show (17 : Int32).toNatClampNeg = 17 from rfl, hNB.1.2.1, if_pos (nI_le (Nat.le_refl _) (by omega)), if_pos (nI_le (Nat.le_refl _) (by omega)), judged_eq]
    simp only [ob]
    by_cases c : cc = -4
    · rw [if_pos c, if_pos c, c]; exact ⟨_, _, _, rfl, rfl⟩
    · rw [if_neg c, if_neg c]
      by_cases d : x2 = 0
      · rw [if_pos d, if_pos d]; exact ⟨_, _, _, rfl, rfl⟩
      · rw [if_neg d, if_neg d]; exact ⟨_, _, _, rfl, rfl⟩
  | succ m ih =>
    intro i fu fu' tf tt tp tsn trn tsg trt mv sl cc cm nw h1 h3 h4
    obtain ⟨fu, rfl⟩ : ∃ g, fu = g + 1 := ⟨fu - 1, by omega⟩
    obtain ⟨fu', rfl⟩ : ∃ g, fu' = g + 1 := ⟨fu' - 1, by omega⟩
    unfold F_X6_ease_44 F_X7_ease_31
    obtain ⟨sg', rt', ec, es, er⟩ := copyC hR tf tt tp tsn trn tsg trt f (nI T) (nI P) (nI S) sg rt
    obtain ⟨nw1, e0, en⟩ := takesAllM mv sl st nw
    have hN2 := NB_take hNB hS hR en es er
    have hN4 := NB_sign hN2 hS (i := i) (by omega) 0
    obtain ⟨mv', sl', nw', e4⟩ := lbM hN4 hP hP2 hS hR hT hn (sOk_upd (sOk_cong hs hS es) i ⟨0, by omega, rfl⟩) (kOk_cong hk er) 0 0
    rw [chk_pos (show inb (17 : Int32) 168 by decide), show (17 : Int32).toNatClampNeg = 17 from rfl, hNB.1.2.1, if_neg (nI_ge (by omega) (by omega)), if_neg (nI_ge (by omega) (by omega)), ec, e0]
    simp only [ob]
    rw [chk_pos (inb_nI (by omega) (by decide)), show (1 : Int32) + nI i = nI (1 + i) from nI_add 1 i, chk_pos (inb_nI (by omega) (by decide)), cl_nI (by omega), cl_nI (by omega), abC hP hP2 hS hR hT hn, e4]
    simp only [ob]
    unfold F_X7_judges
    rw [nI_1]
    by_cases c : cm ≤ alS R (goS P S R (upd sg' i 0) n (f, T, rt')).2.1 (goS P S R (upd sg' i 0) n (f, T, rt')).2.2.2
    · rw [if_pos c, if_pos c]
      simp only [ob]
      exact ih (i + 1) fu fu' _ _ _ _ _ _ _ _ _ _ _ _ (by omega) (by omega) (by omega)
    · rw [if_neg c, if_neg c]
      simp only [ob]
      exact ih (i + 1) fu fu' _ _ _ _ _ _ _ _ _ _ _ _ (by omega) (by omega) (by omega)
theorem p_ease : P_ease := by
  intro rf len fl by_ f t p sn rn sg rt tr_f tr_t tr_p tr_sn tr_rn tr_sg tr_rt n to wh le k0 f0 t0 p0 sn0 rn0 sg0 rt0 n0 to0 wh0 le0 k1 f1 t1 p1 sn1 rn1 sg1 rt1 n1 to1 wh1 le1 sh tp mf m_moved m_slipTicks m_bestCode m_bestMuch tn st m_now kp ta la si ce hRel x1 x2
  have hRel0 := hRel
  obtain ⟨h1, hT, hB, hI0, hI1, hSh⟩ := hRel
  obtain ⟨T, P, S, R, N, ⟨zT, zP1, zP2, zS, zR, zN⟩, ⟨rfl, rfl, rfl, rfl, rfl⟩, ⟨b0, b17, b18, b19, b36, b37⟩, bs, br, bn, bf⟩ := hB
  have hNB : NB f T P S R sg rt st := ⟨⟨b0, b17, b18, b19, b36⟩, fun i hi => (bs i hi).1, fun r hr => (br r hr).1⟩
  have hk : kOk R rt := fun r hr => (br r hr).2.1
  have hs : sOk S sg := fun i hi => (bs i hi).2
  unfold F_X6_ease F_X7_ease F_X7_startsJudging
  rcases far_cases x1 with ⟨m, hm, rfl, e1, e2⟩ | ⟨e1, e2⟩
  · rw [e1, e2]
    simp only [ob]
    rw [if_neg i10, if_neg i10]
    rcases part_cases x2 with ⟨j, hj, rfl, e1, e2⟩ | ⟨e1, e2⟩
    · rw [e1, e2]
      simp only [ob]
      rw [if_neg i10, if_neg i10]
      obtain ⟨sg', rt', ec, es, er⟩ := copyC zR tr_f tr_t tr_p tr_sn tr_rn tr_sg tr_rt f (nI T) (nI P) (nI S) sg rt
      obtain ⟨nw, e0, en⟩ := takesAllM m_moved m_slipTicks st m_now
      have hN2 : NB f T P S R sg' rt' nw := NB_rt (NB_sg (NB_cong hNB zS zR (fun j hj => en j (by omega))) (fun i hi => es i (by omega))) er
      have hk2 : kOk R rt' := fun r hr => by rw [er r hr]; exact hk r hr
      have hs2 : sOk S sg' := fun i hi => by rw [es i (by omega)]; exact hs i hi
      obtain ⟨mv', sl', nw', e4⟩ := lbM hN2 zP1 zP2 zS zR (n := m) (by omega) (by omega) hs2 hk2 0 0
      rw [ec, e0]
      simp only [ob]
      rw [abC zP1 zP2 zS zR (by omega) (by omega), e4]
      simp only [ob]
      obtain ⟨r, ⟨w1, w2, w3, w4, w5, w6, w7⟩, ⟨w8, w9, w10, w11, w12⟩, g1, g2⟩ := ease_loop (n := m) (x2 := nI j) hNB zP1 zP2 zS zR (by omega) (by omega) hs hk S 0 FU FU (goS P S R sg' m (f, T, rt')).2.1 (nI (T + m)) (nI P) (nI S) (nI R) sg' (goS P S R sg' m (f, T, rt')).2.2.2 mv' sl' (-4) (alS R (goS P S R sg' m (f, T, rt')).2.1 (goS P S R sg' m (f, T, rt')).2.2.2) nw' (by omega) (by unfold FU; omega) (by unfold FU; omega)
      rw [show (0 : Int32) = nI 0 from rfl, g1, g2]
      exact ⟨_, _, _, _, _, _, _, _, _, _, _, _, _, rfl, rfl, hRel0⟩
    · rw [e1, e2, bz, bz]
      exact ⟨_, _, _, _, _, _, _, _, _, _, _, _, _, rfl, rfl, hRel0⟩
  · rw [e1, e2, bz, bz]
    exact ⟨_, _, _, _, _, _, _, _, _, _, _, _, _, rfl, rfl, hRel0⟩
theorem led_cong {P S T : Nat} {sg sg2 : Nat → Int32} {f : Int32} (h : ∀ i, i < S → sg i = sg2 i) : ledS P S sg f T = ledS P S sg2 f T := by
  unfold ledS
  by_cases c : S = 0
  · rw [if_pos c, if_pos c]
  · rw [if_neg c, if_neg c, h _ (Nat.mod_lt _ (by omega))]
theorem go_cong {P S R T : Nat} {sg sg2 : Nat → Int32} {f : Int32} {rt rt2 : Nat → Rot} (h : ∀ i, i < S → sg i = sg2 i) (hr : ∀ r, r < R → rt r = rt2 r) : ∀ n, (goS P S R sg n (f, T, rt)).2.1 = (goS P S R sg2 n (f, T, rt2)).2.1 ∧ ∀ r, r < R → (goS P S R sg n (f, T, rt)).2.2.2 r = (goS P S R sg2 n (f, T, rt2)).2.2.2 r
  | 0 => ⟨rfl, hr⟩
  | n + 1 => by
    have ih := go_cong (P := P) (T := T) (f := f) h hr n
    have t1 := goS_T P S R sg (f, T, rt) n
    have t2 := goS_T P S R sg2 (f, T, rt2) n
    have e1 : (goS P S R sg (n + 1) (f, T, rt)).2.1 = (goS P S R sg2 (n + 1) (f, T, rt2)).2.1 := by
      show ledS P S sg (goS P S R sg n (f, T, rt)).2.1 (goS P S R sg n (f, T, rt)).2.2.1 = ledS P S sg2 (goS P S R sg2 n (f, T, rt2)).2.1 (goS P S R sg2 n (f, T, rt2)).2.2.1
      rw [t1, t2, ih.1, led_cong h]
    refine ⟨e1, ?_⟩
    intro r hr'
    show pulR R (goS P S R sg (n + 1) (f, T, rt)).2.1 (goS P S R sg n (f, T, rt)).2.2.2 r = pulR R (goS P S R sg2 (n + 1) (f, T, rt2)).2.1 (goS P S R sg2 n (f, T, rt2)).2.2.2 r
    rw [e1]
    unfold pulR
    rw [if_pos hr', if_pos hr', ih.2 r hr']
theorem al_cong {R : Nat} {f : Int32} {rt rt2 : Nat → Rot} (hr : ∀ r, r < R → rt r = rt2 r) : alS R f rt = alS R f rt2 := sumI_cong (fun r h => by rw [hr r h])
theorem lb_cong {P S R T n : Nat} {sg sg2 : Nat → Int32} {f : Int32} {rt rt2 : Nat → Rot} (h : ∀ i, i < S → sg i = sg2 i) (hr : ∀ r, r < R → rt r = rt2 r) : alS R (goS P S R sg n (f, T, rt)).2.1 (goS P S R sg n (f, T, rt)).2.2.2 = alS R (goS P S R sg2 n (f, T, rt2)).2.1 (goS P S R sg2 n (f, T, rt2)).2.2.2 := by
  have g := go_cong (P := P) (T := T) (f := f) h hr n
  rw [g.1, al_cong g.2]
theorem swap_in {P S R T n i : Nat} {sg st : Nat → Int32} {f : Int32} {rt : Nat → Rot} {x2 : Int32} (hNB : NB f T P S R sg rt st) (hP : 1 ≤ P) (hP2 : P ≤ 9) (hS : S ≤ 16) (hR : R ≤ 4) (hT : T + n < 20000) (hn : n ≤ 1000) (hs : sOk S sg) (hk : kOk R rt) (hi : i < S)
    {kC : Int32 → Int32 → Int32 → Int32 → Int32 → (Nat → Int32) → (Nat → Rot) → Int32 → Int32 → Int32 → Int32 → Int32 → (Nat → Int32) → (Nat → Rot) → Int32 → Int32 → Int32 → Int32 → Int32 → Option (Int32 × Int32 × Int32 × Int32 × Int32 × Int32 × (Nat → Int32) × (Nat → Rot))}
    {kM : Int32 → Int32 → Int32 → Int32 → (Nat → Int32) → (Nat → Int32) → Int32 → Int32 → Int32 → Option (Int32 × Int32 × Int32 × Int32 × Int32 × (Nat → Int32))}
    (hkk : ∀ (tf tt tp tsn trn : Int32) (tsg : Nat → Int32) (trt : Nat → Rot) (mv sl cc cm : Int32) (nw : Nat → Int32), cm ≤ alS R (goS P S R sg n (f, T, rt)).2.1 (goS P S R sg n (f, T, rt)).2.2.2 → ∃ r w w', kC f (nI T) (nI P) (nI S) (nI R) sg rt tf tt tp tsn trn tsg trt (nI n) x2 cm cc (nI (i + 1)) = some (r, w) ∧ kM mv sl cc cm st nw (nI n) x2 (nI (i + 1)) = some (r, w')) :
    ∀ (m j fu fu' : Nat) (tf tt tp tsn trn : Int32) (tsg : Nat → Int32) (trt : Nat → Rot) (mv sl cc cm : Int32) (nw : Nat → Int32), j + m = S → i < j → m < fu → m < fu' → cm ≤ alS R (goS P S R sg n (f, T, rt)).2.1 (goS P S R sg n (f, T, rt)).2.2.2 →
    ∃ r w w', F_X6_swap_62 fu kC f (nI T) (nI P) (nI S) (nI R) sg rt tf tt tp tsn trn tsg trt (nI n) x2 cm cc (nI i) (nI j) = some (r, w) ∧ F_X7_swap_47 fu' kM mv sl cc cm st nw (nI n) x2 (nI i) (nI j) = some (r, w') := by
  intro m
  induction m with
  | zero =>
    intro j fu fu' tf tt tp tsn trn tsg trt mv sl cc cm nw h1 h2 h3 h4 hc
    obtain ⟨fu, rfl⟩ : ∃ g, fu = g + 1 := ⟨fu - 1, by omega⟩
    obtain ⟨fu', rfl⟩ : ∃ g, fu' = g + 1 := ⟨fu' - 1, by omega⟩
    obtain rfl : j = S := by omega
    unfold F_X6_swap_62 F_X7_swap_47
    rw [chk_pos (show inb (17 : Int32) 168 by decide), show (17 : Int32).toNatClampNeg = 17 from rfl, hNB.1.2.1, if_pos (nI_le (Nat.le_refl _) (by omega)), if_pos (nI_le (Nat.le_refl _) (by omega)), nI_1]
    exact hkk _ _ _ _ _ _ _ _ _ _ _ _ hc
  | succ m ih =>
    intro j fu fu' tf tt tp tsn trn tsg trt mv sl cc cm nw h1 h2 h3 h4 hc
    obtain ⟨fu, rfl⟩ : ∃ g, fu = g + 1 := ⟨fu - 1, by omega⟩
    obtain ⟨fu', rfl⟩ : ∃ g, fu' = g + 1 := ⟨fu' - 1, by omega⟩
    unfold F_X6_swap_62 F_X7_swap_47
    obtain ⟨sg', rt', ec, es, er⟩ := copyC hR tf tt tp tsn trn tsg trt f (nI T) (nI P) (nI S) sg rt
    obtain ⟨nw1, e0, en⟩ := takesAllM mv sl st nw
    have hN2 := NB_take hNB hS hR en es er
    have hN4 := NB_sign (NB_sign hN2 hS (i := i) (by omega) (sg j)) hS (i := j) (by omega) (sg i)
    obtain ⟨mv', sl', nw', e4⟩ := lbM hN4 hP hP2 hS hR hT hn (sOk_upd (sOk_upd (sOk_cong hs hS es) i (hs j (by omega))) j (hs i (by omega))) (kOk_cong hk er) 0 0
    rw [chk_pos (show inb (17 : Int32) 168 by decide), show (17 : Int32).toNatClampNeg = 17 from rfl, hNB.1.2.1, if_neg (nI_ge (by omega) (by omega)), if_neg (nI_ge (by omega) (by omega)), ec, e0]
    simp only [ob, show (1 : Int32) + nI i = nI (1 + i) from nI_add 1 i, show (1 : Int32) + nI j = nI (1 + j) from nI_add 1 j, chk_pos (inb_nI (n := i) (N := 16) (by omega) (by decide)), chk_pos (inb_nI (n := j) (N := 16) (by omega) (by decide)), chk_pos (inb_nI (n := 1 + i) (N := 168) (by omega) (by decide)), chk_pos (inb_nI (n := 1 + j) (N := 168) (by omega) (by decide)), chk_pos (inb_nI (n := 1 + i) (N := 56) (by omega) (by decide)), chk_pos (inb_nI (n := 1 + j) (N := 56) (by omega) (by decide)), cl_nI (n := i) (by omega), cl_nI (n := j) (by omega), cl_nI (n := 1 + i) (by omega), cl_nI (n := 1 + j) (by omega), hNB.2.1 i hi, hNB.2.1 j (by omega)]
    rw [e4, abC hP hP2 hS hR hT hn]
    simp only [ob]
    unfold F_X7_judges
    rw [nI_1]
    by_cases cs : sg i = sg j
    · rw [if_pos cs]
      have eb : alS R (goS P S R (upd (upd sg' i (sg j)) j (sg i)) n (f, T, rt')).2.1 (goS P S R (upd (upd sg' i (sg j)) j (sg i)) n (f, T, rt')).2.2.2 = alS R (goS P S R sg n (f, T, rt)).2.1 (goS P S R sg n (f, T, rt)).2.2.2 := by
        refine lb_cong ?_ er
        intro l hl
        by_cases c1 : l = j
        · subst c1; rw [upd_at]; exact cs
        · rw [upd_off _ _ c1]
          by_cases c2 : l = i
          · subst c2; rw [upd_at]; exact cs.symm
          · rw [upd_off _ _ c2]; exact es l (by omega)
      rw [eb, if_pos hc]
      simp only [ob]
      exact ih (j + 1) fu fu' _ _ _ _ _ _ _ _ _ _ _ _ (by omega) (by omega) (by omega) (by omega) hc
    · rw [if_neg cs]
      by_cases c : cm ≤ alS R (goS P S R (upd (upd sg' i (sg j)) j (sg i)) n (f, T, rt')).2.1 (goS P S R (upd (upd sg' i (sg j)) j (sg i)) n (f, T, rt')).2.2.2
      · rw [if_pos c, if_pos c]
        simp only [ob]
        exact ih (j + 1) fu fu' _ _ _ _ _ _ _ _ _ _ _ _ (by omega) (by omega) (by omega) (by omega) hc
      · rw [if_neg c, if_neg c]
        simp only [ob]
        refine ih (j + 1) fu fu' _ _ _ _ _ _ _ _ _ _ _ _ (by omega) (by omega) (by omega) (by omega) ?_
        rw [i_le] at c hc ⊢; omega
theorem swap_out {P S R T n : Nat} {sg st : Nat → Int32} {f : Int32} {rt : Nat → Rot} {x2 : Int32} (hNB : NB f T P S R sg rt st) (hP : 1 ≤ P) (hP2 : P ≤ 9) (hS : S ≤ 16) (hR : R ≤ 4) (hT : T + n < 20000) (hn : n ≤ 1000) (hs : sOk S sg) (hk : kOk R rt) : ∀ (m i fu fu' : Nat) (tf tt tp tsn trn : Int32) (tsg : Nat → Int32) (trt : Nat → Rot) (mv sl cc cm : Int32) (nw : Nat → Int32), i + m = S → m < fu → m < fu' → cm ≤ alS R (goS P S R sg n (f, T, rt)).2.1 (goS P S R sg n (f, T, rt)).2.2.2 →
    ∃ r w w', F_X6_swap_44 fu f (nI T) (nI P) (nI S) (nI R) sg rt tf tt tp tsn trn tsg trt (nI n) x2 cm cc (nI i) = some (r, w) ∧ F_X7_swap_31 fu' mv sl cc cm st nw (nI n) x2 (nI i) = some (r, w') := by
  intro m
  induction m with
  | zero =>
    intro i fu fu' tf tt tp tsn trn tsg trt mv sl cc cm nw h1 h3 h4 hc
    obtain ⟨fu, rfl⟩ : ∃ g, fu = g + 1 := ⟨fu - 1, by omega⟩
    obtain ⟨fu', rfl⟩ : ∃ g, fu' = g + 1 := ⟨fu' - 1, by omega⟩
    obtain rfl : i = S := by omega
    unfold F_X6_swap_44 F_X7_swap_31 F_X6_swap_197
    rw [chk_pos (show inb (17 : Int32) 168 by decide), show (17 : Int32).toNatClampNeg = 17 from rfl, hNB.1.2.1, if_pos (nI_le (Nat.le_refl _) (by omega)), if_pos (nI_le (Nat.le_refl _) (by omega)), judged_eq]
    simp only [ob]
    by_cases c : cc = -4
    · rw [if_pos c, if_pos c, c]; exact ⟨_, _, _, rfl, rfl⟩
    · rw [if_neg c, if_neg c]
      by_cases d : x2 = 0
      · rw [if_pos d, if_pos d]; exact ⟨_, _, _, rfl, rfl⟩
      · rw [if_neg d, if_neg d]; exact ⟨_, _, _, rfl, rfl⟩
  | succ m ih =>
    intro i fu fu' tf tt tp tsn trn tsg trt mv sl cc cm nw h1 h3 h4 hc
    obtain ⟨fu, rfl⟩ : ∃ g, fu = g + 1 := ⟨fu - 1, by omega⟩
    obtain ⟨fu', rfl⟩ : ∃ g, fu' = g + 1 := ⟨fu' - 1, by omega⟩
    unfold F_X6_swap_44 F_X7_swap_31
    rw [chk_pos (show inb (17 : Int32) 168 by decide), show (17 : Int32).toNatClampNeg = 17 from rfl, hNB.1.2.1, if_neg (nI_ge (by omega) (by omega)), if_neg (nI_ge (by omega) (by omega)), nI_1]
    exact swap_in hNB hP hP2 hS hR hT hn hs hk (by omega) (fun tf tt tp tsn trn tsg trt mv sl cc cm nw hc => ih (i + 1) fu fu' tf tt tp tsn trn tsg trt mv sl cc cm nw (by omega) (by omega) (by omega) hc) m (i + 1) FU FU tf tt tp tsn trn tsg trt mv sl cc cm nw (by omega) (by omega) (by unfold FU; omega) (by unfold FU; omega) hc
theorem p_swap : P_swap := by
  intro rf len fl by_ f t p sn rn sg rt tr_f tr_t tr_p tr_sn tr_rn tr_sg tr_rt n to wh le k0 f0 t0 p0 sn0 rn0 sg0 rt0 n0 to0 wh0 le0 k1 f1 t1 p1 sn1 rn1 sg1 rt1 n1 to1 wh1 le1 sh tp mf m_moved m_slipTicks m_bestCode m_bestMuch tn st m_now kp ta la si ce hRel x1 x2
  have hRel0 := hRel
  obtain ⟨h1, hT, hB, hI0, hI1, hSh⟩ := hRel
  obtain ⟨T, P, S, R, N, ⟨zT, zP1, zP2, zS, zR, zN⟩, ⟨rfl, rfl, rfl, rfl, rfl⟩, ⟨b0, b17, b18, b19, b36, b37⟩, bs, br, bn, bf⟩ := hB
  have hNB : NB f T P S R sg rt st := ⟨⟨b0, b17, b18, b19, b36⟩, fun i hi => (bs i hi).1, fun r hr => (br r hr).1⟩
  have hk : kOk R rt := fun r hr => (br r hr).2.1
  have hs : sOk S sg := fun i hi => (bs i hi).2
  unfold F_X6_swap F_X7_swap F_X7_startsJudging
  rcases far_cases x1 with ⟨m, hm, rfl, e1, e2⟩ | ⟨e1, e2⟩
  · rw [e1, e2]
    simp only [ob]
    rw [if_neg i10, if_neg i10]
    rcases part_cases x2 with ⟨j, hj, rfl, e1, e2⟩ | ⟨e1, e2⟩
    · rw [e1, e2]
      simp only [ob]
      rw [if_neg i10, if_neg i10]
      obtain ⟨sg', rt', ec, es, er⟩ := copyC zR tr_f tr_t tr_p tr_sn tr_rn tr_sg tr_rt f (nI T) (nI P) (nI S) sg rt
      obtain ⟨nw, e0, en⟩ := takesAllM m_moved m_slipTicks st m_now
      have hN2 : NB f T P S R sg' rt' nw := NB_rt (NB_sg (NB_cong hNB zS zR (fun j hj => en j (by omega))) (fun i hi => es i (by omega))) er
      have hk2 : kOk R rt' := fun r hr => by rw [er r hr]; exact hk r hr
      have hs2 : sOk S sg' := fun i hi => by rw [es i (by omega)]; exact hs i hi
      obtain ⟨mv', sl', nw', e4⟩ := lbM hN2 zP1 zP2 zS zR (n := m) (by omega) (by omega) hs2 hk2 0 0
      rw [ec, e0]
      simp only [ob]
      rw [abC zP1 zP2 zS zR (by omega) (by omega), e4]
      simp only [ob]
      have eb := lb_cong (P := P) (S := S) (R := R) (T := T) (n := m) (f := f) (fun i hi => es i (by omega)) er
      obtain ⟨r, ⟨w1, w2, w3, w4, w5, w6, w7⟩, ⟨w8, w9, w10, w11, w12⟩, g1, g2⟩ := swap_out (n := m) (x2 := nI j) hNB zP1 zP2 zS zR (by omega) (by omega) hs hk S 0 FU FU (goS P S R sg' m (f, T, rt')).2.1 (nI (T + m)) (nI P) (nI S) (nI R) sg' (goS P S R sg' m (f, T, rt')).2.2.2 mv' sl' (-4) (alS R (goS P S R sg' m (f, T, rt')).2.1 (goS P S R sg' m (f, T, rt')).2.2.2) nw' (by omega) (by unfold FU; omega) (by unfold FU; omega) (by rw [eb, i_le]; omega)
      rw [show (0 : Int32) = nI 0 from rfl, g1, g2]
      exact ⟨_, _, _, _, _, _, _, _, _, _, _, _, _, rfl, rfl, hRel0⟩
    · rw [e1, e2, bz, bz]
      exact ⟨_, _, _, _, _, _, _, _, _, _, _, _, _, rfl, rfl, hRel0⟩
  · rw [e1, e2, bz, bz]
    exact ⟨_, _, _, _, _, _, _, _, _, _, _, _, _, rfl, rfl, hRel0⟩
