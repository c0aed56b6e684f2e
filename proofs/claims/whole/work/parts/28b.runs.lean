/-! runs, ahead, when -/
theorem far_cases (x : Int32) : (∃ k, k ≤ 200 ∧ x = nI k ∧ F_X6_within x 200 = some 1 ∧ F_X7_isFar x = some 1) ∨ (F_X6_within x 200 = some 0 ∧ F_X7_isFar x = some 0) := by
  unfold F_X7_isFar
  rcases rng_cases x 200 (by decide) with ⟨k, hk, e, h1, h2⟩ | ⟨h1, h2⟩
  · left
    have h2 : F_X7_in x.toInt64 0 200 = some 1 := h2
    refine ⟨k, hk, e, h1, ?_⟩; rw [h2]; exact chk_pos (by decide)
  · right
    have h2 : F_X7_in x.toInt64 0 200 = some 0 := h2
    refine ⟨h1, ?_⟩; rw [h2]; exact chk_pos (by decide)
theorem part_cases (x : Int32) : (∃ k, k ≤ 1 ∧ x = nI k ∧ F_X6_within x 1 = some 1 ∧ F_X7_isPart x = some 1) ∨ (F_X6_within x 1 = some 0 ∧ F_X7_isPart x = some 0) := by
  unfold F_X7_isPart
  rcases rng_cases x 1 (by decide) with ⟨k, hk, e, h1, h2⟩ | ⟨h1, h2⟩
  · left
    have h2 : F_X7_in x.toInt64 0 1 = some 1 := h2
    refine ⟨k, hk, e, h1, ?_⟩; rw [h2]; exact chk_pos (by decide)
  · right
    have h2 : F_X7_in x.toInt64 0 1 = some 0 := h2
    refine ⟨h1, ?_⟩; rw [h2]; exact chk_pos (by decide)
theorem ob {α β : Type} (a : α) (f : α → Option β) : (some a).bind f = f a := by
  by_cases h : True
  · rfl
  · rfl
theorem bz {α : Type} (a : Option α) (b : Int32 → Option α) : (some (0 : Int32)).bind (fun r => if r = 0 then a else b r) = a := rfl
theorem go_pt {P S R T i : Nat} {sg : Nat → Int32} {f : Int32} {rt : Nat → Rot} : ((goS P S R sg i (f, T, rt)).2.1, T + i, (goS P S R sg i (f, T, rt)).2.2.2) = (goS P S R sg i (f, T, rt)).2 := by
  have h := goS_T P S R sg (f, T, rt) i
  rw [show T + i = (goS P S R sg i (f, T, rt)).2.2.1 from h.symm]
/-- what 'runs' answers -/
def runA (P S R : Nat) (sg : Nat → Int32) (s : Sst) (n : Nat) (x2 : Int32) : Int32 :=
  if x2 = 0 then (goS P S R sg n s).1 else if x2 = 1 then 100000 + (goS P S R sg n s).2.1 else if x2 = 2 then alS R (goS P S R sg n s).2.1 (goS P S R sg n s).2.2.2 else slS P S R sg s n
theorem runs_loop {nf nt np nsn nrn : Int32} {nsg : Nat → Int32} {nrt : Nat → Rot} {P S R T n : Nat} {sg : Nat → Int32} {f : Int32} {rt : Nat → Rot} {x2 : Int32} (hP : 1 ≤ P) (hP2 : P ≤ 9) (hS : S ≤ 16) (hR : R ≤ 4) (hT : T + n < 20000) (hn : n ≤ 1000) : ∀ (fu i : Nat), i ≤ n → n - i < fu →
    F_X6_runs_39 fu nf nt np nsn nrn nsg nrt (goS P S R sg i (f, T, rt)).2.1 (nI (T + i)) (nI P) (nI S) (nI R) sg (goS P S R sg i (f, T, rt)).2.2.2 (nI n) x2 (goS P S R sg i (f, T, rt)).1 (slS P S R sg (f, T, rt) i) (nI i)
      = some (runA P S R sg (f, T, rt) n x2, (goS P S R sg n (f, T, rt)).2.1, nI (T + n), nI P, nI S, nI R, sg, (goS P S R sg n (f, T, rt)).2.2.2) := by
  intro fu
  induction fu with
  | zero => intro i h1 h2; omega
  | succ fu ih =>
    intro i h1 h2
    unfold F_X6_runs_39
    by_cases hc : n ≤ i
    · have e : i = n := by omega
      subst e
      rw [if_pos (nI_le (Nat.le_refl _) (by omega)), allLostC hR]
      unfold runA
      simp only [ob]
      split
      · rfl
      split
      · rfl
      split <;> rfl
    · rw [if_neg (nI_ge (by omega) (by omega)), leadField_eq hP hP2 hS (by omega)]
      simp only [ob]
      rw [slippingC hR, pullRotors_eq hR]
      simp only [ob]
      have hk := ih (i + 1) (by omega) (by omega)
      have e1 : (goS P S R sg (i + 1) (f, T, rt)).2.1 = ledS P S sg (goS P S R sg i (f, T, rt)).2.1 (T + i) := by
        show ledS P S sg (goS P S R sg i (f, T, rt)).2.1 (goS P S R sg i (f, T, rt)).2.2.1 = _
        rw [goS_T]
      have e2 : (goS P S R sg (i + 1) (f, T, rt)).2.2.2 = pulR R (ledS P S sg (goS P S R sg i (f, T, rt)).2.1 (T + i)) (goS P S R sg i (f, T, rt)).2.2.2 := by
        show pulR R (ledS P S sg (goS P S R sg i (f, T, rt)).2.1 (goS P S R sg i (f, T, rt)).2.2.1) (goS P S R sg i (f, T, rt)).2.2.2 = _
        rw [goS_T]
      have e3 : (goS P S R sg (i + 1) (f, T, rt)).1 = (goS P S R sg i (f, T, rt)).1 + pulM R (ledS P S sg (goS P S R sg i (f, T, rt)).2.1 (T + i)) (goS P S R sg i (f, T, rt)).2.2.2 := by
        show (goS P S R sg i (f, T, rt)).1 + pulM R (ledS P S sg (goS P S R sg i (f, T, rt)).2.1 (goS P S R sg i (f, T, rt)).2.2.1) (goS P S R sg i (f, T, rt)).2.2.2 = _
        rw [goS_T]
      have e4 : slS P S R sg (f, T, rt) (i + 1) = slS P S R sg (f, T, rt) i + slN R (ledS P S sg (goS P S R sg i (f, T, rt)).2.1 (T + i)) (goS P S R sg i (f, T, rt)).2.2.2 := by
        show slS P S R sg (f, T, rt) i + slN R (ledS P S sg (goS P S R sg i (f, T, rt)).2.1 (goS P S R sg i (f, T, rt)).2.2.1) (goS P S R sg i (f, T, rt)).2.2.2 = _
        rw [goS_T]
      rw [e1, e2, e3, e4] at hk
      unfold slN at hk
      rw [nI_1, show T + i + 1 = T + (i + 1) from rfl]
      by_cases cz : slB (ledS P S sg (goS P S R sg i (f, T, rt)).2.1 (T + i)) (goS P S R sg i (f, T, rt)).2.2.2 R = 0
      · rw [if_pos cz]
        rw [if_pos cz, Int32.add_zero] at hk
        exact hk
      · rw [if_neg cz]
        rw [if_neg cz] at hk
        exact hk
theorem runs_start {nf nt np nsn nrn : Int32} {nsg : Nat → Int32} {nrt : Nat → Rot} {P S R T n : Nat} {sg : Nat → Int32} {f : Int32} {rt : Nat → Rot} {x2 : Int32} (hP : 1 ≤ P) (hP2 : P ≤ 9) (hS : S ≤ 16) (hR : R ≤ 4) (hT : T + n < 20000) (hn : n ≤ 1000) :
    F_X6_runs_39 FU nf nt np nsn nrn nsg nrt f (nI T) (nI P) (nI S) (nI R) sg rt (nI n) x2 0 0 0
      = some (runA P S R sg (f, T, rt) n x2, (goS P S R sg n (f, T, rt)).2.1, nI (T + n), nI P, nI S, nI R, sg, (goS P S R sg n (f, T, rt)).2.2.2) :=
  runs_loop hP hP2 hS hR hT hn FU 0 (Nat.zero_le _) (by unfold FU; omega)
theorem p_runs : P_runs := by
  intro rf len fl by_ f t p sn rn sg rt tr_f tr_t tr_p tr_sn tr_rn tr_sg tr_rt n to wh le k0 f0 t0 p0 sn0 rn0 sg0 rt0 n0 to0 wh0 le0 k1 f1 t1 p1 sn1 rn1 sg1 rt1 n1 to1 wh1 le1 sh tp mf m_moved m_slipTicks tn st m_now kp ta la si ce hRel x1 x2
  have hRel0 := hRel
  obtain ⟨h1, hT, hB, hI0, hI1, hSh⟩ := hRel
  obtain ⟨T, P, S, R, N, ⟨zT, zP1, zP2, zS, zR, zN⟩, ⟨rfl, rfl, rfl, rfl, rfl⟩, ⟨b0, b17, b18, b19, b36, b37⟩, bs, br, bn, bf⟩ := hB
  have hNB : NB f T P S R sg rt st := ⟨⟨b0, b17, b18, b19, b36⟩, fun i hi => (bs i hi).1, fun r hr => (br r hr).1⟩
  have hk : kOk R rt := fun r hr => (br r hr).2.1
  have hs : sOk S sg := fun i hi => (bs i hi).2
  unfold F_X6_runs F_X7_runs
  rcases far_cases x1 with ⟨k, hk1, rfl, e1, e2⟩ | ⟨e1, e2⟩
  · rw [e1, e2]
    simp only [ob, if_neg i10]
    rcases rng_cases x2 3 (by decide) with ⟨j, hj, rfl, e1, e2⟩ | ⟨e1, e2⟩
    · have e1 : F_X6_within (nI j) 3 = some 1 := e1
      have e2 : F_X7_in (nI j).toInt64 0 3 = some 1 := e2
      rw [e1, e2]
      simp only [ob, if_neg i10]
      obtain ⟨sg', rt', ec, es, er⟩ := copyC zR tr_f tr_t tr_p tr_sn tr_rn tr_sg tr_rt f (nI T) (nI P) (nI S) sg rt
      obtain ⟨nw, e0, en⟩ := takesAllM m_moved m_slipTicks st m_now
      have hN2 : NB f T P S R sg' rt' nw := NB_rt (NB_sg (NB_cong hNB zS zR (fun j hj => en j (by omega))) (fun i hi => es i (by omega))) er
      have hk2 : kOk R rt' := fun r hr => by rw [er r hr]; exact hk r hr
      have hs2 : sOk S sg' := fun i hi => by rw [es i (by omega)]; exact hs i hi
      obtain ⟨nw2, e4, hN3, en2⟩ := ticksGoM hN2 zP1 zP2 zS zR (n := k) (by omega) (by omega) hs2 hk2 0 0
      rw [ec, e0]
      simp only [ob]
      rw [e4]
      simp only [ob]
      rw [allLostM hN3 zR]
      rw [runs_start zP1 zP2 zS zR (by omega) (by omega)]
      have hm : (if nI j = 0 then some ((0 : Int32) + (goS P S R sg' k (f, T, rt')).1, (0 : Int32) + (goS P S R sg' k (f, T, rt')).1, (0 : Int32) + slS P S R sg' (f, T, rt') k, nw2) else if nI j = 1 then chk (inb (0 : Int32) 56) (some ((100000 : Int32) + nw2 (0 : Int32).toNatClampNeg, (0 : Int32) + (goS P S R sg' k (f, T, rt')).1, (0 : Int32) + slS P S R sg' (f, T, rt') k, nw2)) else if nI j = 2 then (some (alS R (goS P S R sg' k (f, T, rt')).2.1 (goS P S R sg' k (f, T, rt')).2.2.2)).bind (fun r19 => some (r19, (0 : Int32) + (goS P S R sg' k (f, T, rt')).1, (0 : Int32) + slS P S R sg' (f, T, rt') k, nw2)) else some ((0 : Int32) + slS P S R sg' (f, T, rt') k, (0 : Int32) + (goS P S R sg' k (f, T, rt')).1, (0 : Int32) + slS P S R sg' (f, T, rt') k, nw2)) = some (runA P S R sg' (f, T, rt') k (nI j), (0 : Int32) + (goS P S R sg' k (f, T, rt')).1, (0 : Int32) + slS P S R sg' (f, T, rt') k, nw2) := by
        unfold runA
        rw [chk_pos (by decide), show (0 : Int32).toNatClampNeg = 0 from rfl, hN3.1.1]
        split
        · rw [Int32.zero_add]
        split
        · rfl
        split
        · rfl
        · rw [Int32.zero_add (slS P S R sg' (f, T, rt') k)]
      rw [hm]
      exact ⟨_, _, _, _, _, _, _, _, _, _, _, rfl, rfl, hRel0⟩
    · have e1 : F_X6_within x2 3 = some 0 := e1
      have e2 : F_X7_in x2.toInt64 0 3 = some 0 := e2
      rw [e1, e2, bz, bz]
      exact ⟨_, _, _, _, _, _, _, _, _, _, _, rfl, rfl, hRel0⟩
  · rw [e1, e2, bz, bz]
    exact ⟨_, _, _, _, _, _, _, _, _, _, _, rfl, rfl, hRel0⟩
theorem p_ahead : P_ahead := by
  intro rf len fl by_ f t p sn rn sg rt tr_f tr_t tr_p tr_sn tr_rn tr_sg tr_rt n to wh le k0 f0 t0 p0 sn0 rn0 sg0 rt0 n0 to0 wh0 le0 k1 f1 t1 p1 sn1 rn1 sg1 rt1 n1 to1 wh1 le1 sh tp mf m_moved m_slipTicks tn st m_now kp ta la si ce hRel x1 x2 x3
  have hRel0 := hRel
  obtain ⟨h1, hT, hB, hI0, hI1, hSh⟩ := hRel
  obtain ⟨T, P, S, R, N, ⟨zT, zP1, zP2, zS, zR, zN⟩, ⟨rfl, rfl, rfl, rfl, rfl⟩, ⟨b0, b17, b18, b19, b36, b37⟩, bs, br, bn, bf⟩ := hB
  have hNB : NB f T P S R sg rt st := ⟨⟨b0, b17, b18, b19, b36⟩, fun i hi => (bs i hi).1, fun r hr => (br r hr).1⟩
  have hk : kOk R rt := fun r hr => (br r hr).2.1
  have hs : sOk S sg := fun i hi => (bs i hi).2
  unfold F_X6_ahead F_X7_ahead
  rcases rotor_cases b36 zR x1 with ⟨k, hkR, rfl, e1, e2⟩ | ⟨e1, e2⟩
  · rw [e1, e2]
    simp only [ob, if_neg i10]
    rcases far_cases x2 with ⟨m, hm, rfl, e1, e2⟩ | ⟨e1, e2⟩
    · rw [e1, e2]
      simp only [ob, if_neg i10]
      rcases part_cases x3 with ⟨j, hj, rfl, e1, e2⟩ | ⟨e1, e2⟩
      · rw [e1, e2]
        simp only [ob, if_neg i10]
        obtain ⟨sg', rt', ec, es, er⟩ := copyC zR tr_f tr_t tr_p tr_sn tr_rn tr_sg tr_rt f (nI T) (nI P) (nI S) sg rt
        obtain ⟨nw, e0, en⟩ := takesAllM m_moved m_slipTicks st m_now
        have hN2 : NB f T P S R sg' rt' nw := NB_rt (NB_sg (NB_cong hNB zS zR (fun j hj => en j (by omega))) (fun i hi => es i (by omega))) er
        have hk2 : kOk R rt' := fun r hr => by rw [er r hr]; exact hk r hr
        have hs2 : sOk S sg' := fun i hi => by rw [es i (by omega)]; exact hs i hi
        obtain ⟨nw2, e4, hN3, en2⟩ := ticksGoM hN2 zP1 zP2 zS zR (n := m) (by omega) (by omega) hs2 hk2 0 0
        rw [ec, e0]
        simp only [ob]
        rw [go_eq zP1 zP2 zS zR (by omega) (by omega), e4]
        simp only [ob]
        rw [lostOfC (by omega), lostM hN3 zR hkR, show F_X7_of nw2 (nI k) 2 = some (nw2 (20 + 4 * k + 2)) from of_eq (j := 2) (by omega) (by omega), (hN3.2.2 k hkR).2.2.1, chk_pos (inb_nI (by omega) (by decide)), cl_nI (by omega)]
        simp only [ob]
        by_cases c : nI j = 0
        · rw [if_pos c, if_pos c]
          exact ⟨_, _, _, _, _, _, _, _, _, _, _, rfl, rfl, hRel0⟩
        · rw [if_neg c, if_neg c]
          exact ⟨_, _, _, _, _, _, _, _, _, _, _, rfl, rfl, hRel0⟩
      · rw [e1, e2, bz, bz]
        exact ⟨_, _, _, _, _, _, _, _, _, _, _, rfl, rfl, hRel0⟩
    · rw [e1, e2, bz, bz]
      exact ⟨_, _, _, _, _, _, _, _, _, _, _, rfl, rfl, hRel0⟩
  · rw [e1, e2, bz, bz]
    exact ⟨_, _, _, _, _, _, _, _, _, _, _, rfl, rfl, hRel0⟩
theorem when_loop {nf nt np nsn nrn : Int32} {nsg : Nat → Int32} {nrt : Nat → Rot} {P S R T k : Nat} {sg st : Nat → Int32} {f : Int32} {rt : Nat → Rot} {z : Int32} (hP : 1 ≤ P) (hP2 : P ≤ 9) (hS : S ≤ 16) (hR : R ≤ 4) (hT : T + 300 < 20000) (hs : sOk S sg) (hk : kOk R rt) (hkR : k < R) : ∀ (m i : Nat) (fu fu' : Nat) (mv sl : Int32) (nw : Nat → Int32), i + m = 200 → m < fu → m < fu' → NB (goS P S R sg (i + 1) (f, T, rt)).2.1 (T + (i + 1)) P S R sg (goS P S R sg (i + 1) (f, T, rt)).2.2.2 nw →
    ∃ r w w', F_X6_when_32 fu nf nt np nsn nrn nsg nrt (goS P S R sg i (f, T, rt)).2.1 (nI (T + i)) (nI P) (nI S) (nI R) sg (goS P S R sg i (f, T, rt)).2.2.2 (nI k) z (nI (i + 1)) = some (r, w) ∧ F_X7_when_22 fu' mv sl st nw (nI k) z (nI (i + 1)) = some (r, w') := by
  intro m
  induction m with
  | zero =>
    intro i fu fu' mv sl nw h1 h2 h3 hN
    obtain ⟨fu, rfl⟩ : ∃ g, fu = g + 1 := ⟨fu - 1, by omega⟩
    obtain ⟨fu', rfl⟩ : ∃ g, fu' = g + 1 := ⟨fu' - 1, by omega⟩
    obtain rfl : i = 200 := by omega
    unfold F_X6_when_32 F_X7_when_22
    rw [if_pos (show (200 : Int32) < nI (200 + 1) by decide), if_pos (show (200 : Int32) < nI (200 + 1) by decide)]
    exact ⟨_, _, _, rfl, rfl⟩
  | succ m ih =>
    intro i fu fu' mv sl nw h1 h2 h3 hN
    obtain ⟨fu, rfl⟩ : ∃ g, fu = g + 1 := ⟨fu - 1, by omega⟩
    obtain ⟨fu', rfl⟩ : ∃ g, fu' = g + 1 := ⟨fu' - 1, by omega⟩
    unfold F_X6_when_32 F_X7_when_22
    have c : ¬ (200 : Int32) < nI (i + 1) := by rw [show (200 : Int32) = nI 200 from rfl, nI_ltI (by decide) (by omega)]; omega
    rw [if_neg c, if_neg c, show (1 : Int32) = nI 1 from rfl, go_eq hP hP2 hS hR (by omega) (by omega), lostM hN hR hkR]
    simp only [ob]
    rw [lostOfC (by omega)]
    simp only [ob]
    have e : (goS P S R sg 1 ((goS P S R sg i (f, T, rt)).2.1, T + i, (goS P S R sg i (f, T, rt)).2.2.2)).2 = (goS P S R sg (i + 1) (f, T, rt)).2 := by rw [go_pt]; rfl
    rw [e]
    by_cases cz : lostS (goS P S R sg (i + 1) (f, T, rt)).2.1 ((goS P S R sg (i + 1) (f, T, rt)).2.2.2 k).2.2.1 = z
    · rw [if_pos cz, if_pos cz]
      obtain ⟨nw2, e4, hN3, en2⟩ := ticksGoM hN hP hP2 hS hR (n := 1) (by omega) (by omega) hs (kOk_go (s := (f, T, rt)) hk (i + 1)) mv sl
      rw [e4]
      simp only [ob]
      rw [nI_add]
      have hN4 : NB (goS P S R sg (i + 1 + 1) (f, T, rt)).2.1 (T + (i + 1 + 1)) P S R sg (goS P S R sg (i + 1 + 1) (f, T, rt)).2.2.2 nw2 := by
        have e5 : (goS P S R sg 1 ((goS P S R sg (i + 1) (f, T, rt)).2.1, T + (i + 1), (goS P S R sg (i + 1) (f, T, rt)).2.2.2)).2 = (goS P S R sg (i + 1 + 1) (f, T, rt)).2 := by rw [go_pt]; rfl
        rw [e5] at hN3; exact hN3
      exact ih (i + 1) fu fu' _ _ nw2 (by omega) (by omega) (by omega) hN4
    · rw [if_neg cz, if_neg cz]
      exact ⟨_, _, _, rfl, rfl⟩
theorem p_when : P_when := by
  intro rf len fl by_ f t p sn rn sg rt tr_f tr_t tr_p tr_sn tr_rn tr_sg tr_rt n to wh le k0 f0 t0 p0 sn0 rn0 sg0 rt0 n0 to0 wh0 le0 k1 f1 t1 p1 sn1 rn1 sg1 rt1 n1 to1 wh1 le1 sh tp mf m_moved m_slipTicks tn st m_now kp ta la si ce hRel x1
  have hRel0 := hRel
  obtain ⟨h1, hT, hB, hI0, hI1, hSh⟩ := hRel
  obtain ⟨T, P, S, R, N, ⟨zT, zP1, zP2, zS, zR, zN⟩, ⟨rfl, rfl, rfl, rfl, rfl⟩, ⟨b0, b17, b18, b19, b36, b37⟩, bs, br, bn, bf⟩ := hB
  have hNB : NB f T P S R sg rt st := ⟨⟨b0, b17, b18, b19, b36⟩, fun i hi => (bs i hi).1, fun r hr => (br r hr).1⟩
  have hk : kOk R rt := fun r hr => (br r hr).2.1
  have hs : sOk S sg := fun i hi => (bs i hi).2
  unfold F_X6_when F_X7_when
  rcases rotor_cases b36 zR x1 with ⟨k, hkR, rfl, e1, e2⟩ | ⟨e1, e2⟩
  · rw [e1, e2]
    simp only [ob, if_neg i10]
    obtain ⟨sg', rt', ec, es, er⟩ := copyC zR tr_f tr_t tr_p tr_sn tr_rn tr_sg tr_rt f (nI T) (nI P) (nI S) sg rt
    obtain ⟨nw, e0, en⟩ := takesAllM m_moved m_slipTicks st m_now
    have hN2 : NB f T P S R sg' rt' nw := NB_rt (NB_sg (NB_cong hNB zS zR (fun j hj => en j (by omega))) (fun i hi => es i (by omega))) er
    have hk2 : kOk R rt' := fun r hr => by rw [er r hr]; exact hk r hr
    have hs2 : sOk S sg' := fun i hi => by rw [es i (by omega)]; exact hs i hi
    rw [ec, e0]
    simp only [ob]
    rw [lostOfC (by omega), lostM hN2 zR hkR, er k hkR]
    simp only [ob]
    obtain ⟨nw2, e4, hN3, en2⟩ := ticksGoM hN2 zP1 zP2 zS zR (n := 1) (by omega) (by omega) hs2 hk2 0 0
    obtain ⟨r, w, w', g1, g2⟩ := when_loop (nf := f) (nt := nI T) (np := nI P) (nsn := nI S) (nrn := nI R) (nsg := sg) (nrt := rt) (st := st) (z := lostS f (rt k).2.2.1) zP1 zP2 zS zR (by omega) hs2 hk2 hkR 200 0 FU 1999 (0 + (goS P S R sg' 1 (f, T, rt')).1) (0 + slS P S R sg' (f, T, rt') 1) nw2 (by omega) (by unfold FU; omega) (by omega) hN3
    have g1 : F_X6_when_32 FU f (nI T) (nI P) (nI S) (nI R) sg rt f (nI T) (nI P) (nI S) (nI R) sg' rt' (nI k) (lostS f (rt k).2.2.1) 1 = some (r, w) := g1
    have g3 : F_X7_when_22 FU 0 0 st nw (nI k) (lostS f (rt k).2.2.1) 0 = some (r, w') := by
      show F_X7_when_22 (1999 + 1) 0 0 st nw (nI k) (lostS f (rt k).2.2.1) 0 = some (r, w')
      unfold F_X7_when_22
      rw [if_neg (by decide), lostM hN2 zR hkR, er k hkR]
      simp only [ob]
      rw [if_pos trivial, show (1 : Int32) = nI 1 from rfl, e4, ob, show (0 : Int32) + nI 1 = nI (0 + 1) from rfl]
      exact g2
    obtain ⟨w1, w2, w3, w4, w5, w6, w7⟩ := w
    obtain ⟨w8, w9, w10⟩ := w'
    rw [g1, g3]
    exact ⟨_, _, _, _, _, _, _, _, _, _, _, rfl, rfl, hRel0⟩
  · rw [e1, e2, bz, bz]
    exact ⟨_, _, _, _, _, _, _, _, _, _, _, rfl, rfl, hRel0⟩
