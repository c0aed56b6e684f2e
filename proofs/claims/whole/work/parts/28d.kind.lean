/-! kind, begin, ease, swap -/
theorem abC {P S R T n : Nat} {sg : Nat → Int32} {f : Int32} {rt : Nat → Rot} (hP : 1 ≤ P) (hP2 : P ≤ 9) (hS : S ≤ 16) (hR : R ≤ 4) (hT : T + n < 20000) (hn : n ≤ 1000) :
    F_X6_allLostBehind f (nI T) (nI P) (nI S) (nI R) sg rt (nI n) = some (alS R (goS P S R sg n (f, T, rt)).2.1 (goS P S R sg n (f, T, rt)).2.2.2, (goS P S R sg n (f, T, rt)).2.1, nI (T + n), (goS P S R sg n (f, T, rt)).2.2.2) := by
  unfold F_X6_allLostBehind
  rw [go_eq hP hP2 hS hR hT hn]
  simp only [ob]
  rw [allLostC hR]
  simp only [ob]
theorem lbM {f : Int32} {T P S R n : Nat} {sg : Nat → Int32} {rt : Nat → Rot} {b : Nat → Int32} (h : NB f T P S R sg rt b) (hP : 1 ≤ P) (hP2 : P ≤ 9) (hS : S ≤ 16) (hR : R ≤ 4) (hT : T + n < 20000) (hn : n ≤ 1000) (hs : sOk S sg) (hk : kOk R rt) (mv sl : Int32) :
    ∃ mv' sl' b', F_X7_lostBehind mv sl b (nI n) = some (alS R (goS P S R sg n (f, T, rt)).2.1 (goS P S R sg n (f, T, rt)).2.2.2, mv', sl', b') := by
  obtain ⟨b', e, hN, _⟩ := ticksGoM h hP hP2 hS hR (n := n) hT hn hs hk mv sl
  unfold F_X7_lostBehind
  rw [e]
  simp only [ob]
  rw [allLostM hN hR]
  simp only [ob]
  exact ⟨_, _, b', rfl⟩
/-- bounds by a number -/
def BK (R K : Nat) (f : Int32) (rt : Nat → Rot) : Prop := (-(K : Int) ≤ f.toInt ∧ f.toInt ≤ K) ∧ ∀ r, r < R → -(K : Int) ≤ (rt r).2.2.1.toInt ∧ (rt r).2.2.1.toInt ≤ K
theorem pul_bk {R K : Nat} {f f' : Int32} {rt : Nat → Rot} (h : BK R K f rt) (hK : K < 1000000) (hf : ∃ d : Int32, f' = f + d ∧ -2 ≤ d.toInt ∧ d.toInt ≤ 2) : BK R (K + 2) f' (pulR R f' rt) := by
  obtain ⟨d, rfl, d1, d2⟩ := hf
  obtain ⟨h1, h2⟩ := h
  refine ⟨?_, ?_⟩
  · rw [fb_addI (by omega) (by omega)]; omega
  · intro r hr
    have h3 := h2 r hr
    unfold pulR
    rw [if_pos hr]
    obtain ⟨e, he, e1, e2⟩ := fol_rng (f + d) (rt r)
    rw [he, fb_addI (by omega) (by omega)]; omega
theorem go_bk {P S R T K : Nat} {sg : Nat → Int32} {f : Int32} {rt : Nat → Rot} (h : BK R K f rt) : ∀ n, K + 2 * n < 1000000 → BK R (K + 2 * n) (goS P S R sg n (f, T, rt)).2.1 (goS P S R sg n (f, T, rt)).2.2.2
  | 0, _ => h
  | n + 1, hn => by
    have ih := go_bk (P := P) (S := S) (T := T) (sg := sg) h n (by omega)
    exact pul_bk (K := K + 2 * n) ih (by omega) (led_rng _ _ _ _ _)
theorem lost_bk {K : Nat} {f p : Int32} (hK : K < 1000000) (h1 : -(K : Int) ≤ f.toInt) (h2 : f.toInt ≤ K) (h3 : -(K : Int) ≤ p.toInt) (h4 : p.toInt ≤ K) : -1000000 ≤ (lostS f p).toInt ∧ (lostS f p).toInt ≤ 1000000 := by
  unfold lostS
  have ho := offS_rng f p
  have h8 : (8 : Int32).toInt = 8 := by decide
  have e1 : (f - p).toInt = f.toInt - p.toInt := fb_subI (by omega) (by omega)
  have e2 : (f - p - offS f p).toInt = f.toInt - p.toInt - (offS f p).toInt := by rw [fb_subI (by omega) (by omega), e1]
  rw [Int32.toInt_div, h8, e2]
  have h5 := Int.tdiv_mul_add_tmod (f.toInt - p.toInt - (offS f p).toInt) 8
  have h6 : -8 < (f.toInt - p.toInt - (offS f p).toInt).tmod 8 ∧ (f.toInt - p.toInt - (offS f p).toInt).tmod 8 < 8 := tmod_bounds (by decide)
  rw [fb_bmod (by omega) (by omega)]
  omega
theorem al_bk {R K : Nat} {f : Int32} {rt : Nat → Rot} (h : BK R K f rt) (hK : K < 1000000) (hR : R ≤ 4) : 0 ≤ (alS R f rt).toInt ∧ (alS R f rt).toInt ≤ 4000000 := by
  have key : ∀ n, n ≤ R → 0 ≤ (sumI (fun r => iabs (lostS f (rt r).2.2.1)) n).toInt ∧ (sumI (fun r => iabs (lostS f (rt r).2.2.1)) n).toInt ≤ 1000000 * n := by
    intro n
    induction n with
    | zero => intro _; show 0 ≤ (0 : Int32).toInt ∧ (0 : Int32).toInt ≤ 1000000 * ((0 : Nat) : Int); decide
    | succ n ih =>
      intro hn
      have i1 := ih (by omega)
      have l := lost_bk hK h.1.1 h.1.2 (h.2 n (by omega)).1 (h.2 n (by omega)).2
      have a : 0 ≤ (iabs (lostS f (rt n).2.2.1)).toInt ∧ (iabs (lostS f (rt n).2.2.1)).toInt ≤ 1000000 := by
        rcases iabs_cases (lostS f (rt n).2.2.1) with ⟨a, e⟩ | ⟨a, e⟩
        · rw [e]; omega
        · rw [e, fb_negI (by omega)]; omega
      show 0 ≤ (sumI (fun r => iabs (lostS f (rt r).2.2.1)) n + iabs (lostS f (rt n).2.2.1)).toInt ∧ (sumI (fun r => iabs (lostS f (rt r).2.2.1)) n + iabs (lostS f (rt n).2.2.1)).toInt ≤ 1000000 * (n + 1 : Nat)
      rw [fb_addI (by omega) (by omega)]; omega
  have := key R (Nat.le_refl _)
  unfold alS
  omega
/-- best so far, on both sides -/
def bestR (cc cm mc mm : Int32) : Prop := ∃ j, j < 8 ∧ cc = nI j ∧ mc = nI j ∧ cm = mm
theorem best_ne : ∀ j, j < 8 → ¬ nI j = -4 := by decide
theorem least_loop {P S R T n k K : Nat} {sg st : Nat → Int32} {f : Int32} {rt : Nat → Rot} {x2 x5 : Int32} {F : Nat → Int32 → Int32 → Int32 → Int32 → (Nat → Int32) → Nat → Option (Int32 × Int32 × Int32 × Int32 × Int32 × (Nat → Int32))} (hNB : NB f T P S R sg rt st) (hP : 1 ≤ P) (hP2 : P ≤ 9) (hS : S ≤ 16) (hR : R ≤ 4) (hT : T + n < 20000) (hn : n ≤ 1000) (hkR : k < R) (hK8 : K ≤ 7)
    (hF0 : ∀ (fu : Nat) (mv sl bc bm : Int32) (nw : Nat → Int32), ∃ w, F (fu + 1) mv sl bc bm nw (K + 1) = some (if bc = -4 then -4 else if x5 = 0 then bc else bm, w))
    (hF : ∀ (fu : Nat) (mv sl bc bm : Int32) (nw sg' : Nat → Int32) (rt' : Nat → Rot) (i : Nat), i ≤ K → (∀ j, j < 16 → sg' j = sg j) → (∀ r, r < R → rt' r = rt r) → ∃ mv' sl' nw', ∀ z, z = (goS P S R sg' n (f, T, up rt' k (if x2 = 0 then (nI i, (rt k).2.1, (rt k).2.2.1, (rt k).2.2.2) else if x2 = 1 then ((rt k).1, nI i, (rt k).2.2.1, (rt k).2.2.2) else ((rt k).1, (rt k).2.1, (rt k).2.2.1 + nI i, (rt k).2.2.2)))).2 →
      F (fu + 1) mv sl bc bm nw i = if bm ≤ alS R z.1 z.2.2 then F fu mv' sl' bc bm nw' (i + 1) else F fu mv' sl' (nI i) (alS R z.1 z.2.2) nw' (i + 1)) :
    ∀ (m i fu fu' : Nat) (tf tt tp tsn trn : Int32) (tsg : Nat → Int32) (trt : Nat → Rot) (mv sl cc cm mc mm : Int32) (nw : Nat → Int32), i + m = K + 1 → m < fu → m < fu' → bestR cc cm mc mm →
    ∃ r w w', F_X6_leastLostBy_21 fu f (nI T) (nI P) (nI S) (nI R) sg rt tf tt tp tsn trn tsg trt (nI k) x2 (nI K) (nI n) x5 cc cm (nI i) = some (r, w) ∧ F fu' mv sl mc mm nw i = some (r, w') := by
  intro m
  induction m with
  | zero =>
    intro i fu fu' tf tt tp tsn trn tsg trt mv sl cc cm mc mm nw h1 h3 h4 hb
    obtain ⟨fu, rfl⟩ : ∃ g, fu = g + 1 := ⟨fu - 1, by omega⟩
    obtain ⟨fu', rfl⟩ : ∃ g, fu' = g + 1 := ⟨fu' - 1, by omega⟩
    obtain rfl : i = K + 1 := by omega
    obtain ⟨j, hj, rfl, rfl, rfl⟩ := hb
    obtain ⟨w, hw⟩ := hF0 fu' mv sl (nI j) cm nw
    rw [if_neg (best_ne j hj)] at hw
    unfold F_X6_leastLostBy_21
    rw [if_pos (nI_lt (by omega) (by omega))]
    by_cases c : x5 = 0
    · rw [if_pos c] at hw; rw [if_pos c]
      exact ⟨_, _, _, rfl, hw⟩
    · rw [if_neg c] at hw; rw [if_neg c]
      exact ⟨_, _, _, rfl, hw⟩
  | succ m ih =>
    intro i fu fu' tf tt tp tsn trn tsg trt mv sl cc cm mc mm nw h1 h3 h4 hb
    obtain ⟨fu, rfl⟩ : ∃ g, fu = g + 1 := ⟨fu - 1, by omega⟩
    obtain ⟨fu', rfl⟩ : ∃ g, fu' = g + 1 := ⟨fu' - 1, by omega⟩
    unfold F_X6_leastLostBy_21
    have c : ¬ nI K < nI i := by rw [nI_ltI (by omega) (by omega)]; omega
    obtain ⟨sg', rt', ec, es, er⟩ := tryWith_eq (k := k) hR hkR tf tt tp tsn trn tsg trt f (nI T) (nI P) (nI S) sg rt x2 (nI i)
    obtain ⟨mv', sl', nw', hz⟩ := hF fu' mv sl mc mm nw sg' rt' i (by omega) es er
    rw [hz _ rfl, if_neg c, ec]
    simp only [ob]
    rw [abC hP hP2 hS hR hT hn]
    simp only [ob]
    generalize alS R (goS P S R sg' n (f, T, up rt' k (if x2 = 0 then (nI i, (rt k).2.1, (rt k).2.2.1, (rt k).2.2.2) else if x2 = 1 then ((rt k).1, nI i, (rt k).2.2.1, (rt k).2.2.2) else ((rt k).1, (rt k).2.1, (rt k).2.2.1 + nI i, (rt k).2.2.2)))).2.1 (goS P S R sg' n (f, T, up rt' k (if x2 = 0 then (nI i, (rt k).2.1, (rt k).2.2.1, (rt k).2.2.2) else if x2 = 1 then ((rt k).1, nI i, (rt k).2.2.1, (rt k).2.2.2) else ((rt k).1, (rt k).2.1, (rt k).2.2.1 + nI i, (rt k).2.2.2)))).2.2.2 = al
    rw [nI_1]
    obtain ⟨j, hj, rfl, rfl, rfl⟩ := hb
    by_cases c1 : cm ≤ al
    · rw [if_pos c1, if_pos c1]
      exact ih _ fu fu' _ _ _ _ _ _ _ _ _ _ _ _ _ _ (by omega) (by omega) (by omega) ⟨j, hj, rfl, rfl, rfl⟩
    · rw [if_neg c1, if_neg c1]
      exact ih _ fu fu' _ _ _ _ _ _ _ _ _ _ _ _ _ _ (by omega) (by omega) (by omega) ⟨i, by omega, rfl, rfl, rfl⟩
theorem least_all {P S R T n k K : Nat} {sg st : Nat → Int32} {f : Int32} {rt : Nat → Rot} {x2 x5 : Int32} {F : Nat → Int32 → Int32 → Int32 → Int32 → (Nat → Int32) → Nat → Option (Int32 × Int32 × Int32 × Int32 × Int32 × (Nat → Int32))} (hNB : NB f T P S R sg rt st) (hP : 1 ≤ P) (hP2 : P ≤ 9) (hS : S ≤ 16) (hR : R ≤ 4) (hT : T + n < 20000) (hn : n ≤ 1000) (hkR : k < R) (hK8 : K ≤ 7)
    (hq : ∀ (i : Nat) (sg' : Nat → Int32) (rt' : Nat → Rot), i ≤ K → (∀ j, j < 16 → sg' j = sg j) → (∀ r, r < R → rt' r = rt r) → BK R 900000 f (up rt' k (if x2 = 0 then (nI i, (rt k).2.1, (rt k).2.2.1, (rt k).2.2.2) else if x2 = 1 then ((rt k).1, nI i, (rt k).2.2.1, (rt k).2.2.2) else ((rt k).1, (rt k).2.1, (rt k).2.2.1 + nI i, (rt k).2.2.2))))
    (hF0 : ∀ (fu : Nat) (mv sl bc bm : Int32) (nw : Nat → Int32), ∃ w, F (fu + 1) mv sl bc bm nw (K + 1) = some (if bc = -4 then -4 else if x5 = 0 then bc else bm, w))
    (hF : ∀ (fu : Nat) (mv sl bc bm : Int32) (nw sg' : Nat → Int32) (rt' : Nat → Rot) (i : Nat), i ≤ K → (∀ j, j < 16 → sg' j = sg j) → (∀ r, r < R → rt' r = rt r) → ∃ mv' sl' nw', ∀ z, z = (goS P S R sg' n (f, T, up rt' k (if x2 = 0 then (nI i, (rt k).2.1, (rt k).2.2.1, (rt k).2.2.2) else if x2 = 1 then ((rt k).1, nI i, (rt k).2.2.1, (rt k).2.2.2) else ((rt k).1, (rt k).2.1, (rt k).2.2.1 + nI i, (rt k).2.2.2)))).2 →
      F (fu + 1) mv sl bc bm nw i = if bm ≤ alS R z.1 z.2.2 then F fu mv' sl' bc bm nw' (i + 1) else F fu mv' sl' (nI i) (alS R z.1 z.2.2) nw' (i + 1)) :
    ∀ (tf tt tp tsn trn : Int32) (tsg : Nat → Int32) (trt : Nat → Rot) (mv sl : Int32) (nw : Nat → Int32),
    ∃ r w w', F_X6_leastLostBy f (nI T) (nI P) (nI S) (nI R) sg rt tf tt tp tsn trn tsg trt (nI k) x2 (nI K) (nI n) x5 = some (r, w) ∧ F FU mv sl (-4) 1000000000 nw 0 = some (r, w') := by
  intro tf tt tp tsn trn tsg trt mv sl nw
  unfold F_X6_leastLostBy
  obtain ⟨sg', rt', ec, es, er⟩ := tryWith_eq (k := k) hR hkR tf tt tp tsn trn tsg trt f (nI T) (nI P) (nI S) sg rt x2 (nI 0)
  have ec : F_X6_tryWith f (nI T) (nI P) (nI S) (nI R) sg rt tf tt tp tsn trn tsg trt (nI k) x2 0 = _ := ec
  obtain ⟨mv', sl', nw', hz⟩ := hF 1999 mv sl (-4) 1000000000 nw sg' rt' 0 (by omega) es er
  have hz := hz _ rfl
  rw [ec]
  simp only [ob]
  rw [abC hP hP2 hS hR hT hn]
  simp only [ob]
  have hbk := al_bk (go_bk (P := P) (S := S) (T := T) (sg := sg') (hq 0 sg' rt' (by omega) es er) n (by omega)) (by omega) hR
  generalize alS R (goS P S R sg' n (f, T, up rt' k (if x2 = 0 then (nI 0, (rt k).2.1, (rt k).2.2.1, (rt k).2.2.2) else if x2 = 1 then ((rt k).1, nI 0, (rt k).2.2.1, (rt k).2.2.2) else ((rt k).1, (rt k).2.1, (rt k).2.2.1 + nI 0, (rt k).2.2.2)))).2.1 (goS P S R sg' n (f, T, up rt' k (if x2 = 0 then (nI 0, (rt k).2.1, (rt k).2.2.1, (rt k).2.2.2) else if x2 = 1 then ((rt k).1, nI 0, (rt k).2.2.1, (rt k).2.2.2) else ((rt k).1, (rt k).2.1, (rt k).2.2.1 + nI 0, (rt k).2.2.2)))).2.2.2 = al at hbk hz ⊢
  have c2 : ¬ (1000000000 : Int32) ≤ al := by rw [i_le, show (1000000000 : Int32).toInt = 1000000000 from rfl]; omega
  rw [if_neg c2] at hz
  obtain ⟨r, w, w', g1, g2⟩ := least_loop hNB hP hP2 hS hR hT hn hkR hK8 hF0 hF K 1 FU 1999 _ _ _ _ _ _ _ _ _ _ _ _ _ _ (by omega) (by unfold FU; omega) (by omega) ⟨0, by omega, rfl, rfl, rfl⟩
  exact ⟨r, w, w', g1, hz.trans g2⟩
theorem judged_eq (bc bm x : Int32) : F_X7_judged bc bm x = some (if bc = -4 then -4 else if x = 0 then bc else bm) := by
  unfold F_X7_judged
  by_cases c : bc = -4
  · rw [if_pos c, if_pos c]
  · rw [if_neg c, if_neg c]
    by_cases d : x = 0
    · rw [if_pos d, if_pos d]
    · rw [if_neg d, if_neg d]
theorem BK_of {R T : Nat} {f : Int32} {rt : Nat → Rot} (hT : T < 10000) (h1 : -(2 * T : Int) ≤ f.toInt ∧ f.toInt ≤ 2 * T) (h2 : ∀ r, r < R → -(30000 + 2 * T : Int) ≤ (rt r).2.2.1.toInt ∧ (rt r).2.2.1.toInt ≤ 30000 + 2 * T) : BK R 60000 f rt :=
  ⟨⟨by omega, by omega⟩, fun r hr => by have := h2 r hr; constructor <;> omega⟩
theorem p_kind : P_kind := by
  intro rf len fl by_ f t p sn rn sg rt tr_f tr_t tr_p tr_sn tr_rn tr_sg tr_rt n to wh le k0 f0 t0 p0 sn0 rn0 sg0 rt0 n0 to0 wh0 le0 k1 f1 t1 p1 sn1 rn1 sg1 rt1 n1 to1 wh1 le1 sh tp mf m_moved m_slipTicks m_bestCode m_bestMuch tn st m_now kp ta la si ce hRel x1 x2 x3
  have hRel0 := hRel
  obtain ⟨h1, hT, hB, hI0, hI1, hSh⟩ := hRel
  obtain ⟨T, P, S, R, N, ⟨zT, zP1, zP2, zS, zR, zN⟩, ⟨rfl, rfl, rfl, rfl, rfl⟩, ⟨b0, b17, b18, b19, b36, b37⟩, bs, br, bn, bf⟩ := hB
  have hNB : NB f T P S R sg rt st := ⟨⟨b0, b17, b18, b19, b36⟩, fun i hi => (bs i hi).1, fun r hr => (br r hr).1⟩
  have hk : kOk R rt := fun r hr => (br r hr).2.1
  have hs : sOk S sg := fun i hi => (bs i hi).2
  have hBK : BK R 60000 f rt := BK_of zT bf (fun r hr => (br r hr).2.2.2)
  unfold F_X6_kind F_X7_kind F_X7_startsJudging
  rcases rotor_cases b36 zR x1 with ⟨k, hkR, rfl, e1, e2⟩ | ⟨e1, e2⟩
  · rw [e1, e2]
    simp only [ob]
    rw [if_neg i10, if_neg i10]
    rcases far_cases x2 with ⟨m, hm, rfl, e1, e2⟩ | ⟨e1, e2⟩
    · rw [e1, e2]
      simp only [ob]
      rw [if_neg i10, if_neg i10]
      rcases part_cases x3 with ⟨j, hj, rfl, e1, e2⟩ | ⟨e1, e2⟩
      · rw [e1, e2]
        simp only [ob]
        rw [if_neg i10, if_neg i10]
        obtain ⟨r, ⟨w1, w2, w3, w4, w5, w6, w7⟩, ⟨w8, w9, w10, w11, w12⟩, g1, g2⟩ := least_all (P := P) (S := S) (R := R) (T := T) (n := m) (k := k) (K := 3) (x2 := 0) (x5 := nI j) (F := fun fu mv sl bc bm nw i => F_X7_kind_33 fu mv sl bc bm st nw (nI k) (nI m) (nI j) (nI i)) hNB zP1 zP2 zS zR (by omega) (by omega) hkR (by omega)
          (by
            intro i sg' rt' hi es er
            refine ⟨⟨by have := hBK.1; omega, by have := hBK.1; omega⟩, ?_⟩
            intro r hr
            by_cases c : r = k
            · subst c; rw [up_self, if_pos rfl]; have := hBK.2 r hr; constructor <;> (show _ ≤ _) <;> simp only [] <;> omega
            · rw [up_ne _ _ c, er r hr]; have := hBK.2 r hr; omega)
          (by
            intro fu mv sl bc bm nw
            show ∃ w, F_X7_kind_33 (fu + 1) mv sl bc bm st nw (nI k) (nI m) (nI j) (nI 4) = _
            unfold F_X7_kind_33
            rw [if_pos (by decide), judged_eq]
            simp only [ob]
            exact ⟨_, rfl⟩)
          (by
            intro fu mv sl bc bm nw sg' rt' i hi es er
            obtain ⟨nw1, e0, en⟩ := takesAllM mv sl st nw
            have hN2 := NB_take hNB zS zR en es er
            have hN4 : NB f T P S R sg' (up rt' k (nI i, (rt k).2.1, (rt k).2.2.1, (rt k).2.2.2)) (upd nw1 (20 + 4 * k + 0) (nI i)) := NB_fld hN2 zS zR hkR (by omega) _ _ (by rw [if_pos rfl]) (by rw [if_neg (by omega), er k hkR]) (by rw [if_neg (by omega), er k hkR]) (by rw [if_neg (by omega), er k hkR])
            have hk2 : kOk R (up rt' k (nI i, (rt k).2.1, (rt k).2.2.1, (rt k).2.2.2)) := by
              intro r hr
              by_cases c : r = k
              · subst c; rw [up_self]; exact ⟨i, by omega, rfl⟩
              · rw [up_ne _ _ c, er r hr]; exact hk r hr
            obtain ⟨mv', sl', nw', e4⟩ := lbM hN4 zP1 zP2 zS zR (n := m) (by omega) (by omega) (sOk_cong hs zS es) hk2 0 0
            refine ⟨mv', sl', nw', ?_⟩
            intro z hz
            rw [if_pos rfl] at hz
            subst hz
            show F_X7_kind_33 (fu + 1) mv sl bc bm st nw (nI k) (nI m) (nI j) (nI i) = _
            have c4 : ¬ (4 : Int32) ≤ nI i := nI_ge (b := 4) (by omega) (by omega)
            rw [F_X7_kind_33, if_neg c4, e0]
            simp only [ob]
            rw [show F_X7_becomesOf nw1 (nI k) 0 (nI i) = some (upd nw1 (20 + 4 * k + 0) (nI i)) from bec_eq (j := 0) (by omega) (by omega)]
            simp only [ob]
            rw [e4]
            simp only [ob]
            unfold F_X7_judges
            rw [nI_1]
            by_cases c : bm ≤ alS R (goS P S R sg' m (f, T, up rt' k (nI i, (rt k).2.1, (rt k).2.2.1, (rt k).2.2.2))).2.1 (goS P S R sg' m (f, T, up rt' k (nI i, (rt k).2.1, (rt k).2.2.1, (rt k).2.2.2))).2.2.2
            · rw [if_pos c, if_pos c]
              simp only [ob]
            · rw [if_neg c, if_neg c]
              simp only [ob])
          tr_f tr_t tr_p tr_sn tr_rn tr_sg tr_rt m_moved m_slipTicks m_now
        have g1 : F_X6_leastLostBy f (nI T) (nI P) (nI S) (nI R) sg rt tr_f tr_t tr_p tr_sn tr_rn tr_sg tr_rt (nI k) 0 3 (nI m) (nI j) = some (r, w1, w2, w3, w4, w5, w6, w7) := g1
        have g2 : F_X7_kind_33 FU m_moved m_slipTicks (-4) 1000000000 st m_now (nI k) (nI m) (nI j) 0 = some (r, w8, w9, w10, w11, w12) := g2
        rw [g1, g2]
        exact ⟨_, _, _, _, _, _, _, _, _, _, _, _, _, rfl, rfl, hRel0⟩
      · rw [e1, e2, bz, bz]
        exact ⟨_, _, _, _, _, _, _, _, _, _, _, _, _, rfl, rfl, hRel0⟩
    · rw [e1, e2, bz, bz]
      exact ⟨_, _, _, _, _, _, _, _, _, _, _, _, _, rfl, rfl, hRel0⟩
  · rw [e1, e2, bz, bz]
    exact ⟨_, _, _, _, _, _, _, _, _, _, _, _, _, rfl, rfl, hRel0⟩
theorem p_begin : P_begin := by
  intro rf len fl by_ f t p sn rn sg rt tr_f tr_t tr_p tr_sn tr_rn tr_sg tr_rt n to wh le k0 f0 t0 p0 sn0 rn0 sg0 rt0 n0 to0 wh0 le0 k1 f1 t1 p1 sn1 rn1 sg1 rt1 n1 to1 wh1 le1 sh tp mf m_moved m_slipTicks m_bestCode m_bestMuch tn st m_now kp ta la si ce hRel x1 x2 x3
  have hRel0 := hRel
  obtain ⟨h1, hT, hB, hI0, hI1, hSh⟩ := hRel
  obtain ⟨T, P, S, R, N, ⟨zT, zP1, zP2, zS, zR, zN⟩, ⟨rfl, rfl, rfl, rfl, rfl⟩, ⟨b0, b17, b18, b19, b36, b37⟩, bs, br, bn, bf⟩ := hB
  have hNB : NB f T P S R sg rt st := ⟨⟨b0, b17, b18, b19, b36⟩, fun i hi => (bs i hi).1, fun r hr => (br r hr).1⟩
  have hk : kOk R rt := fun r hr => (br r hr).2.1
  have hs : sOk S sg := fun i hi => (bs i hi).2
  have hBK : BK R 60000 f rt := BK_of zT bf (fun r hr => (br r hr).2.2.2)
  unfold F_X6_begin F_X7_begin F_X7_startsJudging
  rcases rotor_cases b36 zR x1 with ⟨k, hkR, rfl, e1, e2⟩ | ⟨e1, e2⟩
  · rw [e1, e2]
    simp only [ob]
    rw [if_neg i10, if_neg i10]
    rcases far_cases x2 with ⟨m, hm, rfl, e1, e2⟩ | ⟨e1, e2⟩
    · rw [e1, e2]
      simp only [ob]
      rw [if_neg i10, if_neg i10]
      rcases part_cases x3 with ⟨j, hj, rfl, e1, e2⟩ | ⟨e1, e2⟩
      · rw [e1, e2]
        simp only [ob]
        rw [if_neg i10, if_neg i10]
        obtain ⟨r, ⟨w1, w2, w3, w4, w5, w6, w7⟩, ⟨w8, w9, w10, w11, w12⟩, g1, g2⟩ := least_all (P := P) (S := S) (R := R) (T := T) (n := m) (k := k) (K := 7) (x2 := 2) (x5 := nI j) (F := fun fu mv sl bc bm nw i => F_X7_begin_33 fu mv sl bc bm st nw (nI k) (nI m) (nI j) (nI i)) hNB zP1 zP2 zS zR (by omega) (by omega) hkR (by omega)
          (by
            intro i sg' rt' hi es er
            refine ⟨⟨by have := hBK.1; omega, by have := hBK.1; omega⟩, ?_⟩
            intro r hr
            by_cases c : r = k
            · subst c
              have h9 := hBK.2 r hr
              have h8 := nI_toInt (n := i) (by omega)
              rw [up_self, if_neg (by decide), if_neg (by decide)]
              show -((900000 : Nat) : Int) ≤ ((rt r).2.2.1 + nI i).toInt ∧ ((rt r).2.2.1 + nI i).toInt ≤ ((900000 : Nat) : Int)
              rw [fb_addI (by omega) (by omega)]; omega
            · rw [up_ne _ _ c, er r hr]; have := hBK.2 r hr; omega)
          (by
            intro fu mv sl bc bm nw
            show ∃ w, F_X7_begin_33 (fu + 1) mv sl bc bm st nw (nI k) (nI m) (nI j) (nI 8) = _
            unfold F_X7_begin_33
            rw [if_pos (by decide), judged_eq]
            simp only [ob]
            exact ⟨_, rfl⟩)
          (by
            intro fu mv sl bc bm nw sg' rt' i hi es er
            obtain ⟨nw1, e0, en⟩ := takesAllM mv sl st nw
            have hN2 := NB_take hNB zS zR en es er
            have hN4 : NB f T P S R sg' (up rt' k ((rt k).1, (rt k).2.1, (rt k).2.2.1 + nI i, (rt k).2.2.2)) (upd nw1 (20 + 4 * k + 2) ((rt k).2.2.1 + nI i)) := NB_fld hN2 zS zR hkR (by omega) _ _ (by rw [if_neg (by omega), er k hkR]) (by rw [if_neg (by omega), er k hkR]) (by rw [if_pos rfl]) (by rw [if_neg (by omega), er k hkR])
            have hk2 : kOk R (up rt' k ((rt k).1, (rt k).2.1, (rt k).2.2.1 + nI i, (rt k).2.2.2)) := by
              intro r hr
              by_cases c : r = k
              · subst c; rw [up_self]; exact hk r hr
              · rw [up_ne _ _ c, er r hr]; exact hk r hr
            obtain ⟨mv', sl', nw', e4⟩ := lbM hN4 zP1 zP2 zS zR (n := m) (by omega) (by omega) (sOk_cong hs zS es) hk2 0 0
            refine ⟨mv', sl', nw', ?_⟩
            intro z hz
            rw [if_neg (by decide), if_neg (by decide)] at hz
            subst hz
            show F_X7_begin_33 (fu + 1) mv sl bc bm st nw (nI k) (nI m) (nI j) (nI i) = _
            have c4 : ¬ (8 : Int32) ≤ nI i := nI_ge (b := 8) (by omega) (by omega)
            rw [F_X7_begin_33, if_neg c4, e0]
            simp only [ob]
            rw [show F_X7_of nw1 (nI k) 2 = some (nw1 (20 + 4 * k + 2)) from of_eq (j := 2) (by omega) (by omega), (hN2.2.2 k hkR).2.2.1, er k hkR]
            simp only [ob]
            rw [show F_X7_becomesOf nw1 (nI k) 2 ((rt k).2.2.1 + nI i) = some (upd nw1 (20 + 4 * k + 2) ((rt k).2.2.1 + nI i)) from bec_eq (j := 2) (by omega) (by omega)]
            simp only [ob]
            rw [e4]
            simp only [ob]
            unfold F_X7_judges
            rw [nI_1]
            by_cases c : bm ≤ alS R (goS P S R sg' m (f, T, up rt' k ((rt k).1, (rt k).2.1, (rt k).2.2.1 + nI i, (rt k).2.2.2))).2.1 (goS P S R sg' m (f, T, up rt' k ((rt k).1, (rt k).2.1, (rt k).2.2.1 + nI i, (rt k).2.2.2))).2.2.2
            · rw [if_pos c, if_pos c]
              simp only [ob]
            · rw [if_neg c, if_neg c]
              simp only [ob])
          tr_f tr_t tr_p tr_sn tr_rn tr_sg tr_rt m_moved m_slipTicks m_now
        have g1 : F_X6_leastLostBy f (nI T) (nI P) (nI S) (nI R) sg rt tr_f tr_t tr_p tr_sn tr_rn tr_sg tr_rt (nI k) 2 7 (nI m) (nI j) = some (r, w1, w2, w3, w4, w5, w6, w7) := g1
        have g2 : F_X7_begin_33 FU m_moved m_slipTicks (-4) 1000000000 st m_now (nI k) (nI m) (nI j) 0 = some (r, w8, w9, w10, w11, w12) := g2
        rw [g1, g2]
        exact ⟨_, _, _, _, _, _, _, _, _, _, _, _, _, rfl, rfl, hRel0⟩
      · rw [e1, e2, bz, bz]
        exact ⟨_, _, _, _, _, _, _, _, _, _, _, _, _, rfl, rfl, hRel0⟩
    · rw [e1, e2, bz, bz]
      exact ⟨_, _, _, _, _, _, _, _, _, _, _, _, _, rfl, rfl, hRel0⟩
  · rw [e1, e2, bz, bz]
    exact ⟨_, _, _, _, _, _, _, _, _, _, _, _, _, rfl, rfl, hRel0⟩
