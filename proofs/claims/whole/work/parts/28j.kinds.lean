/-! kinds, grips, starts -/
def qS (x2 : Int32) (q : Rot) (i : Nat) : Rot := if x2 = 0 then (nI i, q.2.1, q.2.2.1, q.2.2.2) else if x2 = 1 then (q.1, nI i, q.2.2.1, q.2.2.2) else (q.1, q.2.1, q.2.2.1 + nI i, q.2.2.2)
/-- bits -/
def mkB (b : Nat → Bool) : Nat → Int32
  | 0 => 0
  | n + 1 => if b n = true then mkB b n ||| ishl 1 (nI n) else mkB b n
def cB (b : Nat → Bool) : Nat → Nat
  | 0 => 0
  | n + 1 => if b n = true then cB b n + 1 else cB b n
theorem ishl08 : ∀ n, n < 8 → ishl 0 (nI n) = 0 := by decide
section
variable {P S R T N : Nat} {sg : Nat → Int32} {f : Int32} {rt : Nat → Rot} {to wh le st : Nat → Int32}
theorem so_cong {sg' : Nat → Int32} {rt' : Nat → Rot} (hg : SGH N R to wh le) (hR : R ≤ 4) (es : ∀ i, i < S → sg' i = sg i) (er : ∀ r, r < R → rt' r = rt r) : soS P S R sg' (f, T, rt') N to wh le ↔ soS P S R sg (f, T, rt) N to wh le := by
  have key : ∀ i, i < N → (mtS P S R sg' (f, T, rt') to wh le i ↔ mtS P S R sg (f, T, rt) to wh le i) := by
    intro i hi
    obtain ⟨_, ⟨w, gw, gwh⟩, _⟩ := hg i hi
    unfold mtS atS
    rw [gwh, cl_nI (by omega), (go_cong (P := P) (T := T) (f := f) es er _).2 w gw]
  exact ⟨fun h i hi => (key i hi).1 (h i hi), fun h i hi => (key i hi).2 (h i hi)⟩
theorem mask_loop {b : Nat → Bool} {x2 : Int32} {k K : Nat} (hP : 1 ≤ P) (hP2 : P ≤ 9) (hS : S ≤ 16) (hR : R ≤ 4) (hT : T + 50 < 20000) (hN : N ≤ 6) (hg : SGH N R to wh le) (hkR : k < R) (hK : K ≤ 7) (hb : ∀ i, i ≤ K → (b i = true ↔ soS P S R sg (f, T, up rt k (qS x2 (rt k) i)) N to wh le)) :
    ∀ (m i fu : Nat) (tf tt tp tsn trn : Int32) (tsg : Nat → Int32) (trt : Nat → Rot), i + m = K + 1 → m < fu →
    ∃ w, F_X6_asSeenBy_6 fu f (nI T) (nI P) (nI S) (nI R) sg rt tf tt tp tsn trn tsg trt (nI N) to wh le (nI k) x2 (nI K) (mkB b i) (nI i) = some (mkB b (K + 1), w) := by
  intro m
  induction m with
  | zero =>
    intro i fu tf tt tp tsn trn tsg trt h1 h2
    obtain ⟨fu, rfl⟩ : ∃ g, fu = g + 1 := ⟨fu - 1, by omega⟩
    obtain rfl : i = K + 1 := by omega
    unfold F_X6_asSeenBy_6
    rw [if_pos (nI_lt (by omega) (by omega))]
    exact ⟨_, rfl⟩
  | succ m ih =>
    intro i fu tf tt tp tsn trn tsg trt h1 h2
    obtain ⟨fu, rfl⟩ : ∃ g, fu = g + 1 := ⟨fu - 1, by omega⟩
    unfold F_X6_asSeenBy_6
    have c : ¬ nI K < nI i := by rw [nI_ltI (by omega) (by omega)]; omega
    obtain ⟨sg', rt', ec, es, er⟩ := tryWith_eq (k := k) hR hkR tf tt tp tsn trn tsg trt f (nI T) (nI P) (nI S) sg rt x2 (nI i)
    have hb' := (hb i (by omega)).trans (so_cong (P := P) (T := T) (f := f) (sg := sg) (rt := up rt k (qS x2 (rt k) i)) (sg' := sg') (rt' := up rt' k (qS x2 (rt k) i)) hg hR (fun i hi => es i (by omega)) (by
      intro r hr
      by_cases c : r = k
      · subst c; rw [up_self, up_self]
      · rw [up_ne _ _ c, up_ne _ _ c, er r hr])).symm
    rw [if_neg c, ec]
    simp only [ob]
    rw [nI_1]
    rcases seenC (P := P) (S := S) (R := R) (T := T) (N := N) (sg := sg') (f := f) (rt := up rt' k (qS x2 (rt k) i)) hP hP2 hS hR hT hN hg with ⟨a, ⟨w1, w2, w3⟩, e⟩ | ⟨a, ⟨w1, w2, w3⟩, e⟩
    · have e : F_X6_goesAsSeen f (nI T) (nI P) (nI S) (nI R) sg' (up rt' k (if x2 = 0 then (nI i, (rt k).2.1, (rt k).2.2.1, (rt k).2.2.2) else if x2 = 1 then ((rt k).1, nI i, (rt k).2.2.1, (rt k).2.2.2) else ((rt k).1, (rt k).2.1, (rt k).2.2.1 + nI i, (rt k).2.2.2))) (nI N) to wh le = some (1, w1, w2, w3) := e
      rw [e]
      simp only [ob]
      rw [if_neg i10]
      have z := ih (i + 1) fu w1 w2 (nI P) (nI S) (nI R) sg' w3 (by omega) (by omega)
      rw [show mkB b (i + 1) = mkB b i ||| ishl 1 (nI i) from if_pos (hb'.2 a)] at z
      exact z
    · have e : F_X6_goesAsSeen f (nI T) (nI P) (nI S) (nI R) sg' (up rt' k (if x2 = 0 then (nI i, (rt k).2.1, (rt k).2.2.1, (rt k).2.2.2) else if x2 = 1 then ((rt k).1, nI i, (rt k).2.2.1, (rt k).2.2.2) else ((rt k).1, (rt k).2.1, (rt k).2.2.1 + nI i, (rt k).2.2.2))) (nI N) to wh le = some (0, w1, w2, w3) := e
      rw [e]
      simp only [ob]
      rw [if_pos trivial]
      have z := ih (i + 1) fu w1 w2 (nI P) (nI S) (nI R) sg' w3 (by omega) (by omega)
      rw [show mkB b (i + 1) = mkB b i from if_neg (fun h => a (hb'.1 h))] at z
      exact z
theorem which_loop {b : Nat → Bool} {ix K : Nat} {fr : Int32} (hK : K ≤ 7)
    (hso : ∀ i, i ≤ K → ∀ (mv sl : Int32) (nw wa : Nat → Int32), ∃ mv' sl' nw' wa', (b i = true ∧ F_X7_isSoWith mv sl st nw wa (nI ix) (fr + nI i) = some (1, mv', sl', nw', wa')) ∨ (¬ b i = true ∧ F_X7_isSoWith mv sl st nw wa (nI ix) (fr + nI i) = some (0, mv', sl', nw', wa'))) :
    ∀ (m i fu : Nat) (mv sl : Int32) (nw wa : Nat → Int32), i + m = K + 1 → m < fu → ∃ w, F_X7_which_6 fu mv sl st nw wa (nI ix) fr (nI (K + 1)) (mkB b i) (nI i) = some (mkB b (K + 1), w) := by
  intro m
  induction m with
  | zero =>
    intro i fu mv sl nw wa h1 h2
    obtain ⟨fu, rfl⟩ : ∃ g, fu = g + 1 := ⟨fu - 1, by omega⟩
    obtain rfl : i = K + 1 := by omega
    unfold F_X7_which_6
    rw [if_pos (nI_le (Nat.le_refl _) (by omega))]
    exact ⟨_, rfl⟩
  | succ m ih =>
    intro i fu mv sl nw wa h1 h2
    obtain ⟨fu, rfl⟩ : ∃ g, fu = g + 1 := ⟨fu - 1, by omega⟩
    unfold F_X7_which_6
    obtain ⟨mv', sl', nw', wa', h⟩ := hso i (by omega) mv sl nw wa
    have z := ih (i + 1) fu mv' sl' nw' wa' (by omega) (by omega)
    rw [if_neg (nI_ge (by omega) (by omega)), nI_1]
    rcases h with ⟨a, e⟩ | ⟨a, e⟩
    · rw [e]
      simp only [ob]
      rw [show F_X7_flag 1 = some 1 from rfl]
      simp only [ob]
      rw [show mkB b (i + 1) = mkB b i ||| ishl 1 (nI i) from if_pos a] at z
      exact z
    · rw [e]
      simp only [ob]
      rw [show F_X7_flag 0 = some 0 from rfl]
      simp only [ob]
      rw [ishl08 i (by omega), Int32.or_zero]
      rw [show mkB b (i + 1) = mkB b i from if_neg a] at z
      exact z
/-- the reference's question, of one thing of one rotor -/
theorem so_one {k j i : Nat} {v : Int32} {q : Rot} (hNB : NB f T P S R sg rt st) (hP : 1 ≤ P) (hP2 : P ≤ 9) (hS : S ≤ 16) (hR : R ≤ 4) (hT : T + 50 < 20000) (hs : sOk S sg) (hk : kOk R rt) (hN : N ≤ 6) (hg : SGH N R to wh le) (h37 : st 37 = nI N) (hst : ∀ i, i < N → st (38 + 3 * i) = to i ∧ st (38 + 3 * i + 1) = wh i ∧ st (38 + 3 * i + 2) = le i)
    (hkR : k < R) (hj : j < 4) (h0 : q.1 = if j = 0 then v else (rt k).1) (h1 : q.2.1 = if j = 1 then v else (rt k).2.1) (h2 : q.2.2.1 = if j = 2 then v else (rt k).2.2.1) (h3 : q.2.2.2 = if j = 3 then v else (rt k).2.2.2) (hq : ∃ c, c < 4 ∧ q.1 = nI c) (mv sl : Int32) (nw wa : Nat → Int32) :
    ∃ mv' sl' nw' wa', ((soS P S R sg (f, T, up rt k q) N to wh le ∧ F_X7_isSoWith mv sl st nw wa (nI (20 + 4 * k + j)) v = some (1, mv', sl', nw', wa')) ∨ (¬ soS P S R sg (f, T, up rt k q) N to wh le ∧ F_X7_isSoWith mv sl st nw wa (nI (20 + 4 * k + j)) v = some (0, mv', sl', nw', wa'))) ∧ ∀ t' r, t' ≤ 40 → r < R → wa' (4 * t' + r) = atS P S R sg (f, T, up rt k q) t' r := by
  refine soM hP hP2 hS hR hT hs ?_ hN hg h37 hst (by omega) ?_ mv sl nw wa
  · intro r hr
    by_cases c : r = k
    · subst c; rw [up_self]; exact hq
    · rw [up_ne _ _ c]; exact hk r hr
  · intro nw1 en
    exact NB_fld (NB_cong hNB hS hR (fun j hj => en j (by omega))) hS hR hkR hj v q h0 h1 h2 h3
theorem bool_of (p : Nat → Prop) : ∃ b : Nat → Bool, ∀ i, b i = true ↔ p i :=
  ⟨fun i => @decide (p i) (Classical.propDecidable _), fun i => @decide_eq_true_iff (p i) (Classical.propDecidable _)⟩
theorem seen_core {k j K : Nat} {x2 fr : Int32} (hNB : NB f T P S R sg rt st) (hP : 1 ≤ P) (hP2 : P ≤ 9) (hS : S ≤ 16) (hR : R ≤ 4) (hT : T + 50 < 20000) (hs : sOk S sg) (hk : kOk R rt) (hN : N ≤ 6) (hg : SGH N R to wh le) (h37 : st 37 = nI N) (hst : ∀ i, i < N → st (38 + 3 * i) = to i ∧ st (38 + 3 * i + 1) = wh i ∧ st (38 + 3 * i + 2) = le i)
    (hkR : k < R) (hj : j < 4) (hK : K ≤ 7) (hq : ∀ i, i ≤ K → ((qS x2 (rt k) i).1 = if j = 0 then fr + nI i else (rt k).1) ∧ ((qS x2 (rt k) i).2.1 = if j = 1 then fr + nI i else (rt k).2.1) ∧ ((qS x2 (rt k) i).2.2.1 = if j = 2 then fr + nI i else (rt k).2.2.1) ∧ ((qS x2 (rt k) i).2.2.2 = if j = 3 then fr + nI i else (rt k).2.2.2) ∧ ∃ c, c < 4 ∧ (qS x2 (rt k) i).1 = nI c)
    (tf tt tp tsn trn : Int32) (tsg : Nat → Int32) (trt : Nat → Rot) (mv sl : Int32) (nw wa : Nat → Int32) :
    ∃ r w w', F_X6_asSeenBy f (nI T) (nI P) (nI S) (nI R) sg rt tf tt tp tsn trn tsg trt (nI N) to wh le (nI k) x2 (nI K) = some (r, w) ∧ F_X7_which mv sl st nw wa (nI (20 + 4 * k + j)) fr (nI (K + 1)) = some (r, w') := by
  obtain ⟨b, hb⟩ := bool_of (fun i => soS P S R sg (f, T, up rt k (qS x2 (rt k) i)) N to wh le)
  obtain ⟨w, g1⟩ := mask_loop (b := b) (x2 := x2) (k := k) (K := K) hP hP2 hS hR hT hN hg hkR hK (fun i _ => hb i) (K + 1) 0 FU tf tt tp tsn trn tsg trt (by omega) (by unfold FU; omega)
  obtain ⟨w', g2⟩ := which_loop (st := st) (b := b) (ix := 20 + 4 * k + j) (K := K) (fr := fr) hK (by
    intro i hi mv sl nw wa
    obtain ⟨q0, q1, q2, q3, q4⟩ := hq i hi
    obtain ⟨mv', sl', nw', wa', h, _⟩ := so_one (i := i) hNB hP hP2 hS hR hT hs hk hN hg h37 hst hkR hj q0 q1 q2 q3 q4 mv sl nw wa
    refine ⟨mv', sl', nw', wa', ?_⟩
    rcases h with ⟨a, e⟩ | ⟨a, e⟩
    · left; exact ⟨(hb i).2 a, e⟩
    · right; exact ⟨fun h => a ((hb i).1 h), e⟩) (K + 1) 0 FU mv sl nw wa (by omega) (by unfold FU; omega)
  exact ⟨_, w, w', g1, g2⟩
end
theorem p_kinds : P_kinds := by
  intro rf len fl by_ f t p sn rn sg rt tr_f tr_t tr_p tr_sn tr_rn tr_sg tr_rt n to wh le k0 f0 t0 p0 sn0 rn0 sg0 rt0 n0 to0 wh0 le0 k1 f1 t1 p1 sn1 rn1 sg1 rt1 n1 to1 wh1 le1 sh tp mf m_moved m_slipTicks tn st m_now kp ta m_wereAt la si ce hRel x1
  have hRel0 := hRel
  obtain ⟨h1, hT, hB, hI0, hI1, hSh⟩ := hRel
  obtain ⟨T, P, S, R, N, ⟨zT, zP1, zP2, zS, zR, zN⟩, ⟨rfl, rfl, rfl, rfl, rfl⟩, ⟨b0, b17, b18, b19, b36, b37⟩, bs, br, bn, bf⟩ := hB
  have hNB : NB f T P S R sg rt st := ⟨⟨b0, b17, b18, b19, b36⟩, fun i hi => (bs i hi).1, fun r hr => (br r hr).1⟩
  have hk : kOk R rt := fun r hr => (br r hr).2.1
  have hs : sOk S sg := fun i hi => (bs i hi).2
  unfold F_X6_kinds F_X7_kinds
  rcases rotor_cases b36 zR x1 with ⟨k, hkR, rfl, e1, e2⟩ | ⟨e1, e2⟩
  · rw [e1, e2]
    simp only [ob]
    rw [if_neg i10, if_neg i10, show (20 : Int32) + 4 * nI k + 0 = nI (20 + 4 * k + 0) from ix_eq k 0]
    obtain ⟨r, ⟨w1, w2, w3, w4, w5, w6, w7⟩, ⟨w8, w9, w10, w11⟩, g1, g2⟩ := seen_core (k := k) (j := 0) (K := 3) (x2 := 0) (fr := 0) hNB zP1 zP2 zS zR (by omega) hs hk zN (fun i hi => (bn i hi).2) b37 (fun i hi => (bn i hi).1) hkR (by omega) (by omega) (by
      intro i hi
      refine ⟨?_, rfl, rfl, rfl, i, by omega, rfl⟩
      rw [if_pos rfl, Int32.zero_add]; rfl) tr_f tr_t tr_p tr_sn tr_rn tr_sg tr_rt m_moved m_slipTicks m_now m_wereAt
    rw [show (3 : Int32) = nI 3 from rfl, g1, show (4 : Int32) = nI (3 + 1) from rfl, g2]
    simp only [ob]
    exact ⟨_, _, _, _, _, _, _, _, _, _, _, _, rfl, rfl, hRel0⟩
  · rw [e1, e2, bz, bz]
    exact ⟨_, _, _, _, _, _, _, _, _, _, _, _, rfl, rfl, hRel0⟩
theorem p_grips : P_grips := by
  intro rf len fl by_ f t p sn rn sg rt tr_f tr_t tr_p tr_sn tr_rn tr_sg tr_rt n to wh le k0 f0 t0 p0 sn0 rn0 sg0 rt0 n0 to0 wh0 le0 k1 f1 t1 p1 sn1 rn1 sg1 rt1 n1 to1 wh1 le1 sh tp mf m_moved m_slipTicks tn st m_now kp ta m_wereAt la si ce hRel x1
  have hRel0 := hRel
  obtain ⟨h1, hT, hB, hI0, hI1, hSh⟩ := hRel
  obtain ⟨T, P, S, R, N, ⟨zT, zP1, zP2, zS, zR, zN⟩, ⟨rfl, rfl, rfl, rfl, rfl⟩, ⟨b0, b17, b18, b19, b36, b37⟩, bs, br, bn, bf⟩ := hB
  have hNB : NB f T P S R sg rt st := ⟨⟨b0, b17, b18, b19, b36⟩, fun i hi => (bs i hi).1, fun r hr => (br r hr).1⟩
  have hk : kOk R rt := fun r hr => (br r hr).2.1
  have hs : sOk S sg := fun i hi => (bs i hi).2
  unfold F_X6_grips F_X7_grips
  rcases rotor_cases b36 zR x1 with ⟨k, hkR, rfl, e1, e2⟩ | ⟨e1, e2⟩
  · rw [e1, e2]
    simp only [ob]
    rw [if_neg i10, if_neg i10, show (20 : Int32) + 4 * nI k + 1 = nI (20 + 4 * k + 1) from ix_eq k 1]
    obtain ⟨r, ⟨w1, w2, w3, w4, w5, w6, w7⟩, ⟨w8, w9, w10, w11⟩, g1, g2⟩ := seen_core (k := k) (j := 1) (K := 3) (x2 := 1) (fr := 0) hNB zP1 zP2 zS zR (by omega) hs hk zN (fun i hi => (bn i hi).2) b37 (fun i hi => (bn i hi).1) hkR (by omega) (by omega) (by
      intro i hi
      refine ⟨rfl, ?_, rfl, rfl, hk k hkR⟩
      rw [if_pos rfl, Int32.zero_add]; rfl) tr_f tr_t tr_p tr_sn tr_rn tr_sg tr_rt m_moved m_slipTicks m_now m_wereAt
    rw [show (3 : Int32) = nI 3 from rfl, g1, show (4 : Int32) = nI (3 + 1) from rfl, g2]
    simp only [ob]
    exact ⟨_, _, _, _, _, _, _, _, _, _, _, _, rfl, rfl, hRel0⟩
  · rw [e1, e2, bz, bz]
    exact ⟨_, _, _, _, _, _, _, _, _, _, _, _, rfl, rfl, hRel0⟩
theorem p_starts : P_starts := by
  intro rf len fl by_ f t p sn rn sg rt tr_f tr_t tr_p tr_sn tr_rn tr_sg tr_rt n to wh le k0 f0 t0 p0 sn0 rn0 sg0 rt0 n0 to0 wh0 le0 k1 f1 t1 p1 sn1 rn1 sg1 rt1 n1 to1 wh1 le1 sh tp mf m_moved m_slipTicks tn st m_now kp ta m_wereAt la si ce hRel x1
  have hRel0 := hRel
  obtain ⟨h1, hT, hB, hI0, hI1, hSh⟩ := hRel
  obtain ⟨T, P, S, R, N, ⟨zT, zP1, zP2, zS, zR, zN⟩, ⟨rfl, rfl, rfl, rfl, rfl⟩, ⟨b0, b17, b18, b19, b36, b37⟩, bs, br, bn, bf⟩ := hB
  have hNB : NB f T P S R sg rt st := ⟨⟨b0, b17, b18, b19, b36⟩, fun i hi => (bs i hi).1, fun r hr => (br r hr).1⟩
  have hk : kOk R rt := fun r hr => (br r hr).2.1
  have hs : sOk S sg := fun i hi => (bs i hi).2
  unfold F_X6_starts F_X7_starts
  rcases rotor_cases b36 zR x1 with ⟨k, hkR, rfl, e1, e2⟩ | ⟨e1, e2⟩
  · rw [e1, e2]
    simp only [ob]
    rw [if_neg i10, if_neg i10, show (20 : Int32) + 4 * nI k + 2 = nI (20 + 4 * k + 2) from ix_eq k 2, chk_pos (inb_nI (by omega) (by decide)), cl_nI (by omega)]
    obtain ⟨r, ⟨w1, w2, w3, w4, w5, w6, w7⟩, ⟨w8, w9, w10, w11⟩, g1, g2⟩ := seen_core (k := k) (j := 2) (K := 7) (x2 := 2) (fr := st (20 + 4 * k + 2)) hNB zP1 zP2 zS zR (by omega) hs hk zN (fun i hi => (bn i hi).2) b37 (fun i hi => (bn i hi).1) hkR (by omega) (by omega) (by
      intro i hi
      refine ⟨rfl, rfl, ?_, rfl, hk k hkR⟩
      rw [if_pos rfl, (br k hkR).1.2.2.1]; rfl) tr_f tr_t tr_p tr_sn tr_rn tr_sg tr_rt m_moved m_slipTicks m_now m_wereAt
    rw [show (7 : Int32) = nI 7 from rfl, g1, show (8 : Int32) = nI (7 + 1) from rfl, g2]
    simp only [ob]
    exact ⟨_, _, _, _, _, _, _, _, _, _, _, _, rfl, rfl, hRel0⟩
  · rw [e1, e2, bz, bz]
    exact ⟨_, _, _, _, _, _, _, _, _, _, _, _, rfl, rfl, hRel0⟩
