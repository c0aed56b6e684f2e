/-! the reference: is it so with a thing changed -/
section
variable {P S R T N : Nat} {sg : Nat → Int32} {f : Int32} {rt : Nat → Rot} {to wh le st : Nat → Int32}
theorem so77_loop {mv sl : Int32} {nw wa : Nat → Int32} (hN : N ≤ 6) (hR : R ≤ 4) (hg : SGH N R to wh le) (h37 : st 37 = nI N) (hst : ∀ i, i < N → st (38 + 3 * i) = to i ∧ st (38 + 3 * i + 1) = wh i ∧ st (38 + 3 * i + 2) = le i) (hwa : ∀ t r, t ≤ 40 → r < R → wa (4 * t + r) = atS P S R sg (f, T, rt) t r) : ∀ (fu j : Nat) (x3 : Int32), j ≤ N → N - j < fu → ((x3 = 1 ∧ ∀ i, i < j → mtS P S R sg (f, T, rt) to wh le i) ∨ (x3 = 0 ∧ ¬ ∀ i, i < j → mtS P S R sg (f, T, rt) to wh le i)) →
    (soS P S R sg (f, T, rt) N to wh le ∧ F_X7_isSoWith_77 fu mv sl st nw wa x3 (nI j) = some (1, mv, sl, nw, wa)) ∨ (¬ soS P S R sg (f, T, rt) N to wh le ∧ F_X7_isSoWith_77 fu mv sl st nw wa x3 (nI j) = some (0, mv, sl, nw, wa)) := by
  intro fu
  induction fu with
  | zero => intro j x3 h1 h2; omega
  | succ fu ih =>
    intro j x3 h1 h2 h3
    unfold F_X7_isSoWith_77
    rw [chk_pos (show inb (37 : Int32) 168 by decide), show (37 : Int32).toNatClampNeg = 37 from rfl, h37]
    by_cases hc : N ≤ j
    · have e : j = N := by omega
      subst e
      rw [if_pos (nI_le (Nat.le_refl _) (by omega))]
      rcases h3 with ⟨rfl, h4⟩ | ⟨rfl, h4⟩
      · left; exact ⟨h4, chk_pos (by decide)⟩
      · right; exact ⟨h4, chk_pos (by decide)⟩
    · rw [if_neg (nI_ge (by omega) (by omega)), nI_1]
      rcases h3 with ⟨rfl, h4⟩ | ⟨rfl, h4⟩
      · rw [if_neg i10]
        obtain ⟨⟨a, ga, gt⟩, ⟨w, gw, gwh⟩, gl⟩ := hg j (by omega)
        obtain ⟨s0, s1, s2⟩ := hst j (by omega)
        have i0 : (38 : Int32) + 3 * nI j = nI (38 + 3 * j) := by rw [show (38 : Int32) = nI 38 from rfl, show (3 : Int32) = nI 3 from rfl, pk_mul, nI_add]
        have i4 : (4 : Int32) * nI a + nI w = nI (4 * a + w) := by rw [show (4 : Int32) = nI 4 from rfl, pk_mul, nI_add]
        simp only [i0, show nI (38 + 3 * j) + 1 = nI (38 + 3 * j + 1) from nI_add _ 1, show nI (38 + 3 * j) + 2 = nI (38 + 3 * j + 2) from nI_add _ 2, chk_pos (inb_nI (n := 38 + 3 * j) (N := 168) (by omega) (by decide)), chk_pos (inb_nI (n := 38 + 3 * j + 1) (N := 168) (by omega) (by decide)), chk_pos (inb_nI (n := 38 + 3 * j + 2) (N := 168) (by omega) (by decide)), cl_nI (n := 38 + 3 * j) (by omega), cl_nI (n := 38 + 3 * j + 1) (by omega), cl_nI (n := 38 + 3 * j + 2) (by omega), s0, s1, s2, gt, gwh, i4, chk_pos (inb_nI (n := 4 * a + w) (N := 164) (by omega) (by decide)), cl_nI (n := 4 * a + w) (by omega), hwa a w ga gw]
        have hm : mtS P S R sg (f, T, rt) to wh le j ↔ atS P S R sg (f, T, rt) a w = le j := by
          unfold mtS
          rw [gt, gwh, cl_nI (by omega), cl_nI (by omega)]
        by_cases c : atS P S R sg (f, T, rt) a w = le j
        · rw [if_pos c]
          refine ih (j + 1) 1 (by omega) (by omega) (Or.inl ⟨rfl, ?_⟩)
          intro i hi
          by_cases ci : i = j
          · subst ci; exact hm.2 c
          · exact h4 i (by omega)
        · rw [if_neg c]
          exact ih (j + 1) 0 (by omega) (by omega) (Or.inr ⟨rfl, fun h => c (hm.1 (h j (by omega)))⟩)
      · rw [if_pos rfl]
        exact ih (j + 1) 0 (by omega) (by omega) (Or.inr ⟨rfl, fun h => h4 (fun i hi => h i (by omega))⟩)
theorem so22_loop {t : Nat} {kk : Int32 → Int32 → (Nat → Int32) → (Nat → Int32) → (Nat → Int32) → Int32 → Option (Int32 × Int32 × Int32 × (Nat → Int32) × (Nat → Int32))} {mv sl : Int32} {nw : Nat → Int32} (hP : 1 ≤ P) (hP2 : P ≤ 9) (hS : S ≤ 16) (hR : R ≤ 4) (hT : T + 50 < 20000) (ht : t ≤ 40) (hs : sOk S sg) (hk : kOk R rt) (hNB : NB (goS P S R sg t (f, T, rt)).2.1 (T + t) P S R sg (goS P S R sg t (f, T, rt)).2.2.2 nw) {wa0 : Nat → Int32} : ∀ (fu r : Nat) (wa : Nat → Int32), r ≤ R → R - r < fu → (∀ r', r' < r → wa (4 * t + r') = atS P S R sg (f, T, rt) t r') → (∀ j, j < 4 * t → wa j = wa0 j) →
    ∃ mv' sl' nw' wa', F_X7_isSoWith_22 fu kk mv sl st nw wa (nI t) (nI r) = kk mv' sl' st nw' wa' (nI (t + 1)) ∧ NB (goS P S R sg (t + 1) (f, T, rt)).2.1 (T + (t + 1)) P S R sg (goS P S R sg (t + 1) (f, T, rt)).2.2.2 nw' ∧ (∀ r', r' < R → wa' (4 * t + r') = atS P S R sg (f, T, rt) t r') ∧ (∀ j, j < 4 * t → wa' j = wa0 j) := by
  intro fu
  induction fu with
  | zero => intro r wa h1 h2; omega
  | succ fu ih =>
    intro r wa h1 h2 h3 h4
    unfold F_X7_isSoWith_22
    rw [chk_pos (show inb (36 : Int32) 56 by decide), show (36 : Int32).toNatClampNeg = 36 from rfl, hNB.1.2.2.2.2]
    by_cases hc : R ≤ r
    · have e : r = R := by omega
      subst e
      rw [if_pos (nI_le (Nat.le_refl _) (by omega))]
      obtain ⟨nw2, e4, hN3, en2⟩ := ticksGoM hNB hP hP2 hS hR (n := 1) (by omega) (by omega) hs (kOk_go (s := (f, T, rt)) hk t) mv sl
      rw [show (1 : Int32) = nI 1 from rfl, e4]
      simp only [ob]
      rw [nI_add]
      have e5 : (goS P S r sg 1 ((goS P S r sg t (f, T, rt)).2.1, T + t, (goS P S r sg t (f, T, rt)).2.2.2)).2 = (goS P S r sg (t + 1) (f, T, rt)).2 := by rw [go_pt]; rfl
      rw [e5] at hN3
      exact ⟨_, _, nw2, wa, rfl, hN3, h3, h4⟩
    · rw [if_neg (nI_ge (by omega) (by omega)), show F_X7_of nw (nI r) 2 = some (nw (20 + 4 * r + 2)) from of_eq (j := 2) (by omega) (by omega), (hNB.2.2 r (by omega)).2.2.1]
      simp only [ob]
      rw [byEight_eq]
      simp only [ob]
      rw [show (4 : Int32) * nI t + nI r = nI (4 * t + r) by rw [show (4 : Int32) = nI 4 from rfl, pk_mul, nI_add], chk_pos (inb_nI (by omega) (by decide)), cl_nI (by omega), nI_1]
      refine ih (r + 1) _ (by omega) (by omega) ?_ ?_
      · intro r' hr'
        by_cases c : r' = r
        · subst c; rw [upd_at]; rfl
        · rw [upd_off _ _ (by omega)]; exact h3 r' (by omega)
      · intro j hj
        rw [upd_off _ _ (by omega)]; exact h4 j hj
theorem so13_loop (hP : 1 ≤ P) (hP2 : P ≤ 9) (hS : S ≤ 16) (hR : R ≤ 4) (hT : T + 50 < 20000) (hs : sOk S sg) (hk : kOk R rt) : ∀ (m t fu : Nat) (mv sl : Int32) (nw wa : Nat → Int32), t + m = 41 → m < fu → NB (goS P S R sg t (f, T, rt)).2.1 (T + t) P S R sg (goS P S R sg t (f, T, rt)).2.2.2 nw → (∀ t' r, t' < t → r < R → wa (4 * t' + r) = atS P S R sg (f, T, rt) t' r) →
    ∃ mv' sl' nw' wa', F_X7_isSoWith_13 fu mv sl st nw wa (nI t) = F_X7_isSoWith_77 FU mv' sl' st nw' wa' 1 0 ∧ ∀ t' r, t' ≤ 40 → r < R → wa' (4 * t' + r) = atS P S R sg (f, T, rt) t' r := by
  intro m
  induction m with
  | zero =>
    intro t fu mv sl nw wa h1 h2 h3 h4
    obtain ⟨fu, rfl⟩ : ∃ g, fu = g + 1 := ⟨fu - 1, by omega⟩
    obtain rfl : t = 41 := by omega
    unfold F_X7_isSoWith_13
    rw [if_pos (by decide)]
    exact ⟨_, _, _, _, rfl, fun t' r ht hr => h4 t' r (by omega) hr⟩
  | succ m ih =>
    intro t fu mv sl nw wa h1 h2 h3 h4
    obtain ⟨fu, rfl⟩ : ∃ g, fu = g + 1 := ⟨fu - 1, by omega⟩
    unfold F_X7_isSoWith_13
    have c : ¬ (40 : Int32) < nI t := by rw [show (40 : Int32) = nI 40 from rfl, nI_ltI (by decide) (by omega)]; omega
    rw [if_neg c]
    obtain ⟨mv', sl', nw', wa', e1, e2, e3, e4⟩ := so22_loop (st := st) (kk := fun (v_moved : Int32) (v_slipTicks : Int32) (v_st : Nat → Int32) (v_now : Nat → Int32) (v_wereAt : Nat → Int32) (x3 : Int32) => F_X7_isSoWith_13 fu v_moved v_slipTicks v_st v_now v_wereAt x3) (mv := mv) (sl := sl) hP hP2 hS hR hT (show t ≤ 40 by omega) hs hk h3 (wa0 := wa) FU 0 wa (by omega) (by unfold FU; omega) (fun r h => absurd h (by omega)) (fun j h => rfl)
    have e1 : F_X7_isSoWith_22 FU (fun (v_moved : Int32) (v_slipTicks : Int32) (v_st : Nat → Int32) (v_now : Nat → Int32) (v_wereAt : Nat → Int32) (x3 : Int32) => F_X7_isSoWith_13 fu v_moved v_slipTicks v_st v_now v_wereAt x3) mv sl st nw wa (nI t) 0 = F_X7_isSoWith_13 fu mv' sl' st nw' wa' (nI (t + 1)) := e1
    rw [e1]
    refine ih (t + 1) fu mv' sl' nw' wa' (by omega) (by omega) e2 ?_
    intro t' r ht hr
    by_cases ct : t' = t
    · subst ct; exact e3 r hr
    · rw [e4 _ (by omega)]; exact h4 t' r (by omega) hr
theorem soM {ix : Nat} {v : Int32} (hP : 1 ≤ P) (hP2 : P ≤ 9) (hS : S ≤ 16) (hR : R ≤ 4) (hT : T + 50 < 20000) (hs : sOk S sg) (hk : kOk R rt) (hN : N ≤ 6) (hg : SGH N R to wh le) (h37 : st 37 = nI N) (hst : ∀ i, i < N → st (38 + 3 * i) = to i ∧ st (38 + 3 * i + 1) = wh i ∧ st (38 + 3 * i + 2) = le i) (hix : ix < 56) (hNB : ∀ nw1, (∀ j, j < 56 → nw1 j = st j) → NB f T P S R sg rt (upd nw1 ix v)) (mv sl : Int32) (nw wa : Nat → Int32) :
    ∃ mv' sl' nw' wa', ((soS P S R sg (f, T, rt) N to wh le ∧ F_X7_isSoWith mv sl st nw wa (nI ix) v = some (1, mv', sl', nw', wa')) ∨ (¬ soS P S R sg (f, T, rt) N to wh le ∧ F_X7_isSoWith mv sl st nw wa (nI ix) v = some (0, mv', sl', nw', wa'))) ∧ ∀ t' r, t' ≤ 40 → r < R → wa' (4 * t' + r) = atS P S R sg (f, T, rt) t' r := by
  obtain ⟨nw1, e0, en⟩ := takesAllM mv sl st nw
  obtain ⟨mv', sl', nw', wa', e1, e2⟩ := so13_loop (P := P) (S := S) (R := R) (T := T) (sg := sg) (f := f) (rt := rt) (st := st) hP hP2 hS hR hT hs hk 41 0 FU 0 0 (upd nw1 ix v) wa (by omega) (by unfold FU; omega) (hNB nw1 en) (fun t' r h => absurd h (by omega))
  have e1 : F_X7_isSoWith_13 FU 0 0 st (upd nw1 ix v) wa 0 = F_X7_isSoWith_77 FU mv' sl' st nw' wa' 1 0 := e1
  refine ⟨mv', sl', nw', wa', ?_, e2⟩
  unfold F_X7_isSoWith
  rw [e0]
  simp only [ob]
  rw [chk_pos (inb_nI (by omega) (by decide)), cl_nI (by omega), e1]
  exact so77_loop hN hR hg h37 hst e2 FU 0 1 (by omega) (by unfold FU; omega) (Or.inl ⟨rfl, fun i h => absurd h (by omega)⟩)
end
