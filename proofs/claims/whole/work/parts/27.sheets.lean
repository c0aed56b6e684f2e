/-! sheets -/
theorem renew_loop {a z : Int32} {N : Nat} : ∀ (fu i : Nat) (c : Nat → Int32), i ≤ 40 → 40 - i < fu → (∀ j, j < i → c j = 0) → ∃ c', F_X3_renew_12 fu a z c (nI i) = some (a, z, c') ∧ ∀ j, j < 40 → c' j = 0 := by
  intro fu
  induction fu with
  | zero => intro i c h1 h2; omega
  | succ fu ih =>
    intro i c h1 h2 h3
    unfold F_X3_renew_12
    by_cases hi : 40 ≤ i
    · have e : i = 40 := by omega
      subst e
      rw [if_pos (show (40 : Int32) ≤ nI 40 by decide)]
      exact ⟨_, rfl, h3⟩
    · rw [if_neg (show ¬ (40 : Int32) ≤ nI i from nI_ge (b := 40) (by omega) (by omega)), chk_pos (inb_nI (by omega) (by decide)), cl_nI (by omega), nI_1]
      refine ih (i + 1) _ (by omega) (by omega) ?_
      intro j hj
      by_cases c : j = i
      · subst c; rw [upd_at]
      · rw [upd_off _ _ c]; exact h3 j (by omega)
theorem sheet40_loop {la si : Nat → Int32} {k : Nat} (hk : k < 4) {ce : Nat → Int32} : ∀ (fu i : Nat) (c : Nat → Int32), i ≤ 40 → 40 - i < fu → (∀ j, j < i → c (40 * k + j) = 0) → (∀ j, j < 40 * k ∨ 40 * k + 40 ≤ j → c j = ce j) → ∃ c', F_X7_sheet_40 fu la si c (nI k) (nI i) = some (1, la, si, c') ∧ (∀ j, j < 40 → c' (40 * k + j) = 0) ∧ (∀ j, j < 40 * k ∨ 40 * k + 40 ≤ j → c' j = ce j) := by
  intro fu
  induction fu with
  | zero => intro i c h1 h2; omega
  | succ fu ih =>
    intro i c h1 h2 h3 h4
    unfold F_X7_sheet_40
    by_cases hi : 40 ≤ i
    · have e : i = 40 := by omega
      subst e
      rw [if_pos (show (40 : Int32) ≤ nI 40 by decide)]
      exact ⟨_, rfl, h3, h4⟩
    · rw [if_neg (show ¬ (40 : Int32) ≤ nI i from nI_ge (b := 40) (by omega) (by omega)), show (40 : Int32) * nI k + nI i = nI (40 * k + i) by rw [show (40 : Int32) = nI 40 from rfl, pk_mul, nI_add], chk_pos (inb_nI (by omega) (by decide)), cl_nI (by omega), nI_1]
      refine ih (i + 1) _ (by omega) (by omega) ?_ ?_
      · intro j hj
        by_cases c : j = i
        · subst c; rw [upd_at]
        · rw [upd_off _ _ (by omega)]; exact h3 j (by omega)
      · intro j hj
        rw [upd_off _ _ (by omega)]; exact h4 j hj
theorem isSheet_cases (x1 x2 : Int32) : (∃ k a, k < 4 ∧ a < 3 ∧ x1 = nI k ∧ x2 = nI a ∧ F_X6_within x1 3 = some 1 ∧ F_X6_within x2 2 = some 1 ∧ F_X7_isSheet x1 x2 = some 1) ∨ (F_X7_isSheet x1 x2 = some 0 ∧ (F_X6_within x1 3 = some 0 ∨ F_X6_within x1 3 = some 1 ∧ F_X6_within x2 2 = some 0)) := by
  unfold F_X7_isSheet
  rcases rng_cases x1 3 (by decide) with ⟨k, hk, rfl, e1, e2⟩ | ⟨e1, e2⟩
  · have e1 : F_X6_within (nI k) 3 = some 1 := e1
    have e2 : F_X7_in (nI k).toInt64 0 3 = some 1 := e2
    rw [e2]
    simp only [Option.bind_some, if_neg i10]
    rcases rng_cases x2 2 (by decide) with ⟨a, ha, rfl, f1, f2⟩ | ⟨f1, f2⟩
    · have f1 : F_X6_within (nI a) 2 = some 1 := f1
      have f2 : F_X7_in (nI a).toInt64 0 2 = some 1 := f2
      left
      refine ⟨k, a, by omega, by omega, rfl, rfl, e1, f1, ?_⟩
      rw [f2]; rfl
    · have f1 : F_X6_within x2 2 = some 0 := f1
      have f2 : F_X7_in x2.toInt64 0 2 = some 0 := f2
      right
      refine ⟨?_, Or.inr ⟨e1, f1⟩⟩
      rw [f2]; rfl
  · have e1 : F_X6_within x1 3 = some 0 := e1
    have e2 : F_X7_in x1.toInt64 0 3 = some 0 := e2
    right
    refine ⟨?_, Or.inl e1⟩
    rw [e2]; rfl
theorem p_sheet : P_sheet := by
  intro rf len fl by_ f t p sn rn sg rt n to wh le k0 f0 t0 p0 sn0 rn0 sg0 rt0 n0 to0 wh0 le0 k1 f1 t1 p1 sn1 rn1 sg1 rt1 n1 to1 wh1 le1 sh tp mf tn st kp ta la si ce hRel x1 x2 x3
  have hRel0 := hRel
  obtain ⟨h1, hT, hB, hI0, hI1, hSh⟩ := hRel
  unfold F_X6_sheet F_X7_sheet
  rcases isSheet_cases x1 x2 with ⟨k, a, hk, ha, rfl, rfl, e1, e2, e3⟩ | ⟨e3, e1 | ⟨e1, e2⟩⟩
  · rw [e1, e2, e3]
    simp only [Option.bind_some, if_neg i10]
    by_cases c1 : x3 ≤ 40
    · rw [if_pos c1, if_pos c1]
      by_cases c2 : 0 ≤ x3
      · rw [if_pos c2, if_pos c2]
        have hx : ∃ z, z ≤ 40 ∧ x3 = nI z := by
          have h9 : (40 : Int32).toInt = 40 := by decide
          have h8 : (0 : Int32).toInt = 0 := by decide
          rw [i_le] at c1 c2
          refine ⟨x3.toInt.toNat, by omega, ?_⟩
          rw [i_eq, nI_toInt (by omega)]; omega
        obtain ⟨z, hz, rfl⟩ := hx
        rw [chk_pos (inb_nI (by omega) (by decide)), chk_pos (inb_nI (by omega) (by decide)), chk_pos (inb_nI (by omega) (by decide)), cl_nI (by omega)]
        obtain ⟨c', g1, g2⟩ := renew_loop (a := nI a) (z := nI z) (N := 0) FU 0 (sh k).2.2 (by omega) (by unfold FU; omega) (fun j h => absurd h (by omega))
        obtain ⟨d', g3, g4, g5⟩ := sheet40_loop (la := upd la k (nI a)) (si := upd si k (nI z)) hk (ce := ce) FU 0 ce (by omega) (by unfold FU; omega) (fun j h => absurd h (by omega)) (fun j h => rfl)
        have g1 : F_X3_renew (sh k).1 (sh k).2.1 (sh k).2.2 (nI a) (nI z) = some (nI a, nI z, c') := g1
        have g3 : F_X7_sheet_40 FU (upd la k (nI a)) (upd si k (nI z)) ce (nI k) 0 = some (1, upd la k (nI a), upd si k (nI z), d') := g3
        rw [g1, g3]
        refine ⟨_, _, _, _, _, rfl, rfl, h1, hT, hB, hI0, hI1, ?_⟩
        intro i hi
        by_cases c : i = k
        · subst c
          right
          refine ⟨a, z, ha, hz, ?_, upd_at _ _ _, ?_, upd_at _ _ _, ?_⟩
          · rw [up_self]
          · rw [up_self]
          · intro j hj
            rw [up_self, g4 j hj]; exact (g2 j hj).symm
        · rw [up_ne _ _ c, upd_off _ _ c, upd_off _ _ c]
          rcases hSh i hi with h | ⟨a', z', q1, q2, q3, q4, q5, q6, q7⟩
          · exact Or.inl h
          · right
            refine ⟨a', z', q1, q2, q3, q4, q5, q6, ?_⟩
            intro j hj
            rw [g5 _ (by omega)]; exact q7 j hj
      · rw [if_neg c2, if_neg c2]
        exact ⟨_, _, _, _, _, rfl, rfl, hRel0⟩
    · rw [if_neg c1, if_neg c1]
      exact ⟨_, _, _, _, _, rfl, rfl, hRel0⟩
  · rw [e1, e3]
    exact ⟨_, _, _, _, _, rfl, rfl, hRel0⟩
  · rw [e1, e2, e3]
    exact ⟨_, _, _, _, _, rfl, rfl, hRel0⟩
theorem lane_ne : ∀ a, a < 3 → ¬ nI a = -1 ∧ ¬ nI a = -4 := by decide
theorem faultAt_eq {a z : Nat} (ha : a < 3) (hz : z ≤ 40) (y : Int32) : F_X3_faultAt (nI a) (nI z) y = if 0 ≤ y.toInt ∧ y.toInt < z then some 0 else some 2 := by
  unfold F_X3_faultAt F_X3_faultAt_22
  have hz1 := nI_toInt (n := z) (by omega)
  have h0 : (0 : Int32).toInt = 0 := by decide
  rw [if_neg (lane_ne a ha).1]
  by_cases c1 : y < 0
  · rw [if_pos c1]; rw [i_lt] at c1; rw [if_neg (by omega)]
  · rw [if_neg c1]; rw [i_lt] at c1
    by_cases c2 : y < nI z
    · rw [if_pos c2]; rw [i_lt] at c2; rw [if_pos ⟨by omega, by omega⟩]
    · rw [if_neg c2]; rw [i_lt] at c2; rw [if_neg (by omega)]
theorem p_lay : P_lay := by
  intro rf len fl by_ f t p sn rn sg rt n to wh le k0 f0 t0 p0 sn0 rn0 sg0 rt0 n0 to0 wh0 le0 k1 f1 t1 p1 sn1 rn1 sg1 rt1 n1 to1 wh1 le1 sh tp mf tn st kp ta la si ce hRel x1 x2 x3
  have hRel0 := hRel
  obtain ⟨h1, hT, hB, hI0, hI1, hSh⟩ := hRel
  unfold F_X6_lay F_X7_lay
  rcases isSheet_cases x1 0 with ⟨k, a, hk, ha, rfl, _, e1, e2, e3⟩ | ⟨e3, e1 | ⟨e1, e2⟩⟩
  · rw [e1, e3]
    simp only [Option.bind_some, if_neg i10, chk_pos (inb_nI (n := k) (N := 4) (by omega) (by decide)), cl_nI (n := k) (by omega)]
    rcases hSh k hk with ⟨q1, q2⟩ | ⟨a, z, q1, q2, q3, q4, q5, q6, q7⟩
    · rw [q1, q2, if_pos rfl]
      exact ⟨_, _, _, rfl, rfl, hRel0⟩
    · simp only [q3, q4, q5, q6]
      rw [if_neg (lane_ne a q1).2, faultAt_eq q1 q2]
      have nc := num_cases x2 z (by omega)
      unfold F_X6_hasRotor at nc
      rcases nc with ⟨i, hi, rfl, e4, e5⟩ | ⟨e4, e5⟩
      · have hii := nI_toInt (n := i) (by omega)
        rw [e5, if_pos ⟨by omega, by omega⟩]
        simp only [Option.bind_some, if_neg i10]
        rw [if_pos trivial]
        have ie : (40 : Int32) * nI k + nI i = nI (40 * k + i) := by rw [show (40 : Int32) = nI 40 from rfl, pk_mul, nI_add]
        have fin : ∀ v, Rel rf len fl by_ f t p sn rn sg rt n to wh le k0 f0 t0 p0 sn0 rn0 sg0 rt0 n0 to0 wh0 le0 k1 f1 t1 p1 sn1 rn1 sg1 rt1 n1 to1 wh1 le1 (up sh k (nI a, nI z, upd (sh k).2.2 i v)) tp mf tn st kp ta la si (upd ce (40 * k + i) v) := by
          intro v
          refine ⟨h1, hT, hB, hI0, hI1, ?_⟩
          intro j hj
          by_cases c : j = k
          · subst c
            right
            refine ⟨a, z, q1, q2, by rw [up_self], q4, by rw [up_self], q6, ?_⟩
            intro l hl
            rw [up_self]
            by_cases cl : l = i
            · subst cl; rw [upd_at]; exact (upd_at _ _ _).symm
            · rw [upd_off _ _ (by omega)]; exact (q7 l hl).trans (upd_off _ _ cl).symm
          · rw [up_ne _ _ c]
            rcases hSh j hj with h | ⟨a', z', r1, r2, r3, r4, r5, r6, r7⟩
            · exact Or.inl h
            · right
              refine ⟨a', z', r1, r2, r3, r4, r5, r6, ?_⟩
              intro l hl
              rw [upd_off _ _ (by omega)]; exact r7 l hl
        unfold F_X3_put
        rw [ie]
        simp only [chk_pos (inb_nI (n := i) (N := 40) (by omega) (by decide)), chk_pos (inb_nI (n := 40 * k + i) (N := 160) (by omega) (by decide)), cl_nI (n := i) (by omega), cl_nI (n := 40 * k + i) (by omega)]
        by_cases d0 : nI a = 0
        · rw [if_pos d0, if_pos d0]
          exact ⟨_, _, _, rfl, rfl, fin _⟩
        · rw [if_neg d0, if_neg d0]
          by_cases d1 : nI a = 1
          · rw [if_pos d1, if_pos d1]
            exact ⟨_, _, _, rfl, rfl, fin _⟩
          · rw [if_neg d1, if_neg d1]
            exact ⟨_, _, _, rfl, rfl, fin _⟩
      · rw [e5]
        have hz1 := nI_toInt (n := z) (by omega)
        have h0 : (0 : Int32).toInt = 0 := by decide
        have hno : ¬ (0 ≤ x2.toInt ∧ x2.toInt < z) := by
          intro hh
          rw [if_neg (by rw [i_lt]; omega), if_neg (by rw [i_le]; omega)] at e4
          exact absurd e4 (by decide)
        rw [if_neg hno]
        exact ⟨_, _, _, rfl, rfl, hRel0⟩
  · rw [e1, e3]
    exact ⟨_, _, _, rfl, rfl, hRel0⟩
  · exact absurd e2 (by decide)
