/-! how far a field and a place can come -/
theorem by_rng (v : Int32) : -2 ≤ (byS v).toInt ∧ (byS v).toInt ≤ 2 := by
  unfold byS
  split
  · decide
  split
  · decide
  split <;> decide
theorem step_in (so wy gap side : Int32) : stepS so wy gap side = 0 ∨ stepS so wy gap side = 1 ∨ stepS so wy gap side = 2 := by
  unfold stepS
  split
  · exact Or.inr (Or.inl rfl)
  split
  · split
    · exact Or.inr (Or.inl rfl)
    · exact Or.inr (Or.inr rfl)
  split
  · split
    · exact Or.inr (Or.inl rfl)
    · exact Or.inl rfl
  split
  · split
    · exact Or.inl rfl
    · exact Or.inr (Or.inl rfl)
  · exact Or.inl rfl
theorem fol_rng (f : Int32) (q : Rot) : ∃ d : Int32, (folS f q).2.2.2.1 = q.2.2.1 + d ∧ -2 ≤ d.toInt ∧ d.toInt ≤ 2 := by
  unfold folS
  split
  · exact ⟨0, (Int32.add_zero _).symm, by decide, by decide⟩
  split
  · refine ⟨_, rfl, ?_⟩
    have hs : sideS (offS f q.2.2.1) = 1 ∨ sideS (offS f q.2.2.1) = -1 := by
      unfold sideS
      split
      · exact Or.inl rfl
      · exact Or.inr rfl
    rcases step_in q.1 q.2.2.2 (iabs (offS f q.2.2.1)) (sideS (offS f q.2.2.1)) with h | h | h <;> rw [h] <;> rcases hs with h' | h' <;> rw [h'] <;> decide
  · exact ⟨0, (Int32.add_zero _).symm, by decide, by decide⟩
theorem led_rng (P S : Nat) (sg : Nat → Int32) (f : Int32) (T : Nat) : ∃ d : Int32, ledS P S sg f T = f + d ∧ -2 ≤ d.toInt ∧ d.toInt ≤ 2 := by
  unfold ledS
  split
  · exact ⟨0, (Int32.add_zero _).symm, by decide, by decide⟩
  split
  · exact ⟨_, rfl, by_rng _⟩
  · exact ⟨0, (Int32.add_zero _).symm, by decide, by decide⟩
/-- the bounds: field and places -/
def BD (R T : Nat) (f : Int32) (rt : Nat → Rot) : Prop := (-(2 * T : Int) ≤ f.toInt ∧ f.toInt ≤ 2 * T) ∧ ∀ r, r < R → -(30000 + 2 * T : Int) ≤ (rt r).2.2.1.toInt ∧ (rt r).2.2.1.toInt ≤ 30000 + 2 * T
theorem pul_bd {R T : Nat} {f f' : Int32} {rt : Nat → Rot} (h : BD R T f rt) (hT : T < 20000) (hf : ∃ d : Int32, f' = f + d ∧ -2 ≤ d.toInt ∧ d.toInt ≤ 2) : BD R (T + 1) f' (pulR R f' rt) := by
  obtain ⟨d, rfl, d1, d2⟩ := hf
  obtain ⟨h1, h2⟩ := h
  refine ⟨?_, ?_⟩
  · rw [fb_addI (by omega) (by omega)]; omega
  · intro r hr
    have h3 := h2 r hr
    unfold pulR
    rw [if_pos hr]
    obtain ⟨e, he, e1, e2⟩ := fol_rng (f + d) (rt r)
    rw [he, fb_addI (by omega) (by omega)]; omega
theorem go_bd {P S R T : Nat} {sg : Nat → Int32} {f : Int32} {rt : Nat → Rot} (h : BD R T f rt) : ∀ n, T + n < 20000 → BD R (T + n) (goS P S R sg n (f, T, rt)).2.1 (goS P S R sg n (f, T, rt)).2.2.2
  | 0, _ => h
  | n + 1, hn => by
    have ih := go_bd (P := P) (S := S) (sg := sg) h n (by omega)
    exact pul_bd (T := T + n) ih (by omega) (led_rng _ _ _ _ _)
theorem NB_sg {f : Int32} {T P S R : Nat} {sg sg' : Nat → Int32} {rt : Nat → Rot} {b : Nat → Int32} (h : NB f T P S R sg rt b) (e : ∀ i, i < S → sg' i = sg i) : NB f T P S R sg' rt b :=
  ⟨h.1, fun i hi => (h.2.1 i hi).trans (e i hi).symm, h.2.2⟩
/-- grips stay -/
theorem go_grip {P S R T : Nat} {sg : Nat → Int32} {f : Int32} {rt : Nat → Rot} {r : Nat} : ∀ n, ((goS P S R sg n (f, T, rt)).2.2.2 r).2.1 = (rt r).2.1
  | 0 => rfl
  | n + 1 => by
    have ih := go_grip (P := P) (S := S) (R := R) (T := T) (sg := sg) (f := f) (rt := rt) (r := r) n
    show (pulR R _ _ r).2.1 = _
    unfold pulR
    split
    · rw [folS_grip]; exact ih
    · exact ih
theorem p_ticks : P_ticks := by
  intro rf len fl by_ f t p sn rn sg rt n to wh le k0 f0 t0 p0 sn0 rn0 sg0 rt0 n0 to0 wh0 le0 k1 f1 t1 p1 sn1 rn1 sg1 rt1 n1 to1 wh1 le1 sh tp mf m_moved m_slipTicks tn st m_now kp ta la si ce hRel x1
  have hRel0 := hRel
  obtain ⟨h1, hT, hB, hI0, hI1, hSh⟩ := hRel
  obtain ⟨T, P, S, R, N, ⟨zT, zP1, zP2, zS, zR, zN⟩, ⟨rfl, rfl, rfl, rfl, rfl⟩, ⟨b0, b17, b18, b19, b36, b37⟩, bs, br, bn, bf⟩ := hB
  have hNB : NB f T P S R sg rt st := ⟨⟨b0, b17, b18, b19, b36⟩, fun i hi => (bs i hi).1, fun r hr => (br r hr).1⟩
  have hk : kOk R rt := fun r hr => (br r hr).2.1
  have hs : sOk S sg := fun i hi => (bs i hi).2
  unfold F_X6_ticks F_X7_ticks
  rcases rng_cases x1 100 (by decide) with ⟨k, hk1, rfl, e1, e2⟩ | ⟨e1, e2⟩
  · have e1 : F_X6_within (nI k) 100 = some 1 := e1
    have e2 : F_X7_in (nI k).toInt64 0 100 = some 1 := e2
    rw [e1, e2]
    simp only [Option.bind_some, if_neg i10, chk_pos (show inb (19 : Int32) 168 by decide), show (19 : Int32).toNatClampNeg = 19 from rfl, b19]
    rw [nI_add]
    by_cases c : T + k < 10000
    · have c1 : nI (T + k) < (10000 : Int32) := nI_lt (b := 10000) c (by decide)
      have c2 : nI (T + k) ≤ (9999 : Int32) := nI_le (b := 9999) (by omega) (by decide)
      rw [if_pos c1, if_pos c2, go_eq zP1 zP2 zS zR (by omega) (by omega)]
      obtain ⟨nw, e0, en⟩ := takesAllM m_moved m_slipTicks st m_now
      obtain ⟨nw2, e4, hN2, en2⟩ := ticksGoM (NB_cong hNB zS zR (fun j hj => en j (by omega))) zP1 zP2 zS zR (n := k) (by omega) (by omega) hs hk 0 0
      obtain ⟨st', e5, es1, es2⟩ := settlesM st nw2
      simp only [e0, Option.bind_some, e4, e5]
      rw [Int32.zero_add]
      have hN3 := NB_cong hN2 zS zR (fun j hj => es1 j (by omega))
      have o : ∀ j, 37 ≤ j → st' j = st j := fun j hj => by
        by_cases cj : j < 56
        · rw [es1 j cj, en2 j hj, en j cj]
        · exact es2 j (by omega)
      have hbd := go_bd (P := P) (S := S) (sg := sg) (show BD R T f rt from ⟨bf, fun r hr => (br r hr).2.2.2⟩) k (by omega)
      have hk3 := kOk_go (P := P) (S := S) (R := R) (sg := sg) (s := (f, T, rt)) hk k
      refine ⟨_, _, _, _, _, _, _, _, rfl, rfl, h1, hT, ⟨T + k, P, S, R, N, ⟨c, zP1, zP2, zS, zR, zN⟩, ⟨rfl, rfl, rfl, rfl, rfl⟩, ⟨hN3.1.1, hN3.1.2.1, hN3.1.2.2.1, hN3.1.2.2.2.1, hN3.1.2.2.2.2, (o 37 (by omega)).trans b37⟩, fun i hi => ⟨hN3.2.1 i hi, (bs i hi).2⟩, ?_, fun i hi => ⟨⟨(o _ (by omega)).trans (bn i hi).1.1, (o _ (by omega)).trans (bn i hi).1.2.1, (o _ (by omega)).trans (bn i hi).1.2.2⟩, (bn i hi).2⟩, hbd.1⟩, RI_st hI0 (by omega) es2, RI_st hI1 (by omega) es2, hSh⟩
      intro r hr
      refine ⟨hN3.2.2 r hr, hk3 r hr, ?_, hbd.2 r hr⟩
      rw [go_grip]; exact (br r hr).2.2.1
    · have c1 : ¬ nI (T + k) < (10000 : Int32) := by rw [show (10000 : Int32) = nI 10000 from rfl, nI_ltI (by omega) (by decide)]; exact c
      have c2 : ¬ nI (T + k) ≤ (9999 : Int32) := by rw [show (9999 : Int32) = nI 9999 from rfl, nI_leI (by omega) (by decide)]; omega
      rw [if_neg c1, if_neg c2]
      exact ⟨_, _, _, _, _, _, _, _, rfl, rfl, hRel0⟩
  · have e1 : F_X6_within x1 100 = some 0 := e1
    have e2 : F_X7_in x1.toInt64 0 100 = some 0 := e2
    rw [e1, e2]
    exact ⟨_, _, _, _, _, _, _, _, rfl, rfl, hRel0⟩
