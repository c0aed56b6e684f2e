/-! images: copies of a drive with its sights, and of blocks of 56 -/
theorem copyC_loop {f t p sn : Int32} {R : Nat} {sg : Nat → Int32} {f2 t2 p2 sn2 : Int32} {rn2 : Int32} {sg2 : Nat → Int32} {rt2 : Nat → Rot} (hR : R ≤ 4) : ∀ (fu i : Nat) (rt : Nat → Rot), i ≤ R → R - i < fu → (∀ r, r < i → rt r = rt2 r) →
    ∃ rt', F_X0_copyFrom_57 fu f t p sn (nI R) sg rt f2 t2 p2 sn2 rn2 sg2 rt2 (nI i) = some (f, t, p, sn, nI R, sg, rt') ∧ ∀ r, r < R → rt' r = rt2 r := by
  intro fu
  induction fu with
  | zero => intro i rt h1 h2; omega
  | succ fu ih =>
    intro i rt h1 h2 h3
    unfold F_X0_copyFrom_57
    by_cases hc : R ≤ i
    · have e : i = R := by omega
      subst e
      rw [if_pos (nI_le (Nat.le_refl _) (by omega))]
      exact ⟨_, rfl, h3⟩
    · rw [if_neg (nI_ge (by omega) (by omega)), chk_pos (inb_nI (by omega) (by decide)), chk_pos (inb_nI (by omega) (by decide)), cl_nI (by omega)]
      unfold F_X2_copyFrom
      simp only [Option.bind_some]
      rw [nI_1]
      refine ih (i + 1) _ (by omega) (by omega) ?_
      intro r hr
      by_cases c : r = i
      · subst c; rw [up_self]
      · rw [up_ne _ _ c]; exact h3 r (by omega)
theorem copyC {R : Nat} (hR : R ≤ 4) (f t p sn rn : Int32) (sg : Nat → Int32) (rt : Nat → Rot) (f2 t2 p2 sn2 : Int32) (sg2 : Nat → Int32) (rt2 : Nat → Rot) :
    ∃ sg' rt', F_X0_copyFrom f t p sn rn sg rt f2 t2 p2 sn2 (nI R) sg2 rt2 = some (f2, t2, p2, sn2, nI R, sg', rt') ∧ (∀ i, i < 16 → sg' i = sg2 i) ∧ ∀ r, r < R → rt' r = rt2 r := by
  obtain ⟨rt', h, h'⟩ := copyC_loop (f := f2) (t := t2) (p := p2) (sn := sn2) (sg := va_cpy sg2 sg (0 : Int32).toNatClampNeg (0 : Int32).toNatClampNeg (16 : Int32).toNatClampNeg) (f2 := f2) (t2 := t2) (p2 := p2) (sn2 := sn2) (rn2 := nI R) (sg2 := sg2) (rt2 := rt2) hR FU 0 rt (by omega) (by unfold FU; omega) (fun r h => absurd h (by omega))
  refine ⟨_, rt', h, ?_, h'⟩
  intro i hi
  show va_cpy sg2 sg 0 0 16 i = _
  unfold va_cpy
  rw [if_pos ⟨by omega, by omega⟩]
  congr 1; omega
theorem cpy6 (a b : Nat → Int32) {i : Nat} (hi : i < 6) : va_cpy a b (0 : Int32).toNatClampNeg (0 : Int32).toNatClampNeg (6 : Int32).toNatClampNeg i = a i := by
  show va_cpy a b 0 0 6 i = _
  unfold va_cpy
  rw [if_pos ⟨by omega, by omega⟩]
  congr 1; omega
theorem copyRB {f t p sn rn n : Int32} {sg to wh le b b' : Nat → Int32} {rt : Nat → Rot} (h : RB f t p sn rn sg rt n to wh le b) (hb : ∀ j, j < 56 → b' j = b j) (fo to' po sno rno no : Int32) (sgo too who leo : Nat → Int32) (rto : Nat → Rot) :
    ∃ sg' rt', F_X0_copyFrom fo to' po sno rno sgo rto f t p sn rn sg rt = some (f, t, p, sn, rn, sg', rt') ∧ ∃ to2 wh2 le2, F_X4_copyFrom no too who leo n to wh le = some (n, to2, wh2, le2) ∧ RB f t p sn rn sg' rt' n to2 wh2 le2 b' := by
  obtain ⟨T, P, S, R, N, ⟨zT, zP1, zP2, zS, zR, zN⟩, ⟨rfl, rfl, rfl, rfl, rfl⟩, ⟨b0, b17, b18, b19, b36, b37⟩, bs, br, bn, bf⟩ := h
  obtain ⟨sg', rt', h1, h2, h3⟩ := copyC zR fo to' po sno rno sgo rto f (nI T) (nI P) (nI S) sg rt
  refine ⟨sg', rt', h1, _, _, _, rfl, T, P, S, R, N, ⟨zT, zP1, zP2, zS, zR, zN⟩, ⟨rfl, rfl, rfl, rfl, rfl⟩, ⟨(hb 0 (by omega)).trans b0, (hb _ (by omega)).trans b17, (hb _ (by omega)).trans b18, (hb _ (by omega)).trans b19, (hb _ (by omega)).trans b36, (hb _ (by omega)).trans b37⟩, ?_, ?_, ?_, bf⟩
  · intro i hi
    rw [hb _ (by omega), h2 i (by omega)]; exact bs i hi
  · intro r hr
    rw [hb _ (by omega), hb _ (by omega), hb _ (by omega), hb _ (by omega), h3 r hr]; exact br r hr
  · intro i hi
    rw [hb _ (by omega), hb _ (by omega), hb _ (by omega), cpy6 _ _ (by omega), cpy6 _ _ (by omega), cpy6 _ _ (by omega)]; exact bn i hi
/-- n numbers from d laid at c -/
def cpB (st : Nat → Int32) (c d n : Nat) : Nat → Int32 := fun j => if c ≤ j ∧ j < c + n then st (d + (j - c)) else st j
theorem copies_loop {c d : Nat} {st : Nat → Int32} (hc : c ≤ 112) (hd : d ≤ 112) (hcd : c + 56 ≤ d ∨ d + 56 ≤ c) : ∀ (fu i : Nat), i ≤ 56 → 56 - i < fu → F_X7_copies_2 fu (cpB st c d i) (nI c) (nI d) (nI i) = some (cpB st c d 56) := by
  intro fu
  induction fu with
  | zero => intro i h1 h2; omega
  | succ fu ih =>
    intro i h1 h2
    unfold F_X7_copies_2
    by_cases hi : 56 ≤ i
    · have e : i = 56 := by omega
      subst e
      rw [if_pos (show (56 : Int32) ≤ nI 56 by decide)]
    · rw [if_neg (show ¬ (56 : Int32) ≤ nI i from nI_ge (b := 56) (by omega) (by omega)), nI_add, nI_add, chk_pos (inb_nI (by omega) (by decide)), chk_pos (inb_nI (by omega) (by decide)), cl_nI (by omega), cl_nI (by omega), nI_1]
      have e : upd (cpB st c d i) (c + i) (cpB st c d i (d + i)) = cpB st c d (i + 1) := by
        funext j
        have e1 : cpB st c d i (d + i) = st (d + i) := by unfold cpB; rw [if_neg (by omega)]
        rw [e1]
        by_cases cj : j = c + i
        · subst cj
          rw [upd_at]; unfold cpB; rw [if_pos ⟨by omega, by omega⟩]; congr 1; omega
        · rw [upd_off _ _ cj]; unfold cpB
          by_cases ck : c ≤ j ∧ j < c + i
          · rw [if_pos ck, if_pos ⟨by omega, by omega⟩]
          · rw [if_neg ck, if_neg (by omega)]
      rw [e]
      exact ih (i + 1) (by omega) (by omega)
theorem copies_eq {c d : Nat} (st : Nat → Int32) (hc : c ≤ 112) (hd : d ≤ 112) (hcd : c + 56 ≤ d ∨ d + 56 ≤ c) : F_X7_copies st (nI c) (nI d) = some (cpB st c d 56) := by
  have h := copies_loop (st := st) hc hd hcd FU 0 (by omega) (by unfold FU; omega)
  have e : cpB st c d 0 = st := by funext j; unfold cpB; rw [if_neg (by omega)]
  rw [e] at h; exact h
theorem p_keep : P_keep := by
  intro rf len fl by_ f t p sn rn sg rt n to wh le k0 f0 t0 p0 sn0 rn0 sg0 rt0 n0 to0 wh0 le0 k1 f1 t1 p1 sn1 rn1 sg1 rt1 n1 to1 wh1 le1 sh tp mf tn st kp ta la si ce hRel x1
  have hRel0 := hRel
  obtain ⟨h1, hT, hB, hI0, hI1, hSh⟩ := hRel
  unfold F_X6_keep F_X7_keep
  rcases rng_cases x1 1 (by decide) with ⟨k, hk, rfl, e1, e2⟩ | ⟨e1, e2⟩
  · have e1 : F_X6_within (nI k) 1 = some 1 := e1
    have e2 : F_X7_in (nI k).toInt64 0 1 = some 1 := e2
    have hk0 := hI0.1
    have hk1 := hI1.1
    rw [e1, e2]
    simp only [Option.bind_some, if_neg i10, chk_pos (inb_nI (n := k) (N := 2) (by omega) (by decide)), cl_nI (n := k) (by omega)]
    rcases (show k = 0 ∨ k = 1 by omega) with rfl | rfl
    · obtain ⟨sg', rt', c1, to2, wh2, le2, c2, hN⟩ := copyRB hB (b' := fun j => cpB st 56 0 56 (56 + j)) (fun j hj => by show cpB st 56 0 56 (56 + j) = _; unfold cpB; rw [if_pos ⟨by omega, by omega⟩]; congr 1; omega) f0 t0 p0 sn0 rn0 n0 sg0 to0 wh0 le0 rt0
      rw [c1, c2, show (56 : Int32) * (nI 0 + 1) = nI 56 from rfl, show F_X7_copies st (nI 56) 0 = some (cpB st 56 0 56) from copies_eq (c := 56) (d := 0) st (by omega) (by omega) (by omega)]
      simp only [Option.bind_some, if_pos (show nI 0 = 0 from rfl), hk0]
      have hB' : RB f t p sn rn sg rt n to wh le (cpB st 56 0 56) := by
        obtain ⟨T, P, S, R, N, ⟨zT, zP1, zP2, zS, zR, zN⟩, ⟨rfl, rfl, rfl, rfl, rfl⟩, ⟨b0, b17, b18, b19, b36, b37⟩, bs, br, bn, bf⟩ := hB
        have o : ∀ j, j < 56 → cpB st 56 0 56 j = st j := fun j h => by unfold cpB; rw [if_neg (by omega)]
        exact ⟨T, P, S, R, N, ⟨zT, zP1, zP2, zS, zR, zN⟩, ⟨rfl, rfl, rfl, rfl, rfl⟩, ⟨(o 0 (by omega)).trans b0, (o 17 (by omega)).trans b17, (o 18 (by omega)).trans b18, (o 19 (by omega)).trans b19, (o 36 (by omega)).trans b36, (o 37 (by omega)).trans b37⟩, fun i hi => ⟨(o _ (by omega)).trans (bs i hi).1, (bs i hi).2⟩, fun r hr => ⟨⟨(o _ (by omega)).trans (br r hr).1.1, (o _ (by omega)).trans (br r hr).1.2.1, (o _ (by omega)).trans (br r hr).1.2.2.1, (o _ (by omega)).trans (br r hr).1.2.2.2⟩, (br r hr).2⟩, fun i hi => ⟨⟨(o _ (by omega)).trans (bn i hi).1.1, (o _ (by omega)).trans (bn i hi).1.2.1, (o _ (by omega)).trans (bn i hi).1.2.2⟩, (bn i hi).2⟩, bf⟩
      have hI1' : RI k1 f1 t1 p1 sn1 rn1 sg1 rt1 n1 to1 wh1 le1 (upd kp 0 1 1) (fun j => cpB st 56 0 56 (112 + j)) := by
        have : (fun j => cpB st 56 0 56 (112 + j)) = fun j => st (112 + j) := funext fun j => by show cpB st 56 0 56 (112 + j) = _; unfold cpB; rw [if_neg (by omega)]
        rw [this]; exact hI1
      rcases hI0.2 with c | ⟨c, _⟩
      · subst c
        rw [if_pos rfl, show F_X7_flag 0 = some 0 from rfl]
        exact ⟨_, _, _, _, _, _, _, _, _, _, _, _, _, _, _, _, _, _, _, _, _, _, _, _, _, _, _, rfl, rfl, h1, hT, hB', ⟨rfl, Or.inr ⟨rfl, hN⟩⟩, hI1', hSh⟩
      · subst c
        rw [if_neg i10, show F_X7_flag 1 = some 1 from rfl]
        exact ⟨_, _, _, _, _, _, _, _, _, _, _, _, _, _, _, _, _, _, _, _, _, _, _, _, _, _, _, rfl, rfl, h1, hT, hB', ⟨rfl, Or.inr ⟨rfl, hN⟩⟩, hI1', hSh⟩
    · obtain ⟨sg', rt', c1, to2, wh2, le2, c2, hN⟩ := copyRB hB (b' := fun j => cpB st 112 0 56 (112 + j)) (fun j hj => by show cpB st 112 0 56 (112 + j) = _; unfold cpB; rw [if_pos ⟨by omega, by omega⟩]; congr 1; omega) f1 t1 p1 sn1 rn1 n1 sg1 to1 wh1 le1 rt1
      rw [c1, c2, show (56 : Int32) * (nI 1 + 1) = nI 112 from rfl, show F_X7_copies st (nI 112) 0 = some (cpB st 112 0 56) from copies_eq (c := 112) (d := 0) st (by omega) (by omega) (by omega)]
      simp only [Option.bind_some, if_neg (show ¬ nI 1 = 0 by decide), chk_pos (show nI 1 = 1 from rfl), hk1]
      have hB' : RB f t p sn rn sg rt n to wh le (cpB st 112 0 56) := by
        obtain ⟨T, P, S, R, N, ⟨zT, zP1, zP2, zS, zR, zN⟩, ⟨rfl, rfl, rfl, rfl, rfl⟩, ⟨b0, b17, b18, b19, b36, b37⟩, bs, br, bn, bf⟩ := hB
        have o : ∀ j, j < 56 → cpB st 112 0 56 j = st j := fun j h => by unfold cpB; rw [if_neg (by omega)]
        exact ⟨T, P, S, R, N, ⟨zT, zP1, zP2, zS, zR, zN⟩, ⟨rfl, rfl, rfl, rfl, rfl⟩, ⟨(o 0 (by omega)).trans b0, (o 17 (by omega)).trans b17, (o 18 (by omega)).trans b18, (o 19 (by omega)).trans b19, (o 36 (by omega)).trans b36, (o 37 (by omega)).trans b37⟩, fun i hi => ⟨(o _ (by omega)).trans (bs i hi).1, (bs i hi).2⟩, fun r hr => ⟨⟨(o _ (by omega)).trans (br r hr).1.1, (o _ (by omega)).trans (br r hr).1.2.1, (o _ (by omega)).trans (br r hr).1.2.2.1, (o _ (by omega)).trans (br r hr).1.2.2.2⟩, (br r hr).2⟩, fun i hi => ⟨⟨(o _ (by omega)).trans (bn i hi).1.1, (o _ (by omega)).trans (bn i hi).1.2.1, (o _ (by omega)).trans (bn i hi).1.2.2⟩, (bn i hi).2⟩, bf⟩
      have hI0' : RI k0 f0 t0 p0 sn0 rn0 sg0 rt0 n0 to0 wh0 le0 (upd kp 1 1 0) (fun j => cpB st 112 0 56 (56 + j)) := by
        obtain ⟨i1, i2⟩ := hI0
        refine ⟨i1, ?_⟩
        rcases i2 with c | ⟨c, g⟩
        · exact Or.inl c
        · refine Or.inr ⟨c, ?_⟩
          obtain ⟨T, P, S, R, N, ⟨zT, zP1, zP2, zS, zR, zN⟩, ⟨rfl, rfl, rfl, rfl, rfl⟩, ⟨b0, b17, b18, b19, b36, b37⟩, bs, br, bn, bf⟩ := g
          have o : ∀ j, j < 56 → cpB st 112 0 56 (56 + j) = st (56 + j) := fun j h => by unfold cpB; rw [if_neg (by omega)]
          exact ⟨T, P, S, R, N, ⟨zT, zP1, zP2, zS, zR, zN⟩, ⟨rfl, rfl, rfl, rfl, rfl⟩, ⟨(o 0 (by omega)).trans b0, (o 17 (by omega)).trans b17, (o 18 (by omega)).trans b18, (o 19 (by omega)).trans b19, (o 36 (by omega)).trans b36, (o 37 (by omega)).trans b37⟩, fun i hi => ⟨(o _ (by omega)).trans (bs i hi).1, (bs i hi).2⟩, fun r hr => ⟨⟨(o _ (by omega)).trans (br r hr).1.1, (o _ (by omega)).trans (br r hr).1.2.1, (o _ (by omega)).trans (br r hr).1.2.2.1, (o _ (by omega)).trans (br r hr).1.2.2.2⟩, (br r hr).2⟩, fun i hi => ⟨⟨(o _ (by omega)).trans (bn i hi).1.1, (o _ (by omega)).trans (bn i hi).1.2.1, (o _ (by omega)).trans (bn i hi).1.2.2⟩, (bn i hi).2⟩, bf⟩
      rcases hI1.2 with c | ⟨c, _⟩
      · subst c
        rw [if_pos rfl, show F_X7_flag 0 = some 0 from rfl]
        exact ⟨_, _, _, _, _, _, _, _, _, _, _, _, _, _, _, _, _, _, _, _, _, _, _, _, _, _, _, rfl, rfl, h1, hT, hB', hI0', ⟨rfl, Or.inr ⟨rfl, hN⟩⟩, hSh⟩
      · subst c
        rw [if_neg i10, show F_X7_flag 1 = some 1 from rfl]
        exact ⟨_, _, _, _, _, _, _, _, _, _, _, _, _, _, _, _, _, _, _, _, _, _, _, _, _, _, _, rfl, rfl, h1, hT, hB', hI0', ⟨rfl, Or.inr ⟨rfl, hN⟩⟩, hSh⟩
  · have e1 : F_X6_within x1 1 = some 0 := e1
    have e2 : F_X7_in x1.toInt64 0 1 = some 0 := e2
    rw [e1, e2]
    exact ⟨_, _, _, _, _, _, _, _, _, _, _, _, _, _, _, _, _, _, _, _, _, _, _, _, _, _, _, rfl, rfl, hRel0⟩
theorem RI_back {k f t p sn rn n mk : Int32} {sg to wh le st : Nat → Int32} {rt : Nat → Rot} {o d : Nat} (h : RI k f t p sn rn sg rt n to wh le mk (fun j => st (o + j))) (ho : 56 ≤ o) : RI k f t p sn rn sg rt n to wh le mk (fun j => cpB st 0 d 56 (o + j)) := by
  have : (fun j => cpB st 0 d 56 (o + j)) = fun j => st (o + j) := funext fun j => by show cpB st 0 d 56 (o + j) = _; unfold cpB; rw [if_neg (by omega)]
  rw [this]; exact h
theorem p_back : P_back := by
  intro rf len fl by_ f t p sn rn sg rt n to wh le k0 f0 t0 p0 sn0 rn0 sg0 rt0 n0 to0 wh0 le0 k1 f1 t1 p1 sn1 rn1 sg1 rt1 n1 to1 wh1 le1 sh tp mf tn st kp ta la si ce hRel x1
  have hRel0 := hRel
  obtain ⟨h1, hT, hB, hI0, hI1, hSh⟩ := hRel
  unfold F_X6_back F_X7_back
  rcases rng_cases x1 1 (by decide) with ⟨k, hk, rfl, e1, e2⟩ | ⟨e1, e2⟩
  · have e1 : F_X6_within (nI k) 1 = some 1 := e1
    have e2 : F_X7_in (nI k).toInt64 0 1 = some 1 := e2
    have hk0 := hI0.1
    have hk1 := hI1.1
    rw [e1, e2]
    simp only [Option.bind_some, if_neg i10, chk_pos (inb_nI (n := k) (N := 2) (by omega) (by decide)), cl_nI (n := k) (by omega)]
    rcases (show k = 0 ∨ k = 1 by omega) with rfl | rfl
    · rw [if_pos (show nI 0 = 0 from rfl), hk0]
      rcases hI0.2 with c | ⟨c, g⟩
      · subst c
        rw [if_pos rfl, if_pos rfl]
        exact ⟨_, _, _, _, _, _, _, _, _, _, _, _, _, rfl, rfl, hRel0⟩
      · subst c
        rw [if_neg i10, if_neg i10]
        obtain ⟨sg', rt', c1, to2, wh2, le2, c2, hN⟩ := copyRB g (b' := cpB st 0 56 56) (fun j hj => by unfold cpB; rw [if_pos ⟨by omega, by omega⟩]; congr 1) f t p sn rn n sg to wh le rt
        rw [c1, c2, show (56 : Int32) * (nI 0 + 1) = nI 56 from rfl, show F_X7_copies st 0 (nI 56) = some (cpB st 0 56 56) from copies_eq (c := 0) (d := 56) st (by omega) (by omega) (by omega)]
        simp only [Option.bind_some, chk_pos (show inb (19 : Int32) 168 by decide), show (19 : Int32).toNatClampNeg = 19 from rfl]
        obtain ⟨T, P, S, R, N, z1, ⟨z2, z3⟩, ⟨b0, b17, b18, b19, b36, b37⟩, z4⟩ := hN
        rw [b19, ← z2]
        exact ⟨_, _, _, _, _, _, _, _, _, _, _, _, _, rfl, rfl, h1, hT, ⟨T, P, S, R, N, z1, ⟨z2, z3⟩, ⟨b0, b17, b18, b19, b36, b37⟩, z4⟩, RI_back hI0 (by omega), RI_back hI1 (by omega), hSh⟩
    · rw [if_neg (show ¬ nI 1 = 0 by decide), chk_pos (show nI 1 = 1 from rfl), hk1]
      rcases hI1.2 with c | ⟨c, g⟩
      · subst c
        rw [if_pos rfl, if_pos rfl]
        exact ⟨_, _, _, _, _, _, _, _, _, _, _, _, _, rfl, rfl, hRel0⟩
      · subst c
        rw [if_neg i10, if_neg i10]
        obtain ⟨sg', rt', c1, to2, wh2, le2, c2, hN⟩ := copyRB g (b' := cpB st 0 112 56) (fun j hj => by unfold cpB; rw [if_pos ⟨by omega, by omega⟩]; congr 1) f t p sn rn n sg to wh le rt
        rw [c1, c2, show (56 : Int32) * (nI 1 + 1) = nI 112 from rfl, show F_X7_copies st 0 (nI 112) = some (cpB st 0 112 56) from copies_eq (c := 0) (d := 112) st (by omega) (by omega) (by omega)]
        simp only [Option.bind_some, chk_pos (show inb (19 : Int32) 168 by decide), show (19 : Int32).toNatClampNeg = 19 from rfl]
        obtain ⟨T, P, S, R, N, z1, ⟨z2, z3⟩, ⟨b0, b17, b18, b19, b36, b37⟩, z4⟩ := hN
        rw [b19, ← z2]
        exact ⟨_, _, _, _, _, _, _, _, _, _, _, _, _, rfl, rfl, h1, hT, ⟨T, P, S, R, N, z1, ⟨z2, z3⟩, ⟨b0, b17, b18, b19, b36, b37⟩, z4⟩, RI_back hI0 (by omega), RI_back hI1 (by omega), hSh⟩
  · have e1 : F_X6_within x1 1 = some 0 := e1
    have e2 : F_X7_in x1.toInt64 0 1 = some 0 := e2
    rw [e1, e2]
    exact ⟨_, _, _, _, _, _, _, _, _, _, _, _, _, rfl, rfl, hRel0⟩
