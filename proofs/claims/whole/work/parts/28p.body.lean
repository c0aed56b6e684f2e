/-! text: what is told in a line -/
def DR (P S R : Nat) (sg : Nat → Int32) (rt : Nat → Rot) (d : Nat → Int32) : Prop :=
  (1 ≤ P ∧ P ≤ 9 ∧ S ≤ 16 ∧ R ≤ 4) ∧ (d 0 = 0 ∧ d 17 = nI S ∧ d 18 = nI P ∧ d 19 = 0 ∧ d 36 = nI R ∧ d 37 = 0) ∧ (∀ i, i < S → d (1 + i) = sg i ∧ ∃ v, v < 4 ∧ sg i = nI v) ∧
  (∀ r, r < R → ∃ a b c, a < 4 ∧ b < 4 ∧ c < 8 ∧ rt r = (nI a, nI b, nI c, 0) ∧ d (20 + 4 * r) = nI a ∧ d (20 + 4 * r + 1) = nI b ∧ d (20 + 4 * r + 2) = nI c) ∧ ∀ r, r < 4 → d (20 + 4 * r + 3) = 0
theorem DR_sign {P R i m : Nat} {sg d : Nat → Int32} {rt : Nat → Rot} (h : DR P i R sg rt d) (hi : i < 16) (hm : m < 4) : DR P (i + 1) R (upd sg i (nI m)) rt (upd (upd d (1 + i) (nI m)) 17 (nI (i + 1))) := by
  obtain ⟨⟨p1, p2, p3, p4⟩, ⟨a0, a17, a18, a19, a36, a37⟩, hs, hr, hw⟩ := h
  have o : ∀ j, j ≠ 1 + i → j ≠ 17 → upd (upd d (1 + i) (nI m)) 17 (nI (i + 1)) j = d j := fun j h1 h2 => by rw [upd_off _ _ h2, upd_off _ _ h1]
  refine ⟨⟨p1, p2, by omega, p4⟩, ⟨(o 0 (by omega) (by omega)).trans a0, upd_at _ _ _, (o 18 (by omega) (by omega)).trans a18, (o 19 (by omega) (by omega)).trans a19, (o 36 (by omega) (by omega)).trans a36, (o 37 (by omega) (by omega)).trans a37⟩, ?_, ?_, ?_⟩
  · intro q hq
    by_cases c : q = i
    · subst c
      rw [upd_at, upd_off _ _ (by omega), upd_at]
      exact ⟨rfl, m, hm, rfl⟩
    · rw [upd_off sg _ c, o _ (by omega) (by omega)]
      exact hs q (by omega)
  · intro r hr'
    obtain ⟨a, b, c, h1, h2, h3, h4, h5, h6, h7⟩ := hr r hr'
    exact ⟨a, b, c, h1, h2, h3, h4, (o _ (by omega) (by omega)).trans h5, (o _ (by omega) (by omega)).trans h6, (o _ (by omega) (by omega)).trans h7⟩
  · intro r hr'
    exact (o _ (by omega) (by omega)).trans (hw r hr')
theorem DR_pace {P S R v : Nat} {sg d : Nat → Int32} {rt : Nat → Rot} (h : DR P S R sg rt d) (h1 : 1 ≤ v) (h2 : v ≤ 9) : DR v S R sg rt (upd d 18 (nI v)) := by
  obtain ⟨⟨p1, p2, p3, p4⟩, ⟨a0, a17, a18, a19, a36, a37⟩, hs, hr, hw⟩ := h
  have o : ∀ j, j ≠ 18 → upd d 18 (nI v) j = d j := fun j h => upd_off _ _ h
  refine ⟨⟨h1, h2, p3, p4⟩, ⟨(o 0 (by omega)).trans a0, (o 17 (by omega)).trans a17, upd_at _ _ _, (o 19 (by omega)).trans a19, (o 36 (by omega)).trans a36, (o 37 (by omega)).trans a37⟩, fun i hi => ⟨(o _ (by omega)).trans (hs i hi).1, (hs i hi).2⟩, ?_, fun r hr' => (o _ (by omega)).trans (hw r hr')⟩
  intro r hr'
  obtain ⟨a, b, c, h1, h2, h3, h4, h5, h6, h7⟩ := hr r hr'
  exact ⟨a, b, c, h1, h2, h3, h4, (o _ (by omega)).trans h5, (o _ (by omega)).trans h6, (o _ (by omega)).trans h7⟩
theorem DR_rot {P S R a b c : Nat} {sg d : Nat → Int32} {rt : Nat → Rot} (h : DR P S R sg rt d) (hR : R < 4) (ha : a < 4) (hb : b < 4) (hc : c < 8) : DR P S (R + 1) sg (up rt R (nI a, nI b, nI c, 0)) (upd (upd (upd (upd d (20 + 4 * R + 0) (nI a)) (20 + 4 * R + 1) (nI b)) (20 + 4 * R + 2) (nI c)) 36 (nI (R + 1))) := by
  obtain ⟨⟨p1, p2, p3, p4⟩, ⟨a0, a17, a18, a19, a36, a37⟩, hs, hr, hw⟩ := h
  have o : ∀ j, j ≠ 36 → j ≠ 20 + 4 * R → j ≠ 20 + 4 * R + 1 → j ≠ 20 + 4 * R + 2 → upd (upd (upd (upd d (20 + 4 * R + 0) (nI a)) (20 + 4 * R + 1) (nI b)) (20 + 4 * R + 2) (nI c)) 36 (nI (R + 1)) j = d j := fun j h1 h2 h3 h4 => by rw [upd_off _ _ h1, upd_off _ _ h4, upd_off _ _ h3, upd_off _ _ (by omega)]
  refine ⟨⟨p1, p2, p3, by omega⟩, ⟨(o 0 (by omega) (by omega) (by omega) (by omega)).trans a0, (o 17 (by omega) (by omega) (by omega) (by omega)).trans a17, (o 18 (by omega) (by omega) (by omega) (by omega)).trans a18, (o 19 (by omega) (by omega) (by omega) (by omega)).trans a19, upd_at _ _ _, (o 37 (by omega) (by omega) (by omega) (by omega)).trans a37⟩, fun i hi => ⟨(o _ (by omega) (by omega) (by omega) (by omega)).trans (hs i hi).1, (hs i hi).2⟩, ?_, fun r hr' => (o _ (by omega) (by omega) (by omega) (by omega)).trans (hw r hr')⟩
  intro r hr'
  by_cases q : r = R
  · subst q
    refine ⟨a, b, c, ha, hb, hc, up_self _ _ _, ?_, ?_, ?_⟩
    · rw [upd_off _ _ (by omega), upd_off _ _ (by omega), upd_off _ _ (by omega)]; exact upd_at _ _ _
    · rw [upd_off _ _ (by omega), upd_off _ _ (by omega), upd_at]
    · rw [upd_off _ _ (by omega), upd_at]
  · obtain ⟨a', b', c', h1, h2, h3, h4, h5, h6, h7⟩ := hr r (by omega)
    exact ⟨a', b', c', h1, h2, h3, (up_ne _ _ q).trans h4, (o _ (by omega) (by omega) (by omega) (by omega)).trans h5, (o _ (by omega) (by omega) (by omega) (by omega)).trans h6, (o _ (by omega) (by omega) (by omega) (by omega)).trans h7⟩
/-- the reference's line behind its name -/
def bodyM (hs he tp pos bg so vl fl wr : Int32) (d ta : Nat → Int32) (x1 : Int32) : Option (Int32 × Int32 × Int32 × Int32 × Int32 × Int32 × Int32 × Int32 × (Nat → Int32)) :=
  if fl ≤ 0 then ((F_X7_readLineOf tp pos bg so vl fl wr d ta x1).bind fun (w10, w11, w12, w13, w14, w15, w16) => tailM hs he tp w10 w11 w12 w13 w14 w15 w16 ta) else some (hs, he, pos, bg, so, vl, fl, wr, d)
section
variable {L : Nat} {by_ ta : Nat → Int32} {B : Nat → Nat}
theorem MS_fl {p : Nat} {pos bg so vl fl wr : Int32} (h : MS L by_ ta p pos bg so vl fl wr) : fl = 0 ∨ (fl = nI 1 ∧ ∃ s, wr = nI s ∧ ∀ cf fp tk st cv : Int32, ∃ a, F_X5_readToken (nI L) cf fp tk st (nI p) cv by_ = some (0, 1, nI s, a)) := by
  obtain ⟨k, s, e, v, ⟨_, hc, _⟩, ⟨_, _, _, _, _, rfl⟩ | ⟨rfl, rfl, rfl⟩⟩ := h
  · exact Or.inl rfl
  · refine Or.inr ⟨rfl, s, rfl, ?_⟩
    intro cf fp tk st cv
    obtain ⟨t', e', v', z⟩ := (hc cf fp tk st cv).2 rfl
    exact ⟨_, z⟩
theorem rotor_step (hB : TB8 L by_ ta B) {p P S R c : Nat} {sg d : Nat → Int32} {rt : Nat → Rot} {pos bg so vl fl wr : Int32} (h : MS L by_ ta p pos bg so vl fl wr) (hd : DR P S R sg rt d) (hR : R < 4) (hc4 : c < 4) :
    (∃ p' rt' d', p < p' ∧ p' ≤ L ∧ DR P S (R + 1) sg rt' d' ∧ (∀ cf fp tk st cv : Int32, ∃ a b v', F_X5_takeRotor (nI L) cf fp tk st (nI p) cv by_ (nI R) rt (nI c) = some (1, cf, fp, a, b, nI p', v', nI (R + 1), rt')) ∧ ∀ hs he : Int32, ∃ pos' bg' so' vl' fl' wr', bodyM hs he (nI L) pos bg so vl fl wr d ta (nI c) = some (hs, he, pos', bg', so', vl', fl', wr', d') ∧ MS L by_ ta p' pos' bg' so' vl' fl' wr') ∨
    (∃ q w, 1 ≤ q ∧ q ≤ 5 ∧ (∀ cf fp tk st cv : Int32, ∃ a, F_X5_takeRotor (nI L) cf fp tk st (nI p) cv by_ (nI R) rt (nI c) = some (0, nI q, nI w, a)) ∧ ∀ hs he : Int32, ∃ pos' bg' so' vl' d', bodyM hs he (nI L) pos bg so vl fl wr d ta (nI c) = some (hs, he, pos', bg', so', vl', nI q, nI w, d')) := by
  have hR' : nI R < 4 := nI_lt (b := 4) hR (by omega)
  have hd36 : d 36 = nI R := hd.2.1.2.2.2.2.1
  have c4 : ¬ nI c = 4 := fun z => by have := (b_eq c (by omega) 4 (by omega)).1 z; omega
  have c5 : ¬ nI c = 5 := fun z => by have := (b_eq c (by omega) 5 (by omega)).1 z; omega
  have ix : ∀ j, (20 : Int32) + 4 * nI R + nI j = nI (20 + 4 * R + j) := fun j => ix_eq R j
  rcases MS_fl h with rfl | ⟨rfl, s, rfl, hz⟩
  · have hz : ∀ (r1 : Option (Int32 × Int32 × Int32 × Int32 × Int32 × Int32 × Int32)), F_X7_readNumber (nI L) pos bg so vl 0 wr ta 0 3 = r1 → F_X7_readLineOf (nI L) pos bg so vl 0 wr d ta (nI c) = r1.bind fun (r22, w23, w24, w25, w26, w27, w28) => (F_X7_readNumber (nI L) w23 w24 w25 w26 w27 w28 ta (0 : Int32) (7 : Int32)).bind fun (r31, w32, w33, w34, w35, w36, w37) => some (w32, w33, w34, w35, w36, w37, upd (upd (upd (upd d (20 + 4 * R + 0) (nI c)) (20 + 4 * R + 1) r22) (20 + 4 * R + 2) r31) 36 (nI (R + 1))) := by
      intro r1 hr1
      unfold F_X7_readLineOf
      simp only [if_neg c4, if_neg c5, show (36 : Int32).toNatClampNeg = 36 from rfl, hd36, show (20 : Int32) + 4 * nI R + 0 = nI (20 + 4 * R + 0) from ix 0, show (20 : Int32) + 4 * nI R + 1 = nI (20 + 4 * R + 1) from ix 1, show (20 : Int32) + 4 * nI R + 2 = nI (20 + 4 * R + 2) from ix 2, chk_pos (show inb (36 : Int32) 56 by decide), chk_pos (inb_nI (n := 20 + 4 * R + 0) (N := 56) (by omega) (by decide)), chk_pos (inb_nI (n := 20 + 4 * R + 1) (N := 56) (by omega) (by decide)), chk_pos (inb_nI (n := 20 + 4 * R + 2) (N := 56) (by omega) (by decide)), cl_nI (n := 20 + 4 * R + 0) (by omega), cl_nI (n := 20 + 4 * R + 1) (by omega), cl_nI (n := 20 + 4 * R + 2) (by omega), hr1]
      have e36 : ∀ x y z : Int32, upd (upd (upd d (20 + 4 * R + 0) x) (20 + 4 * R + 1) y) (20 + 4 * R + 2) z 36 + 1 = nI (R + 1) := by
        intro x y z
        rw [upd_off _ _ (by omega), upd_off _ _ (by omega), upd_off _ _ (by omega), hd36, nI_1]
      simp only [e36]
    rcases num_step hB (lo := 0) (hi := 3) (by omega) (by omega) h with ⟨p1, v1, g1, g2, _, g4, gc, pos1, bg1, so1, vl1, fl1, wr1, gm, gMS⟩ | ⟨q, w, q1, q2, gc, r, pos1, bg1, so1, vl1, gm⟩
    · have gm := hz _ gm
      simp only [ob] at gm
      rcases num_step hB (lo := 0) (hi := 7) (by omega) (by omega) gMS with ⟨p2, v2, k1, k2, _, k4, kc, pos2, bg2, so2, vl2, fl2, wr2, km, kMS⟩ | ⟨q, w, q1, q2, kc, r, pos2, bg2, so2, vl2, km⟩
      · have km : F_X7_readNumber (nI L) pos1 bg1 so1 vl1 fl1 wr1 ta 0 7 = _ := km
        rw [km] at gm
        simp only [ob] at gm
        have hdr := DR_rot (a := c) (b := v1) (c := v2) hd hR hc4 (by omega) (by omega)
        have hcls : ∀ cf fp tk st cv : Int32, ∃ tk' st', F_X5_takeRotor (nI L) cf fp tk st (nI p) cv by_ (nI R) rt (nI c) = (F_X5_takeStop (nI L) cf fp tk' st' (nI p2) (nI v2) by_).bind fun (r23, w24, w25, w26, w27, w28, w29) => chk (isZ r23) <| some (r23, w24, w25, w26, w27, w28, w29, nI (R + 1), up rt R (nI c, nI v1, nI v2, 0)) := by
          intro cf fp tk st cv
          obtain ⟨st1, z1⟩ := gc cf fp tk st cv
          obtain ⟨st2, z2⟩ := kc cf fp 2 st1 (nI v1)
          have z1 : F_X5_takeNumber (nI L) cf fp tk st (nI p) cv by_ 0 3 = _ := z1
          have z2 : F_X5_takeNumber (nI L) cf fp 2 st1 (nI p1) (nI v1) by_ 0 7 = _ := z2
          refine ⟨2, st2, ?_⟩
          unfold F_X5_takeRotor F_X0_addRotor F_X2_become
          rw [if_pos hR', z1]
          simp only [ob]
          rw [if_neg i10, z2]
          simp only [ob]
          rw [if_neg i10, if_neg (show ¬ (4 : Int32) ≤ nI R from nI_ge (b := 4) hR (by omega)), chk_pos (inb_nI (by omega) (by decide)), cl_nI (by omega), nI_1]
          simp only [ob]
        rcases stop_step hB kMS with ⟨p3, l1, l2, lc, lm⟩ | ⟨q, w, q1, q2, lc, lm⟩
        · left
          refine ⟨p3, _, _, by omega, l2, hdr, ?_, ?_⟩
          · intro cf fp tk st cv
            obtain ⟨tk', st', z⟩ := hcls cf fp tk st cv
            obtain ⟨a, b, v', z2⟩ := lc cf fp tk' st' (nI v2)
            rw [z, z2]
            simp only [ob]
            rw [chk_pos (by decide)]
            exact ⟨_, _, _, rfl⟩
          · intro hs he
            unfold bodyM
            rw [if_pos (by decide), gm]
            simp only [ob]
            exact lm hs he _
        · right
          refine ⟨q, w, q1, q2, ?_, ?_⟩
          · intro cf fp tk st cv
            obtain ⟨tk', st', z⟩ := hcls cf fp tk st cv
            obtain ⟨⟨a1, a2, a3, a4⟩, z2⟩ := lc cf fp tk' st' (nI v2)
            rw [z, z2]
            simp only [ob]
            rw [chk_pos (by decide)]
            exact ⟨_, rfl⟩
          · intro hs he
            unfold bodyM
            rw [if_pos (by decide), gm]
            simp only [ob]
            obtain ⟨pos', bg', so', vl', z⟩ := lm hs he (upd (upd (upd (upd d (20 + 4 * R + 0) (nI c)) (20 + 4 * R + 1) (nI v1)) (20 + 4 * R + 2) (nI v2)) 36 (nI (R + 1)))
            exact ⟨pos', bg', so', vl', _, z⟩
      · right
        have km : F_X7_readNumber (nI L) pos1 bg1 so1 vl1 fl1 wr1 ta 0 7 = _ := km
        rw [km] at gm
        simp only [ob] at gm
        refine ⟨q, w, q1, q2, ?_, ?_⟩
        · intro cf fp tk st cv
          obtain ⟨st1, z1⟩ := gc cf fp tk st cv
          obtain ⟨⟨a1, a2, a3, a4⟩, z2⟩ := kc cf fp 2 st1 (nI v1)
          have z1 : F_X5_takeNumber (nI L) cf fp tk st (nI p) cv by_ 0 3 = _ := z1
          have z2 : F_X5_takeNumber (nI L) cf fp 2 st1 (nI p1) (nI v1) by_ 0 7 = _ := z2
          unfold F_X5_takeRotor
          rw [if_pos hR', z1]
          simp only [ob]
          rw [if_neg i10, z2]
          simp only [ob]
          rw [if_pos trivial]
          exact ⟨_, rfl⟩
        · intro hs he
          unfold bodyM
          rw [if_pos (by decide), gm]
          simp only [ob]
          exact ⟨_, _, _, _, _, bad_tail q1 q2 _ _ _ _ _ _ _ _ _ _⟩
    · right
      have gm := hz _ gm
      simp only [ob] at gm
      rw [bad_num q1 q2] at gm
      simp only [ob] at gm
      refine ⟨q, w, q1, q2, ?_, ?_⟩
      · intro cf fp tk st cv
        obtain ⟨⟨a1, a2, a3, a4⟩, z1⟩ := gc cf fp tk st cv
        have z1 : F_X5_takeNumber (nI L) cf fp tk st (nI p) cv by_ 0 3 = _ := z1
        unfold F_X5_takeRotor
        rw [if_pos hR', z1]
        simp only [ob]
        rw [if_pos trivial]
        exact ⟨_, rfl⟩
      · intro hs he
        unfold bodyM
        rw [if_pos (by decide), gm]
        simp only [ob]
        exact ⟨_, _, _, _, _, bad_tail q1 q2 _ _ _ _ _ _ _ _ _ _⟩
  · right
    refine ⟨1, s, by omega, by omega, ?_, ?_⟩
    · intro cf fp tk st cv
      obtain ⟨⟨a1, a2, a3, a4⟩, z⟩ := hz cf fp tk st cv
      unfold F_X5_takeRotor F_X5_takeNumber
      rw [if_pos hR', z]
      simp only [ob]
      rw [if_pos trivial]
      simp only [ob]
      rw [if_pos trivial]
      exact ⟨_, rfl⟩
    · intro hs he
      unfold bodyM
      rw [if_neg (by decide)]
      exact ⟨_, _, _, _, _, rfl⟩
theorem every_step (hB : TB8 L by_ ta B) {p P S R : Nat} {sg d : Nat → Int32} {rt : Nat → Rot} {pos bg so vl fl wr : Int32} (h : MS L by_ ta p pos bg so vl fl wr) (hd : DR P S R sg rt d) :
    (∃ p' P' d', p < p' ∧ p' ≤ L ∧ DR P' S R sg rt d' ∧ (∀ cf fp tk st cv : Int32, ∃ a b v', F_X5_takeEvery (nI L) cf fp tk st (nI p) cv 0 by_ (nI P) = some (1, cf, fp, a, b, nI p', v', 1, nI P')) ∧ ∀ hs he : Int32, ∃ pos' bg' so' vl' fl' wr', bodyM hs he (nI L) pos bg so vl fl wr d ta 5 = some (hs, he, pos', bg', so', vl', fl', wr', d') ∧ MS L by_ ta p' pos' bg' so' vl' fl' wr') ∨
    (∃ q w, 1 ≤ q ∧ q ≤ 5 ∧ (∀ cf fp tk st cv : Int32, ∃ a, F_X5_takeEvery (nI L) cf fp tk st (nI p) cv 0 by_ (nI P) = some (0, nI q, nI w, a)) ∧ ∀ hs he : Int32, ∃ pos' bg' so' vl' d', bodyM hs he (nI L) pos bg so vl fl wr d ta 5 = some (hs, he, pos', bg', so', vl', nI q, nI w, d')) := by
  have hz : ∀ (r1 : Option (Int32 × Int32 × Int32 × Int32 × Int32 × Int32 × Int32)), F_X7_readNumber (nI L) pos bg so vl fl wr ta 1 9 = r1 → F_X7_readLineOf (nI L) pos bg so vl fl wr d ta 5 = r1.bind fun (r11, w12, w13, w14, w15, w16, w17) => some (w12, w13, w14, w15, w16, w17, upd d 18 r11) := by
    intro r1 hr1
    unfold F_X7_readLineOf
    rw [if_neg (by decide), if_pos rfl, hr1]
    simp only [chk_pos (show inb (18 : Int32) 56 by decide), show (18 : Int32).toNatClampNeg = 18 from rfl]
  rcases MS_fl h with rfl | ⟨rfl, s, rfl, hb⟩
  · rcases num_step hB (lo := 1) (hi := 9) (by omega) (by omega) h with ⟨p1, v1, g1, g2, g3, g4, gc, pos1, bg1, so1, vl1, fl1, wr1, gm, gMS⟩ | ⟨q, w, q1, q2, gc, r, pos1, bg1, so1, vl1, gm⟩
    · have gm := hz _ gm
      simp only [ob] at gm
      rcases stop_step hB gMS with ⟨p3, l1, l2, lc, lm⟩ | ⟨q, w, q1, q2, lc, lm⟩
      · left
        refine ⟨p3, v1, _, by omega, l2, DR_pace hd g3 g4, ?_, ?_⟩
        · intro cf fp tk st cv
          obtain ⟨st1, z1⟩ := gc cf fp tk st cv
          have z1 : F_X5_takeNumber (nI L) cf fp tk st (nI p) cv by_ 1 9 = _ := z1
          obtain ⟨a, b, v', z2⟩ := lc cf fp 2 st1 (nI v1)
          unfold F_X5_takeEvery
          rw [if_pos rfl, z1]
          simp only [ob]
          rw [if_neg i10, z2]
          simp only [ob]
          rw [chk_pos (by decide)]
          exact ⟨_, _, _, rfl⟩
        · intro hs he
          unfold bodyM
          rw [if_pos (by decide), gm]
          simp only [ob]
          exact lm hs he _
      · right
        refine ⟨q, w, q1, q2, ?_, ?_⟩
        · intro cf fp tk st cv
          obtain ⟨st1, z1⟩ := gc cf fp tk st cv
          have z1 : F_X5_takeNumber (nI L) cf fp tk st (nI p) cv by_ 1 9 = _ := z1
          obtain ⟨⟨a1, a2, a3, a4⟩, z2⟩ := lc cf fp 2 st1 (nI v1)
          unfold F_X5_takeEvery
          rw [if_pos rfl, z1]
          simp only [ob]
          rw [if_neg i10, z2]
          simp only [ob]
          rw [chk_pos (by decide)]
          exact ⟨_, rfl⟩
        · intro hs he
          unfold bodyM
          rw [if_pos (by decide), gm]
          simp only [ob]
          obtain ⟨pos', bg', so', vl', z⟩ := lm hs he (upd d 18 (nI v1))
          exact ⟨pos', bg', so', vl', _, z⟩
    · right
      have gm := hz _ gm
      simp only [ob] at gm
      refine ⟨q, w, q1, q2, ?_, ?_⟩
      · intro cf fp tk st cv
        obtain ⟨⟨a1, a2, a3, a4⟩, z1⟩ := gc cf fp tk st cv
        have z1 : F_X5_takeNumber (nI L) cf fp tk st (nI p) cv by_ 1 9 = _ := z1
        unfold F_X5_takeEvery
        rw [if_pos rfl, z1]
        simp only [ob]
        rw [if_pos trivial]
        exact ⟨_, rfl⟩
      · intro hs he
        unfold bodyM
        rw [if_pos (by decide), gm]
        simp only [ob]
        exact ⟨_, _, _, _, _, bad_tail q1 q2 _ _ _ _ _ _ _ _ _ _⟩
  · right
    refine ⟨1, s, by omega, by omega, ?_, ?_⟩
    · intro cf fp tk st cv
      obtain ⟨⟨a1, a2, a3, a4⟩, z⟩ := hb cf fp tk st cv
      unfold F_X5_takeEvery F_X5_takeNumber
      rw [if_pos rfl, z]
      simp only [ob]
      rw [if_pos trivial]
      simp only [ob]
      rw [if_pos trivial]
      exact ⟨_, rfl⟩
    · intro hs he
      unfold bodyM
      rw [if_neg (by decide)]
      exact ⟨_, _, _, _, _, rfl⟩
end
