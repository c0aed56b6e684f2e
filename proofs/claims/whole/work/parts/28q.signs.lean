/-! text: a line of signs -/
section
variable {L : Nat} {by_ ta : Nat → Int32} {B : Nat → Nat}
theorem refuse107 {cf fp tk st nx vl q : Int32} {sn : Int32} {sg : Nat → Int32} {le : Int32} : F_X5_takeSigns_107 le cf fp tk st nx vl 1 by_ sn sg q = some (0, q, st, tk, st, nx, vl, 1, sn, sg) := by
  unfold F_X5_takeSigns_107 F_X5_refuse
  simp only [ob]
  rw [if_pos trivial]
theorem signs_bad {c : Nat} (h1 : 1 ≤ c) (h2 : c ≤ 5) (fu : Nat) (tp pos bg so vl wr : Int32) (d ta : Nat → Int32) : F_X7_readSigns_20 (fu + 1) tp pos bg so vl (nI c) wr d ta = some (pos, bg, so, vl, nI c, wr, d) := by
  rw [F_X7_readSigns_20, if_neg (nI_ne0 (by omega) (by omega))]
theorem signs_other {so : Int32} (h : ¬ so = 2) (fu : Nat) (tp pos bg vl wr : Int32) (d ta : Nat → Int32) : F_X7_readSigns_20 (fu + 1) tp pos bg so vl 0 wr d ta = some (pos, bg, so, vl, 0, wr, d) := by
  rw [F_X7_readSigns_20, if_pos rfl, if_neg h]
theorem sign_loop (hB : TB8 L by_ ta B) {P R : Nat} {rt : Nat → Rot} : ∀ (m i fu fu' p : Nat) (sg d : Nat → Int32) (pos bg so vl fl wr : Int32), i + m = 16 → 1 ≤ i → m < fu → m + 1 < fu' → MS L by_ ta p pos bg so vl fl wr → DR P i R sg rt d →
    (∃ p' S' sg' d' pos1 bg1 so1 vl1 fl1 wr1, p < p' ∧ p' ≤ L ∧ DR P S' R sg' rt d' ∧ (∀ cf fp tk st cv : Int32, ∃ a b v', F_X5_takeSigns_20 fu (nI L) cf fp tk st (nI p) cv 1 by_ (nI i) sg (nI i) = some (1, cf, fp, a, b, nI p', v', 1, nI S', sg')) ∧ F_X7_readSigns_20 fu' (nI L) pos bg so vl fl wr d ta = some (pos1, bg1, so1, vl1, fl1, wr1, d') ∧ ∀ hs he : Int32, ∃ pos' bg' so' vl' fl' wr', tailM hs he (nI L) pos1 bg1 so1 vl1 fl1 wr1 d' ta = some (hs, he, pos', bg', so', vl', fl', wr', d') ∧ MS L by_ ta p' pos' bg' so' vl' fl' wr') ∨
    (∃ q w d' pos1 bg1 so1 vl1 fl1 wr1, 1 ≤ q ∧ q ≤ 5 ∧ (∀ cf fp tk st cv : Int32, ∃ a, F_X5_takeSigns_20 fu (nI L) cf fp tk st (nI p) cv 1 by_ (nI i) sg (nI i) = some (0, nI q, nI w, a)) ∧ F_X7_readSigns_20 fu' (nI L) pos bg so vl fl wr d ta = some (pos1, bg1, so1, vl1, fl1, wr1, d') ∧ ∀ hs he : Int32, ∃ pos' bg' so' vl', tailM hs he (nI L) pos1 bg1 so1 vl1 fl1 wr1 d' ta = some (hs, he, pos', bg', so', vl', nI q, nI w, d')) := by
  intro m
  induction m with
  | zero =>
    intro i fu fu' p sg d pos bg so vl fl wr h1 h2 h3 h4 h hd
    obtain ⟨fu, rfl⟩ : ∃ g, fu = g + 1 := ⟨fu - 1, by omega⟩
    obtain ⟨fu', rfl⟩ : ∃ g, fu' = g + 1 + 1 := ⟨fu' - 2, by omega⟩
    obtain rfl : i = 16 := by omega
    have c16 : (16 : Int32) ≤ nI 16 := by decide
    obtain ⟨k, s, e, v, ⟨⟨t1, t2, t3, t4, t5, t6⟩, hc, hm⟩, ⟨hk, rfl, rfl, rfl, hv, rfl⟩ | ⟨rfl, rfl, rfl⟩⟩ := h
    · by_cases c3 : k = 3
      · subst c3
        left
        refine ⟨e, 16, sg, d, _, _, _, _, _, _, by have := t5 (by omega) hk; omega, (t4 hk).1, hd, ?_, signs_other (by decide) _ _ _ _ _ _ _ _, fun hs he => tail_stop hB (t4 hk).1 hs he _ _ _ d⟩
        intro cf fp tk st cv
        rw [F_X5_takeSigns_20, if_pos c16, (hc cf fp tk st cv).1 hk]
        simp only [ob]
        rw [if_neg i10, if_pos (show nI 3 = 3 from rfl)]
        exact ⟨_, _, _, rfl⟩
      · have q3 : ¬ nI k = 3 := fun z => c3 ((b_eq k (by omega) 3 (by omega)).1 z)
        by_cases c2 : k = 2
        · subst c2
          right
          have hmod : F_X7_readSigns_20 (fu' + 1 + 1) (nI L) (nI e) (nI s) (nI 2) vl 0 wr d ta = some (nI e, nI s, nI 2, vl, nI 5, nI s, d) := by
            rw [F_X7_readSigns_20, if_pos rfl, if_pos (show nI 2 = 2 from rfl)]
            simp only [chk_pos (show inb (17 : Int32) 56 by decide), show (17 : Int32).toNatClampNeg = 17 from rfl, hd.2.1.2.1, if_pos c16, req_no, ob]
            rw [if_neg (by decide)]
            exact signs_bad (c := 5) (by omega) (by omega) _ _ _ _ _ _ _ _ _
          refine ⟨5, s, d, _, _, _, _, _, _, by omega, by omega, ?_, hmod, fun hs he => ⟨_, _, _, _, bad_tail (by omega) (by omega) hs he _ _ _ _ _ _ d ta⟩⟩
          intro cf fp tk st cv
          rw [F_X5_takeSigns_20, if_pos c16, (hc cf fp tk st cv).1 hk]
          simp only [ob]
          rw [if_neg i10, if_neg q3, if_pos (show nI 2 = 2 from rfl), refuse107]
          exact ⟨_, rfl⟩
        · have q2 : ¬ nI k = 2 := fun z => c2 ((b_eq k (by omega) 2 (by omega)).1 z)
          right
          refine ⟨2, s, d, _, _, _, _, _, _, by omega, by omega, ?_, signs_other q2 _ _ _ _ _ _ _ _, fun hs he => ⟨_, _, _, _, tail_no q3 hs he _ _ _ _ _ d ta⟩⟩
          intro cf fp tk st cv
          rw [F_X5_takeSigns_20, if_pos c16, (hc cf fp tk st cv).1 hk]
          simp only [ob]
          rw [if_neg i10, if_neg q3, if_neg q2, refuse107]
          exact ⟨_, rfl⟩
    · right
      refine ⟨1, s, d, _, _, _, _, _, _, by omega, by omega, ?_, signs_bad (c := 1) (by omega) (by omega) _ _ _ _ _ _ _ _ _, fun hs he => ⟨_, _, _, _, bad_tail (by omega) (by omega) hs he _ _ _ _ _ _ d ta⟩⟩
      intro cf fp tk st cv
      obtain ⟨t', e', v', z⟩ := (hc cf fp tk st cv).2 rfl
      rw [F_X5_takeSigns_20, if_pos c16, z]
      simp only [ob]
      rw [if_pos trivial]
      exact ⟨_, rfl⟩
  | succ m ih =>
    intro i fu fu' p sg d pos bg so vl fl wr h1 h2 h3 h4 h hd
    obtain ⟨fu, rfl⟩ : ∃ g, fu = g + 1 := ⟨fu - 1, by omega⟩
    obtain ⟨fu', rfl⟩ : ∃ g, fu' = g + 1 + 1 := ⟨fu' - 2, by omega⟩
    have c16 : ¬ (16 : Int32) ≤ nI i := nI_ge (b := 16) (by omega) (by omega)
    have ci : ¬ nI i ≤ 0 := nI_nle (by omega) (by omega)
    obtain ⟨k, s, e, v, ⟨⟨t1, t2, t3, t4, t5, t6⟩, hc, hm⟩, ⟨hk, rfl, rfl, rfl, hv, rfl⟩ | ⟨rfl, rfl, rfl⟩⟩ := h
    · by_cases c3 : k = 3
      · subst c3
        left
        refine ⟨e, i, sg, d, _, _, _, _, _, _, by have := t5 (by omega) hk; omega, (t4 hk).1, hd, ?_, signs_other (by decide) _ _ _ _ _ _ _ _, fun hs he => tail_stop hB (t4 hk).1 hs he _ _ _ d⟩
        intro cf fp tk st cv
        rw [F_X5_takeSigns_20, if_neg c16, (hc cf fp tk st cv).1 hk]
        simp only [ob]
        rw [if_neg i10, if_neg ci, if_pos (show nI 3 = 3 from rfl)]
        exact ⟨_, _, _, rfl⟩
      · have q3 : ¬ nI k = 3 := fun z => c3 ((b_eq k (by omega) 3 (by omega)).1 z)
        by_cases c2 : k = 2
        · subst c2
          obtain ⟨n, hn, rfl⟩ := t6 rfl
          have hvl := hv rfl
          subst hvl
          have hcl : ∀ cf fp tk st cv : Int32, F_X5_takeSigns_20 (fu + 1) (nI L) cf fp tk st (nI p) cv 1 by_ (nI i) sg (nI i) = if 0 ≤ n ∧ n ≤ 3 then F_X5_takeSigns_20 fu (nI L) cf fp 2 (nI s) (nI e) (nI n) 1 by_ (nI (i + 1)) (upd sg i (nI n)) (nI (i + 1)) else some (0, 3, nI s, 2, nI s, nI e, nI n, 1, nI i, sg) := by
            intro cf fp tk st cv
            rw [F_X5_takeSigns_20, if_neg c16, (hc cf fp tk st cv).1 hk]
            simp only [ob, if_true]
            rw [if_neg i10, if_neg ci, if_neg q3, show (0 : Int32) = nI 0 from rfl, show (3 : Int32) = nI 3 from rfl, isNumC (by omega) (by omega) (by omega) (by omega), if_pos rfl]
            by_cases c : 0 ≤ n ∧ n ≤ 3
            · rw [if_pos c, if_pos c]
              simp only [ob]
              unfold F_X0_addSign
              rw [if_neg (show ¬ (1 : Int32) = nI 0 by decide), if_pos (show nI i < 16 from nI_lt (b := 16) (by omega) (by omega)), chk_pos (inb_nI (by omega) (by decide)), cl_nI (by omega), nI_1]
              simp only [ob]
              rfl
            · rw [if_neg c, if_neg c]
              simp only [ob]
              rw [if_pos (show (0 : Int32) = nI 0 from rfl)]
              rfl
          have hmo : ∀ r : Option (Int32 × Int32 × Int32 × Int32 × Int32 × Int32 × Int32), F_X7_readNumber (nI L) (nI e) (nI s) (nI 2) (nI n) 0 wr ta (nI 0) (nI 3) = r → F_X7_readSigns_20 (fu' + 1 + 1) (nI L) (nI e) (nI s) (nI 2) (nI n) 0 wr d ta = r.bind fun (r26, w27, w28, w29, w30, w31, w32) => F_X7_readSigns_20 (fu' + 1) (nI L) w27 w28 w29 w30 w31 w32 (upd (upd d (1 + i) r26) 17 (nI (i + 1))) ta := by
            intro r hr
            have hr : F_X7_readNumber (nI L) (nI e) (nI s) (nI 2) (nI n) 0 wr ta 0 3 = r := hr
            rw [F_X7_readSigns_20, if_pos rfl, if_pos (show nI 2 = 2 from rfl)]
            simp only [chk_pos (show inb (17 : Int32) 56 by decide), show (17 : Int32).toNatClampNeg = 17 from rfl, hd.2.1.2.1, if_neg c16, req_yes, ob, if_true, hr]
            have e17 : ∀ x : Int32, upd d (1 + i) x 17 + 1 = nI (i + 1) := by
              intro x
              rw [upd_off _ _ (by omega), hd.2.1.2.1, nI_1]
            simp only [show (1 : Int32) + nI i = nI (1 + i) from nI_add 1 i, chk_pos (inb_nI (n := 1 + i) (N := 56) (by omega) (by decide)), cl_nI (n := 1 + i) (by omega), chk_pos (show inb (17 : Int32) 56 by decide), e17]
          obtain ⟨n1, n2, n3⟩ := numM hB (k := 2) (m := n) (e := e) (s := s) (vl := nI n) (wr := wr) (lo := 0) (hi := 3) (t4 hk).1 hk (fun _ => rfl) (by omega) (by omega) (by omega)
          have hse := t5 (by omega) hk
          by_cases c : 0 ≤ n ∧ n ≤ 3
          · obtain ⟨pos', bg', so', vl', fl', wr', e1, e2⟩ := n1 ⟨rfl, c⟩
            have e1 := hmo _ e1
            simp only [ob] at e1
            rcases ih (i + 1) fu (fu' + 1) e (upd sg i (nI n)) _ pos' bg' so' vl' fl' wr' (by omega) (by omega) (by omega) (by omega) e2 (DR_sign (m := n) hd (by omega) (by omega)) with ⟨p', S', sg', d', a1, a2, a3, a4, a5, a6, g1, g2, g3, g4, g5, g6⟩ | ⟨q, w, d', a1, a2, a3, a4, a5, a6, g1, g2, g4, g5, g6⟩
            · left
              refine ⟨p', S', sg', d', a1, a2, a3, a4, a5, a6, by omega, g2, g3, ?_, by rw [e1]; exact g5, g6⟩
              intro cf fp tk st cv
              rw [hcl, if_pos c]
              exact g4 _ _ _ _ _
            · right
              refine ⟨q, w, d', a1, a2, a3, a4, a5, a6, g1, g2, ?_, by rw [e1]; exact g5, g6⟩
              intro cf fp tk st cv
              rw [hcl, if_pos c]
              exact g4 _ _ _ _ _
          · right
            have e1 := hmo _ (n2 ⟨rfl, c⟩)
            simp only [ob] at e1
            refine ⟨3, s, _, _, _, _, _, _, _, by omega, by omega, ?_, by rw [e1]; exact signs_bad (c := 3) (by omega) (by omega) _ _ _ _ _ _ _ _ _, fun hs he => ⟨_, _, _, _, bad_tail (by omega) (by omega) hs he _ _ _ _ _ _ _ ta⟩⟩
            intro cf fp tk st cv
            rw [hcl, if_neg c]
            exact ⟨_, rfl⟩
        · have q2 : ¬ nI k = 2 := fun z => c2 ((b_eq k (by omega) 2 (by omega)).1 z)
          right
          refine ⟨2, s, d, _, _, _, _, _, _, by omega, by omega, ?_, signs_other q2 _ _ _ _ _ _ _ _, fun hs he => ⟨_, _, _, _, tail_no q3 hs he _ _ _ _ _ d ta⟩⟩
          intro cf fp tk st cv
          rw [F_X5_takeSigns_20, if_neg c16, (hc cf fp tk st cv).1 hk]
          simp only [ob]
          rw [if_neg i10, if_neg ci, if_neg q3, isNumC' hk c2]
          simp only [ob]
          rw [if_pos trivial]
          exact ⟨_, rfl⟩
    · right
      refine ⟨1, s, d, _, _, _, _, _, _, by omega, by omega, ?_, signs_bad (c := 1) (by omega) (by omega) _ _ _ _ _ _ _ _ _, fun hs he => ⟨_, _, _, _, bad_tail (by omega) (by omega) hs he _ _ _ _ _ _ d ta⟩⟩
      intro cf fp tk st cv
      obtain ⟨t', e', v', z⟩ := (hc cf fp tk st cv).2 rfl
      rw [F_X5_takeSigns_20, if_neg c16, z]
      simp only [ob]
      rw [if_pos trivial]
      exact ⟨_, rfl⟩
theorem signs_step (hB : TB8 L by_ ta B) {p P R : Nat} {sg d : Nat → Int32} {rt : Nat → Rot} {pos bg so vl fl wr : Int32} (h : MS L by_ ta p pos bg so vl fl wr) (hd : DR P 0 R sg rt d) :
    (∃ p' S' sg' d', p < p' ∧ p' ≤ L ∧ DR P S' R sg' rt d' ∧ (∀ cf fp tk st cv : Int32, ∃ a b v', F_X5_takeSigns (nI L) cf fp tk st (nI p) cv 0 by_ 0 sg = some (1, cf, fp, a, b, nI p', v', 1, nI S', sg')) ∧ ∀ hs he : Int32, ∃ pos' bg' so' vl' fl' wr', bodyM hs he (nI L) pos bg so vl fl wr d ta 4 = some (hs, he, pos', bg', so', vl', fl', wr', d') ∧ MS L by_ ta p' pos' bg' so' vl' fl' wr') ∨
    (∃ q w, 1 ≤ q ∧ q ≤ 5 ∧ (∀ cf fp tk st cv : Int32, ∃ a, F_X5_takeSigns (nI L) cf fp tk st (nI p) cv 0 by_ 0 sg = some (0, nI q, nI w, a)) ∧ ∀ hs he : Int32, ∃ pos' bg' so' vl' d', bodyM hs he (nI L) pos bg so vl fl wr d ta 4 = some (hs, he, pos', bg', so', vl', nI q, nI w, d')) := by
  obtain ⟨fu, hfu⟩ : ∃ g, FU = g + 1 := ⟨1999, rfl⟩
  have hfu2 : fu = 1999 := by unfold FU at hfu; omega
  have hz : ∀ (r1 : Option (Int32 × Int32 × Int32 × Int32 × Int32 × Int32 × Int32)), F_X7_readNumber (nI L) pos bg so vl fl wr ta 0 3 = r1 → F_X7_readLineOf (nI L) pos bg so vl fl wr d ta 4 = r1.bind fun (r1, w2, w3, w4, w5, w6, w7) => F_X7_readSigns_20 (fu + 1) (nI L) w2 w3 w4 w5 w6 w7 (upd (upd d (1 + 0) r1) 17 (nI (0 + 1))) ta := by
    intro r1 hr1
    unfold F_X7_readLineOf F_X7_readSigns
    rw [if_pos rfl, hr1, hfu]
    simp only [chk_pos (show inb (1 : Int32) 56 by decide), chk_pos (show inb (17 : Int32) 56 by decide), show (17 : Int32).toNatClampNeg = 17 from rfl, show (1 : Int32).toNatClampNeg = 1 + 0 from rfl]
    cases r1 with
    | none => rfl
    | some w =>
      obtain ⟨r1, w2, w3, w4, w5, w6, w7⟩ := w
      simp only [ob]
      show (F_X7_readSigns_20 (fu + 1) (nI L) w2 w3 w4 w5 w6 w7 (upd (upd d (1 + 0) r1) 17 (nI (0 + 1))) ta).bind _ = _
      cases F_X7_readSigns_20 (fu + 1) (nI L) w2 w3 w4 w5 w6 w7 (upd (upd d (1 + 0) r1) 17 (nI (0 + 1))) ta with
      | none => rfl
      | some w => rfl
  have c16 : ¬ (16 : Int32) ≤ 0 := by decide
  have ci : (0 : Int32) ≤ 0 := by decide
  obtain ⟨k, s, e, v, ⟨⟨t1, t2, t3, t4, t5, t6⟩, hc, hm⟩, ⟨hk, rfl, rfl, rfl, hv, rfl⟩ | ⟨rfl, rfl, rfl⟩⟩ := h
  · by_cases c2 : k = 2
    · subst c2
      obtain ⟨n, hn, rfl⟩ := t6 rfl
      have hvl := hv rfl
      subst hvl
      have hse := t5 (by omega) hk
      have hcl : ∀ cf fp tk st cv : Int32, F_X5_takeSigns (nI L) cf fp tk st (nI p) cv 0 by_ 0 sg = if 0 ≤ n ∧ n ≤ 3 then F_X5_takeSigns_20 fu (nI L) cf fp 2 (nI s) (nI e) (nI n) 1 by_ (nI 1) (upd sg 0 (nI n)) (nI 1) else some (0, 3, nI s, 2, nI s, nI e, nI n, 1, 0, sg) := by
        intro cf fp tk st cv
        unfold F_X5_takeSigns
        rw [if_pos rfl, hfu, F_X5_takeSigns_20, if_neg c16, (hc cf fp tk st cv).1 hk]
        simp only [ob, if_true]
        rw [if_neg i10, if_pos ci, show F_X5_isNumber cf fp (nI 2) (nI s) (nI n) 0 3 = _ from isNumC (lo := 0) (hi := 3) (by omega) (by omega) (by omega) (by omega), if_pos rfl]
        by_cases c : 0 ≤ n ∧ n ≤ 3
        · rw [if_pos c, if_pos c]
          simp only [ob]
          unfold F_X0_addSign
          rw [if_neg i10, if_pos (show (0 : Int32) < 16 by decide), chk_pos (by decide)]
          simp only [ob]
          rfl
        · rw [if_neg c, if_neg c]
          simp only [ob]
          rw [if_pos trivial]
          rfl
      obtain ⟨n1, n2, n3⟩ := numM hB (k := 2) (m := n) (e := e) (s := s) (vl := nI n) (wr := wr) (lo := 0) (hi := 3) (t4 hk).1 hk (fun _ => rfl) (by omega) (by omega) (by omega)
      by_cases c : 0 ≤ n ∧ n ≤ 3
      · obtain ⟨pos', bg', so', vl', fl', wr', e1, e2⟩ := n1 ⟨rfl, c⟩
        have e1 := hz _ e1
        simp only [ob] at e1
        rcases sign_loop hB (P := P) (R := R) (rt := rt) 15 1 fu (fu + 1) e (upd sg 0 (nI n)) _ pos' bg' so' vl' fl' wr' (by omega) (by omega) (by omega) (by omega) e2 (DR_sign (i := 0) (m := n) hd (by omega) (by omega)) with ⟨p', S', sg', d', a1, a2, a3, a4, a5, a6, g1, g2, g3, g4, g5, g6⟩ | ⟨q, w, d', a1, a2, a3, a4, a5, a6, g1, g2, g4, g5, g6⟩
        · left
          refine ⟨p', S', sg', d', by omega, g2, g3, ?_, ?_⟩
          · intro cf fp tk st cv
            rw [hcl, if_pos c]
            exact g4 _ _ _ _ _
          · intro hs he
            unfold bodyM
            rw [if_pos (by decide), e1, g5]
            simp only [ob]
            exact g6 hs he
        · right
          refine ⟨q, w, g1, g2, ?_, ?_⟩
          · intro cf fp tk st cv
            rw [hcl, if_pos c]
            exact g4 _ _ _ _ _
          · intro hs he
            unfold bodyM
            rw [if_pos (by decide), e1, g5]
            simp only [ob]
            obtain ⟨b1, b2, b3, b4, z⟩ := g6 hs he
            exact ⟨b1, b2, b3, b4, _, z⟩
      · right
        have e1 := hz _ (n2 ⟨rfl, c⟩)
        simp only [ob] at e1
        rw [show (3 : Int32) = nI 3 from rfl, signs_bad (c := 3) (by omega) (by omega)] at e1
        refine ⟨3, s, by omega, by omega, ?_, ?_⟩
        · intro cf fp tk st cv
          rw [hcl, if_neg c]
          exact ⟨_, rfl⟩
        · intro hs he
          unfold bodyM
          rw [if_pos (by decide), e1]
          simp only [ob]
          exact ⟨_, _, _, _, _, bad_tail (by omega) (by omega) hs he _ _ _ _ _ _ _ ta⟩
    · right
      have n3 := (numM hB (k := k) (m := 0) (e := e) (s := s) (vl := vl) (wr := wr) (lo := 0) (hi := 3) (t4 hk).1 hk (fun h => absurd h c2) (by omega) (by omega) (by omega)).2.2 c2
      have e1 := hz _ n3
      simp only [ob] at e1
      rw [show (2 : Int32) = nI 2 from rfl, signs_bad (c := 2) (by omega) (by omega)] at e1
      refine ⟨2, s, by omega, by omega, ?_, ?_⟩
      · intro cf fp tk st cv
        unfold F_X5_takeSigns
        rw [if_pos rfl, hfu, F_X5_takeSigns_20, if_neg c16, (hc cf fp tk st cv).1 hk]
        simp only [ob]
        rw [if_neg i10, if_pos ci, isNumC' hk c2]
        simp only [ob]
        rw [if_pos trivial]
        exact ⟨_, rfl⟩
      · intro hs he
        unfold bodyM
        rw [if_pos (by decide), e1]
        simp only [ob]
        exact ⟨_, _, _, _, _, bad_tail (by omega) (by omega) hs he _ _ _ _ _ _ _ ta⟩
  · right
    refine ⟨1, s, by omega, by omega, ?_, ?_⟩
    · intro cf fp tk st cv
      obtain ⟨t', e', v', z⟩ := (hc cf fp tk st cv).2 rfl
      unfold F_X5_takeSigns
      rw [if_pos rfl, hfu, F_X5_takeSigns_20, if_neg c16, z]
      simp only [ob]
      rw [if_pos trivial]
      exact ⟨_, rfl⟩
    · intro hs he
      unfold bodyM
      rw [if_neg (by decide)]
      exact ⟨_, _, _, _, _, rfl⟩
end
