/-! text: the reference has read one token further -/
def MS (L : Nat) (by_ ta : Nat → Int32) (p : Nat) (pos bg so vl fl wr : Int32) : Prop := ∃ k s e v, TokE L by_ ta p k s e v ∧ ((k < 4 ∧ pos = nI e ∧ bg = nI s ∧ so = nI k ∧ (k = 2 → vl = v) ∧ fl = 0) ∨ (k = 4 ∧ fl = 1 ∧ wr = nI s))
theorem bad_reads {c : Nat} (h1 : 1 ≤ c) (h2 : c ≤ 5) (tp pos bg so vl wr : Int32) (ta : Nat → Int32) : F_X7_reads tp pos bg so vl (nI c) wr ta = some (pos, bg, so, vl, nI c, wr) := by
  unfold F_X7_reads
  rw [if_neg (nI_nle (by omega) (by omega))]
theorem bad_num {c : Nat} (h1 : 1 ≤ c) (h2 : c ≤ 5) (tp pos bg so vl wr : Int32) (ta : Nat → Int32) (lo hi : Int32) : F_X7_readNumber tp pos bg so vl (nI c) wr ta lo hi = some (0, pos, bg, so, vl, nI c, wr) := by
  have h : ¬ nI c = 0 := nI_ne0 (by omega) (by omega)
  unfold F_X7_readNumber F_X7_readNumber_25 F_X7_readNumber_49 F_X7_readNumber_64
  rw [if_neg h, if_neg h, if_neg h, bad_reads h1 h2]
  simp only [ob]
theorem req_bad {c : Nat} (h1 : 1 ≤ c) (h2 : c ≤ 5) (bg wr s0 q : Int32) : F_X7_requires bg (nI c) wr s0 q = some (nI c, wr) := by
  have h : ¬ nI c = 0 := nI_ne0 (by omega) (by omega)
  unfold F_X7_requires
  rw [if_neg h]
  split <;> rfl
theorem req_no (bg wr q : Int32) : F_X7_requires bg 0 wr 0 q = some (q, bg) := rfl
theorem req_yes (bg fl wr q : Int32) : F_X7_requires bg fl wr 1 q = some (fl, wr) := rfl
theorem in_nat {v lo hi : Nat} (h1 : v < 1000) (h2 : lo < 1000) (h3 : hi < 1000) : F_X7_in (nI v).toInt64 (nI lo).toInt64 (nI hi).toInt64 = some (if lo ≤ v ∧ v ≤ hi then 1 else 0) := by
  unfold F_X7_in
  simp only [lg_cmp_lt, lg_cmp_gt]
  rw [nI_l (by omega), nI_l (by omega), nI_l (by omega)]
  have e1 : lN v < lN lo ↔ v < lo := lN_lt (by omega) (by omega)
  by_cases a : v < lo
  · rw [if_pos (e1.2 a), if_neg (by omega)]
  · rw [if_neg (fun h => a (e1.1 h))]
    have e2 : lN hi < lN v ↔ hi < v := lN_lt (by omega) (by omega)
    by_cases b : hi < v
    · rw [if_pos (e2.2 b), if_neg (by omega)]
    · rw [if_neg (fun h => b (e2.1 h)), if_pos (by omega)]
section
variable {L : Nat} {by_ ta : Nat → Int32} {B : Nat → Nat}
theorem reads_MS (hB : TB8 L by_ ta B) {p : Nat} (hp : p ≤ L) (bg so vl wr : Int32) : ∃ pos' bg' so' vl' fl' wr', F_X7_reads (nI L) (nI p) bg so vl 0 wr ta = some (pos', bg', so', vl', fl', wr') ∧ MS L by_ ta p pos' bg' so' vl' fl' wr' := by
  obtain ⟨k, s, e, v, h⟩ := tok_ex hB hp
  have h0 := h
  obtain ⟨⟨h1, h2, h3, h4, h5, h6⟩, hc, hm⟩ := h0
  by_cases c : k < 4
  · have z := (hm bg so vl wr).1 c
    exact ⟨_, _, _, _, _, _, z, k, s, e, v, h, Or.inl ⟨c, rfl, rfl, rfl, fun h => if_pos h, rfl⟩⟩
  · obtain ⟨p', s', v', z⟩ := (hm bg so vl wr).2 (by omega)
    exact ⟨_, _, _, _, _, _, z, k, s, e, v, h, Or.inr ⟨by omega, rfl, rfl⟩⟩
theorem isNumC {cf fp st : Int32} {k m lo hi : Nat} (hk : k < 4) (hm : m < 1000) (h2 : lo < 1000) (h3 : hi < 1000) : F_X5_isNumber cf fp (nI k) st (nI m) (nI lo) (nI hi) = if k = 2 then (if lo ≤ m ∧ m ≤ hi then some (1, cf, fp) else some (0, 3, st)) else some (0, 2, st) := by
  unfold F_X5_isNumber F_X5_isNumber_30 F_X5_isNumber_38 F_X5_refuse
  by_cases c : k = 2
  · subst c
    rw [if_pos (show nI 2 = 2 from rfl), if_pos rfl]
    by_cases a : m < lo
    · rw [if_pos (nI_lt a (by omega)), if_neg (by omega)]; rfl
    · rw [if_neg (show ¬ nI m < nI lo by rw [nI_ltI (by omega) (by omega)]; exact a)]
      by_cases b : m ≤ hi
      · rw [if_pos (nI_le b (by omega)), if_pos (by omega)]
      · rw [if_neg (nI_ge (by omega) (by omega)), if_neg (by omega)]; rfl
  · rw [if_neg (show ¬ nI k = 2 from fun h => c ((b_eq k (by omega) 2 (by omega)).1 h)), if_neg c]
    simp only [ob]
    rw [chk_pos (by decide)]
theorem isNumC' {cf fp st x : Int32} {k : Nat} {lo hi : Int32} (hk : k < 4) (h : k ≠ 2) : F_X5_isNumber cf fp (nI k) st x lo hi = some (0, 2, st) := by
  unfold F_X5_isNumber F_X5_refuse
  rw [if_neg (show ¬ nI k = 2 from fun z => h ((b_eq k (by omega) 2 (by omega)).1 z))]
  simp only [ob]
  rw [chk_pos (by decide)]
theorem numM (hB : TB8 L by_ ta B) {k m e s lo hi : Nat} {vl wr : Int32} (he : e ≤ L) (hk : k < 4) (hm : k = 2 → vl = nI m) (hm2 : m < 1000) (h2 : lo < 1000) (h3 : hi < 1000) :
    (k = 2 ∧ lo ≤ m ∧ m ≤ hi → ∃ pos' bg' so' vl' fl' wr', F_X7_readNumber (nI L) (nI e) (nI s) (nI k) vl 0 wr ta (nI lo) (nI hi) = some (nI m, pos', bg', so', vl', fl', wr') ∧ MS L by_ ta e pos' bg' so' vl' fl' wr') ∧
    (k = 2 ∧ ¬ (lo ≤ m ∧ m ≤ hi) → F_X7_readNumber (nI L) (nI e) (nI s) (nI k) vl 0 wr ta (nI lo) (nI hi) = some (0, nI e, nI s, nI k, vl, 3, nI s)) ∧
    (k ≠ 2 → F_X7_readNumber (nI L) (nI e) (nI s) (nI k) vl 0 wr ta (nI lo) (nI hi) = some (0, nI e, nI s, nI k, vl, 2, nI s)) := by
  refine ⟨?_, ?_, ?_⟩
  · rintro ⟨rfl, a1, a2⟩
    obtain ⟨pos', bg', so', vl', fl', wr', e1, e2⟩ := reads_MS hB he (nI s) (nI 2) vl wr
    refine ⟨pos', bg', so', vl', fl', wr', ?_, e2⟩
    unfold F_X7_readNumber F_X7_readNumber_21 F_X7_readNumber_25
    rw [if_pos rfl, if_pos (show nI 2 = 2 from rfl), req_yes]
    simp only [ob]
    rw [if_pos trivial]
    have hv := hm rfl
    rw [hv] at e1 ⊢
    rw [in_nat hm2 h2 h3, if_pos ⟨a1, a2⟩]
    simp only [ob]
    rw [req_yes]
    simp only [ob]
    unfold F_X7_readNumber_49 F_X7_readNumber_64
    rw [if_pos rfl, e1]
    simp only [ob]
  · rintro ⟨rfl, a⟩
    unfold F_X7_readNumber F_X7_readNumber_21 F_X7_readNumber_25
    rw [if_pos rfl, if_pos (show nI 2 = 2 from rfl), req_yes]
    simp only [ob]
    rw [if_pos trivial]
    have hv := hm rfl
    rw [hv, in_nat hm2 h2 h3, if_neg a]
    simp only [ob]
    rw [req_no]
    simp only [ob]
    unfold F_X7_readNumber_49 F_X7_readNumber_64
    rw [if_neg (by decide), show (3 : Int32) = nI 3 from rfl, bad_reads (by omega) (by omega)]
    simp only [ob]
  · intro c
    unfold F_X7_readNumber F_X7_readNumber_21 F_X7_readNumber_25
    rw [if_pos rfl, if_neg (show ¬ nI k = 2 from fun z => c ((b_eq k (by omega) 2 (by omega)).1 z)), req_no]
    simp only [ob]
    rw [if_neg (show ¬ (2 : Int32) = 0 by decide)]
    unfold F_X7_readNumber_49 F_X7_readNumber_64
    rw [if_neg (show ¬ (2 : Int32) = 0 by decide), show (2 : Int32) = nI 2 from rfl, bad_reads (by omega) (by omega)]
    simp only [ob]
/-- a number in a line -/
theorem num_step (hB : TB8 L by_ ta B) {p lo hi : Nat} (h2 : lo < 1000) (h3 : hi < 1000) {pos bg so vl fl wr : Int32} (h : MS L by_ ta p pos bg so vl fl wr) :
    (∃ p' v, p < p' ∧ p' ≤ L ∧ lo ≤ v ∧ v ≤ hi ∧ (∀ cf fp tk st cv : Int32, ∃ st', F_X5_takeNumber (nI L) cf fp tk st (nI p) cv by_ (nI lo) (nI hi) = some (1, cf, fp, 2, st', nI p', nI v)) ∧ ∃ pos' bg' so' vl' fl' wr', F_X7_readNumber (nI L) pos bg so vl fl wr ta (nI lo) (nI hi) = some (nI v, pos', bg', so', vl', fl', wr') ∧ MS L by_ ta p' pos' bg' so' vl' fl' wr') ∨
    (∃ c w, 1 ≤ c ∧ c ≤ 5 ∧ (∀ cf fp tk st cv : Int32, ∃ a, F_X5_takeNumber (nI L) cf fp tk st (nI p) cv by_ (nI lo) (nI hi) = some (0, nI c, nI w, a)) ∧ ∃ r pos' bg' so' vl', F_X7_readNumber (nI L) pos bg so vl fl wr ta (nI lo) (nI hi) = some (r, pos', bg', so', vl', nI c, nI w)) := by
  obtain ⟨k, s, e, v, ⟨⟨t1, t2, t3, t4, t5, t6⟩, hc, hm⟩, ⟨hk, rfl, rfl, rfl, hv, rfl⟩ | ⟨rfl, rfl, rfl⟩⟩ := h
  · obtain ⟨m, hm2, hvm⟩ : ∃ m, m < 1000 ∧ (k = 2 → v = nI m) := by
      by_cases c : k = 2
      · obtain ⟨m, a, b⟩ := t6 c; exact ⟨m, by omega, fun _ => b⟩
      · exact ⟨0, by omega, fun h => absurd h c⟩
    obtain ⟨n1, n2, n3⟩ := numM hB (k := k) (m := m) (e := e) (s := s) (vl := vl) (wr := wr) (t4 hk).1 hk (fun h => (hv h).trans (hvm h)) hm2 h2 h3
    have hcl : ∀ cf fp tk st cv : Int32, F_X5_takeNumber (nI L) cf fp tk st (nI p) cv by_ (nI lo) (nI hi) = if k = 2 then (if lo ≤ m ∧ m ≤ hi then some (1, cf, fp, 2, nI s, nI e, nI m) else some (0, 3, nI s, 2, nI s, nI e, nI m)) else some (0, 2, nI s, nI k, nI s, nI e, cv) := by
      intro cf fp tk st cv
      unfold F_X5_takeNumber
      rw [(hc cf fp tk st cv).1 hk]
      simp only [ob]
      rw [if_neg i10]
      by_cases c : k = 2
      · rw [if_pos c, if_pos c, hvm c, isNumC hk hm2 h2 h3, if_pos c]
        subst c
        by_cases d : lo ≤ m ∧ m ≤ hi
        · rw [if_pos d, if_pos d]
          simp only [ob]
          rw [if_neg i10]; rfl
        · rw [if_neg d, if_neg d]
          simp only [ob]
          rw [if_pos trivial]; rfl
      · rw [if_neg c, if_neg c, isNumC' hk c]
        simp only [ob]
        rw [if_pos trivial]
    by_cases c : k = 2
    · by_cases d : lo ≤ m ∧ m ≤ hi
      · left
        refine ⟨e, m, by have := t5 (by omega) hk; omega, (t4 hk).1, d.1, d.2, ?_, n1 ⟨c, d⟩⟩
        intro cf fp tk st cv
        rw [hcl, if_pos c, if_pos d]
        exact ⟨_, rfl⟩
      · right
        refine ⟨3, s, by omega, by omega, ?_, _, _, _, _, _, n2 ⟨c, d⟩⟩
        intro cf fp tk st cv
        rw [hcl, if_pos c, if_neg d]
        exact ⟨_, rfl⟩
    · right
      refine ⟨2, s, by omega, by omega, ?_, _, _, _, _, _, n3 c⟩
      intro cf fp tk st cv
      rw [hcl, if_neg c]
      exact ⟨_, rfl⟩
  · right
    refine ⟨1, s, by omega, by omega, ?_, _, _, _, _, _, bad_num (c := 1) (by omega) (by omega) _ _ _ _ _ _ _ _ _⟩
    intro cf fp tk st cv
    obtain ⟨t', e', v', z⟩ := (hc cf fp tk st cv).2 rfl
    unfold F_X5_takeNumber
    rw [z]
    simp only [ob]
    rw [if_pos trivial]
    exact ⟨_, rfl⟩
/-- the reference's end of a line -/
def tailM (hs he tp pos bg so vl fl wr : Int32) (d ta : Nat → Int32) : Option (Int32 × Int32 × Int32 × Int32 × Int32 × Int32 × Int32 × Int32 × (Nat → Int32)) :=
  if fl = 0 then (if so = (3 : Int32) then (F_X7_readLine_184 hs he tp pos bg so vl fl wr d ta (1 : Int32)) else (F_X7_readLine_184 hs he tp pos bg so vl fl wr d ta (0 : Int32))) else (F_X7_readLine_188 hs he tp pos bg so vl fl wr d ta)
theorem bad_tail {c : Nat} (h1 : 1 ≤ c) (h2 : c ≤ 5) (hs he tp pos bg so vl wr : Int32) (d ta : Nat → Int32) : tailM hs he tp pos bg so vl (nI c) wr d ta = some (hs, he, pos, bg, so, vl, nI c, wr, d) := by
  unfold tailM F_X7_readLine_188
  rw [if_neg (nI_ne0 (by omega) (by omega)), bad_reads h1 h2]
  simp only [ob]
theorem tail_stop (hB : TB8 L by_ ta B) {e : Nat} (he : e ≤ L) (hs hv bg vl wr : Int32) (d : Nat → Int32) : ∃ pos' bg' so' vl' fl' wr', tailM hs hv (nI L) (nI e) bg 3 vl 0 wr d ta = some (hs, hv, pos', bg', so', vl', fl', wr', d) ∧ MS L by_ ta e pos' bg' so' vl' fl' wr' := by
  obtain ⟨pos', bg', so', vl', fl', wr', e1, e2⟩ := reads_MS hB he bg 3 vl wr
  refine ⟨pos', bg', so', vl', fl', wr', ?_, e2⟩
  unfold tailM F_X7_readLine_184 F_X7_readLine_188
  rw [if_pos rfl, if_pos rfl, req_yes]
  simp only [ob]
  rw [e1]
  simp only [ob]
theorem tail_no {so : Int32} (h : ¬ so = 3) (hs hv tp pos bg vl wr : Int32) (d ta : Nat → Int32) : tailM hs hv tp pos bg so vl 0 wr d ta = some (hs, hv, pos, bg, so, vl, 2, bg, d) := by
  unfold tailM F_X7_readLine_184 F_X7_readLine_188
  rw [if_pos rfl, if_neg h, req_no]
  simp only [ob]
  rw [show (2 : Int32) = nI 2 from rfl, bad_reads (by omega) (by omega)]
  simp only [ob]
theorem stop_step (hB : TB8 L by_ ta B) {p : Nat} {pos bg so vl fl wr : Int32} (h : MS L by_ ta p pos bg so vl fl wr) :
    (∃ p', p < p' ∧ p' ≤ L ∧ (∀ cf fp tk st cv : Int32, ∃ a b v', F_X5_takeStop (nI L) cf fp tk st (nI p) cv by_ = some (1, cf, fp, a, b, nI p', v')) ∧ ∀ (hs hv : Int32) (d : Nat → Int32), ∃ pos' bg' so' vl' fl' wr', tailM hs hv (nI L) pos bg so vl fl wr d ta = some (hs, hv, pos', bg', so', vl', fl', wr', d) ∧ MS L by_ ta p' pos' bg' so' vl' fl' wr') ∨
    (∃ c w, 1 ≤ c ∧ c ≤ 5 ∧ (∀ cf fp tk st cv : Int32, ∃ a, F_X5_takeStop (nI L) cf fp tk st (nI p) cv by_ = some (0, nI c, nI w, a)) ∧ ∀ (hs hv : Int32) (d : Nat → Int32), ∃ pos' bg' so' vl', tailM hs hv (nI L) pos bg so vl fl wr d ta = some (hs, hv, pos', bg', so', vl', nI c, nI w, d)) := by
  obtain ⟨k, s, e, v, ⟨⟨t1, t2, t3, t4, t5, t6⟩, hc, hm⟩, ⟨hk, rfl, rfl, rfl, hv, rfl⟩ | ⟨rfl, rfl, rfl⟩⟩ := h
  · by_cases c : k = 3
    · subst c
      left
      refine ⟨e, by have := t5 (by omega) hk; omega, (t4 hk).1, ?_, fun hs hv d => tail_stop hB (t4 hk).1 hs hv _ _ _ d⟩
      intro cf fp tk st cv
      unfold F_X5_takeStop F_X5_takeStop_23
      rw [(hc cf fp tk st cv).1 hk]
      simp only [ob]
      rw [if_neg i10, if_pos (by decide)]
      exact ⟨_, _, _, rfl⟩
    · have q : ¬ nI k = 3 := fun h => c ((b_eq k (by omega) 3 (by omega)).1 h)
      right
      refine ⟨2, s, by omega, by omega, ?_, fun hs hv d => ⟨_, _, _, _, tail_no q hs hv _ _ _ _ _ d ta⟩⟩
      intro cf fp tk st cv
      unfold F_X5_takeStop F_X5_refuse
      rw [(hc cf fp tk st cv).1 hk]
      simp only [ob]
      rw [if_neg i10, if_neg q, if_pos trivial]
      exact ⟨_, rfl⟩
  · right
    refine ⟨1, s, by omega, by omega, ?_, fun hs hv d => ⟨_, _, _, _, bad_tail (c := 1) (by omega) (by omega) hs hv _ _ _ _ _ _ d ta⟩⟩
    intro cf fp tk st cv
    obtain ⟨t', e', v', z⟩ := (hc cf fp tk st cv).2 rfl
    unfold F_X5_takeStop
    rw [z]
    simp only [ob]
    rw [if_pos trivial]
    exact ⟨_, rfl⟩
/-! names -/
theorem sc_tab : ∀ j, j < 6 → ∀ i, i < 5 → (¬ sLn j ≤ nI i ∧ (j < 6 ∧ ¬ nI i < 0 ∧ nI i < Int32.ofNat (sLen.getD j 0) ∧ inb (nI i) (sLen.getD j 0))) := by decide
theorem sl_tab : ∀ j, j < 6 → sLn j = 5 := by decide
theorem isN_step (hB : TB8 L by_ ta B) {j i s fu : Nat} {nx : Int32} (hj : j < 6) (hi : i < 5) (hs : s + i < L) : F_X5_isNamed_20 (fu + 1) (nI s) nx by_ j (nI i) = if nI (B (s + i)) = sCh j (nI i) then F_X5_isNamed_20 fu (nI s) nx by_ j (nI (i + 1)) else some 0 := by
  obtain ⟨a1, a2⟩ := sc_tab j hj i hi
  have hL := hB.1
  rw [F_X5_isNamed_20, chk_pos hj, if_neg a1, nI_add, chk_pos (inb_nI (by omega) (by decide)), chk_pos a2, cl_nI (by omega), (hB.2 _ hs).1, nI_1]
theorem isN_end {j s fu : Nat} {nx : Int32} (hj : j < 6) : F_X5_isNamed_20 (fu + 1) (nI s) nx by_ j (nI 5) = some 1 := by
  rw [F_X5_isNamed_20, chk_pos hj, sl_tab j hj, if_pos (by decide)]
theorem nm_cases (hB : TB8 L by_ ta B) {j s e : Nat} (hj : j < 6) (hs : s ≤ e) (he : e ≤ L) : (F_X5_isNamed (nI s) (nI e) by_ j = some 0 ∧ F_X7_is (nI L) (nI e) (nI s) ta (sCh j 0) (sCh j 1) (sCh j 2) (sCh j 3) (sCh j 4) = some 0) ∨ (F_X5_isNamed (nI s) (nI e) by_ j = some 1 ∧ F_X7_is (nI L) (nI e) (nI s) ta (sCh j 0) (sCh j 1) (sCh j 2) (sCh j 3) (sCh j 4) = some 1) := by
  have hL := hB.1
  unfold F_X5_isNamed F_X7_is
  rw [chk_pos hj, pk_sub hs, sl_tab j hj]
  by_cases c : e - s = 5
  · have c' : nI (e - s) = 5 := by rw [c]; rfl
    obtain ⟨g, hg⟩ : ∃ g, FU = g + 1 + 1 + 1 + 1 + 1 + 1 := ⟨1994, rfl⟩
    rw [if_pos c', if_pos c', hg]
    have s0 := isN_step hB (j := j) (i := 0) (s := s) (fu := g + 1 + 1 + 1 + 1 + 1) (nx := nI e) hj (by omega) (by omega)
    have s1 := isN_step hB (j := j) (i := 1) (s := s) (fu := g + 1 + 1 + 1 + 1) (nx := nI e) hj (by omega) (by omega)
    have s2 := isN_step hB (j := j) (i := 2) (s := s) (fu := g + 1 + 1 + 1) (nx := nI e) hj (by omega) (by omega)
    have s3 := isN_step hB (j := j) (i := 3) (s := s) (fu := g + 1 + 1) (nx := nI e) hj (by omega) (by omega)
    have s4 := isN_step hB (j := j) (i := 4) (s := s) (fu := g + 1) (nx := nI e) hj (by omega) (by omega)
    have s5 := isN_end (by_ := by_) (j := j) (s := s) (fu := g) (nx := nI e) hj
    rw [byteA hB (show s < L by omega), show nI s + 1 = nI (s + 1) from nI_add s 1, byteA hB (show s + 1 < L by omega), show nI s + 2 = nI (s + 2) from nI_add s 2, byteA hB (show s + 2 < L by omega), show nI s + 3 = nI (s + 3) from nI_add s 3, byteA hB (show s + 3 < L by omega), show nI s + 4 = nI (s + 4) from nI_add s 4, byteA hB (show s + 4 < L by omega)]
    simp only [ob]
    rw [show (0 : Int32) = nI 0 from rfl, s0]
    by_cases d0 : nI (B (s + 0)) = sCh j (nI 0)
    · rw [if_pos d0, if_pos (show nI (B s) = sCh j (nI 0) from d0), s1]
      by_cases d1 : nI (B (s + 1)) = sCh j (nI 1)
      · rw [if_pos d1, if_pos (show nI (B (s + 1)) = sCh j 1 from d1), s2]
        by_cases d2 : nI (B (s + 2)) = sCh j (nI 2)
        · rw [if_pos d2, if_pos (show nI (B (s + 2)) = sCh j 2 from d2), s3]
          by_cases d3 : nI (B (s + 3)) = sCh j (nI 3)
          · rw [if_pos d3, if_pos (show nI (B (s + 3)) = sCh j 3 from d3), s4]
            by_cases d4 : nI (B (s + 4)) = sCh j (nI 4)
            · rw [if_pos d4, if_pos (show nI (B (s + 4)) = sCh j 4 from d4), s5]
              right; exact ⟨rfl, rfl⟩
            · rw [if_neg d4, if_neg (show ¬ nI (B (s + 4)) = sCh j 4 from d4)]
              left; exact ⟨rfl, rfl⟩
          · rw [if_neg d3, if_neg (show ¬ nI (B (s + 3)) = sCh j 3 from d3)]
            left; exact ⟨rfl, rfl⟩
        · rw [if_neg d2, if_neg (show ¬ nI (B (s + 2)) = sCh j 2 from d2)]
          left; exact ⟨rfl, rfl⟩
      · rw [if_neg d1, if_neg (show ¬ nI (B (s + 1)) = sCh j 1 from d1)]
        left; exact ⟨rfl, rfl⟩
    · rw [if_neg d0, if_neg (show ¬ nI (B s) = sCh j (nI 0) from d0)]
      left; exact ⟨rfl, rfl⟩
  · have c' : ¬ nI (e - s) = 5 := by
      intro h
      have h2 : (nI (e - s)).toInt = (5 : Int32).toInt := by rw [h]
      rw [nI_toInt (by omega), show (5 : Int32).toInt = 5 from rfl] at h2
      omega
    rw [if_neg c', if_neg c']
    left; exact ⟨rfl, rfl⟩
theorem name_cases (hB : TB8 L by_ ta B) {s e : Nat} (hs : s ≤ e) (he : e ≤ L) :
    (∃ c, c < 4 ∧ F_X5_sortNamed (nI s) (nI e) by_ = some (nI c) ∧ F_X7_lineNow (nI L) (nI e) (nI s) ta = some (nI c)) ∨
    (F_X5_sortNamed (nI s) (nI e) by_ = some (-1) ∧ F_X5_isNamed (nI s) (nI e) by_ 4 = some 1 ∧ F_X7_lineNow (nI L) (nI e) (nI s) ta = some 4) ∨
    (F_X5_sortNamed (nI s) (nI e) by_ = some (-1) ∧ F_X5_isNamed (nI s) (nI e) by_ 4 = some 0 ∧ F_X5_isNamed (nI s) (nI e) by_ 5 = some 1 ∧ F_X7_lineNow (nI L) (nI e) (nI s) ta = some 5) ∨
    (F_X5_sortNamed (nI s) (nI e) by_ = some (-1) ∧ F_X5_isNamed (nI s) (nI e) by_ 4 = some 0 ∧ F_X5_isNamed (nI s) (nI e) by_ 5 = some 0 ∧ F_X7_lineNow (nI L) (nI e) (nI s) ta = some (-4)) := by
  have m0 := nm_cases hB (j := 0) (by omega) hs he
  have m1 := nm_cases hB (j := 1) (by omega) hs he
  have m2 := nm_cases hB (j := 2) (by omega) hs he
  have m3 := nm_cases hB (j := 3) (by omega) hs he
  have m4 := nm_cases hB (j := 4) (by omega) hs he
  have m5 := nm_cases hB (j := 5) (by omega) hs he
  rw [show sCh 0 0 = 112 by decide, show sCh 0 1 = 108 by decide, show sCh 0 2 = 97 by decide, show sCh 0 3 = 105 by decide, show sCh 0 4 = 110 by decide] at m0
  rw [show sCh 1 0 = 113 by decide, show sCh 1 1 = 117 by decide, show sCh 1 2 = 105 by decide, show sCh 1 3 = 99 by decide, show sCh 1 4 = 107 by decide] at m1
  rw [show sCh 2 0 = 104 by decide, show sCh 2 1 = 101 by decide, show sCh 2 2 = 97 by decide, show sCh 2 3 = 118 by decide, show sCh 2 4 = 121 by decide] at m2
  rw [show sCh 3 0 = 115 by decide, show sCh 3 1 = 116 by decide, show sCh 3 2 = 105 by decide, show sCh 3 3 = 102 by decide, show sCh 3 4 = 102 by decide] at m3
  rw [show sCh 4 0 = 115 by decide, show sCh 4 1 = 105 by decide, show sCh 4 2 = 103 by decide, show sCh 4 3 = 110 by decide, show sCh 4 4 = 115 by decide] at m4
  rw [show sCh 5 0 = 101 by decide, show sCh 5 1 = 118 by decide, show sCh 5 2 = 101 by decide, show sCh 5 3 = 114 by decide, show sCh 5 4 = 121 by decide] at m5
  unfold F_X5_sortNamed F_X7_lineNow
  rcases m0 with ⟨a, b⟩ | ⟨a, b⟩
  · rw [a, b]; simp only [ob]; rw [if_pos trivial]
    rcases m1 with ⟨a, b⟩ | ⟨a, b⟩
    · rw [a, b]; simp only [ob]; rw [if_pos trivial]
      rcases m2 with ⟨a, b⟩ | ⟨a, b⟩
      · rw [a, b]; simp only [ob]; rw [if_pos trivial]
        rcases m3 with ⟨a, b⟩ | ⟨a, b⟩
        · rw [a, b]; simp only [ob]; rw [if_pos trivial]
          rcases m4 with ⟨a, b⟩ | ⟨a, b⟩
          · rw [a, b]; simp only [ob]; rw [if_pos trivial]
            rcases m5 with ⟨a5, b5⟩ | ⟨a5, b5⟩
            · rw [a5, b5]; simp only [ob]; rw [if_pos trivial]
              right; right; right; exact ⟨by trivial, by trivial, by trivial, by trivial⟩
            · rw [a5, b5]; simp only [ob]; rw [if_neg i10]
              right; right; left; exact ⟨by trivial, by trivial, by trivial, by trivial⟩
          · rw [a, b]; simp only [ob]; rw [if_neg i10]
            right; left; exact ⟨by trivial, by trivial, by trivial⟩
        · rw [a, b]; simp only [ob]; rw [if_neg i10]
          left; exact ⟨3, by omega, rfl, rfl⟩
      · rw [a, b]; simp only [ob]; rw [if_neg i10]
        left; exact ⟨2, by omega, rfl, rfl⟩
    · rw [a, b]; simp only [ob]; rw [if_neg i10]
      left; exact ⟨1, by omega, rfl, rfl⟩
  · rw [a, b]; simp only [ob]; rw [if_neg i10]
    left; exact ⟨0, by omega, rfl, rfl⟩
end
