/-! text: tokens -/
def TB8 (L : Nat) (by_ ta : Nat → Int32) (B : Nat → Nat) : Prop := L ≤ 160 ∧ ∀ i, i < L → by_ i = nI (B i) ∧ ta i = nI (B i) ∧ B i < 128
/-- a run of bytes from lo to hi -/
def runP (B : Nat → Nat) (L lo hi i j : Nat) : Prop := i ≤ j ∧ j ≤ L ∧ (∀ q, i ≤ q → q < j → lo ≤ B q ∧ B q ≤ hi) ∧ (j < L → ¬ (lo ≤ B j ∧ B j ≤ hi))
theorem run_ex (B : Nat → Nat) (L lo hi : Nat) : ∀ m i, i + m = L → ∃ j, runP B L lo hi i j := by
  intro m
  induction m with
  | zero => intro i h; exact ⟨i, Nat.le_refl _, by omega, fun q a b => absurd b (by omega), fun h2 => absurd h2 (by omega)⟩
  | succ m ih =>
    intro i h
    by_cases c : lo ≤ B i ∧ B i ≤ hi
    · obtain ⟨j, h1, h2, h3, h4⟩ := ih (i + 1) (by omega)
      refine ⟨j, by omega, h2, ?_, h4⟩
      intro q a b
      by_cases d : q = i
      · subst d; exact c
      · exact h3 q (by omega) b
    · exact ⟨i, Nat.le_refl _, by omega, fun q a b => absurd b (by omega), fun _ => c⟩
section
variable {L : Nat} {by_ ta : Nat → Int32} {B : Nat → Nat}
theorem eor_loop (hB : TB8 L by_ ta B) {lo hi j : Nat} (hlo : lo < 200) (hhi : hi < 200) : ∀ (m i fu : Nat), i + m = j → m < fu → runP B L lo hi i j → F_X5_endOfRun_3 fu (nI L) by_ (nI lo) (nI hi) (nI i) = some (nI j) := by
  obtain ⟨hL, hb⟩ := hB
  intro m
  induction m with
  | zero =>
    intro i fu h1 h2 hr
    obtain ⟨fu, rfl⟩ : ∃ g, fu = g + 1 := ⟨fu - 1, by omega⟩
    obtain rfl : i = j := by omega
    obtain ⟨_, r2, _, r4⟩ := hr
    rw [F_X5_endOfRun_3]
    by_cases c : L ≤ i
    · rw [if_pos (nI_le c (by omega))]
    · obtain ⟨b1, b2, b3⟩ := hb i (by omega)
      rw [if_neg (nI_ge (by omega) (by omega)), chk_pos (inb_nI (by omega) (by decide)), chk_pos (inb_nI (by omega) (by decide)), cl_nI (by omega), b1]
      by_cases d : B i < lo
      · rw [if_pos (nI_lt d (by omega))]
      · have d2 : ¬ nI (B i) < nI lo := by rw [nI_ltI (by omega) (by omega)]; exact d
        have d3 : nI hi < nI (B i) := nI_lt (by have := r4 (by omega); omega) (by omega)
        rw [if_neg d2, if_pos d3]
  | succ m ih =>
    intro i fu h1 h2 hr
    obtain ⟨fu, rfl⟩ : ∃ g, fu = g + 1 := ⟨fu - 1, by omega⟩
    obtain ⟨r1, r2, r3, r4⟩ := hr
    obtain ⟨b1, b2, b3⟩ := hb i (by omega)
    obtain ⟨q1, q2⟩ := r3 i (by omega) (by omega)
    rw [F_X5_endOfRun_3, if_neg (nI_ge (by omega) (by omega)), chk_pos (inb_nI (by omega) (by decide)), chk_pos (inb_nI (by omega) (by decide)), cl_nI (by omega), b1]
    have d2 : ¬ nI (B i) < nI lo := by rw [nI_ltI (by omega) (by omega)]; omega
    have d3 : ¬ nI hi < nI (B i) := by rw [nI_ltI (by omega) (by omega)]; omega
    rw [if_neg d2, if_neg d3, nI_1]
    exact ih (i + 1) fu (by omega) (by omega) ⟨by omega, r2, fun q a b => r3 q (by omega) b, r4⟩
theorem eor_eq (hB : TB8 L by_ ta B) {lo hi i j : Nat} (hlo : lo < 200) (hhi : hi < 200) (hr : runP B L lo hi i j) : F_X5_endOfRun (nI L) by_ (nI i) (nI lo) (nI hi) = some (nI j) :=
  eor_loop hB hlo hhi (j - i) i FU (by have := hr.1; omega) (by have := hr.2.1; have := hB.1; unfold FU; omega) hr
theorem byteA (hB : TB8 L by_ ta B) {p : Nat} (h : p < L) : F_X7_byteAt (nI L) ta (nI p) = some (nI (B p)) := by
  obtain ⟨hL, hb⟩ := hB
  unfold F_X7_byteAt
  rw [if_neg (nI_ge h (by omega)), chk_pos (inb_nI (by omega) (by decide)), cl_nI (by omega), (hb p h).2.1]
theorem byteZ (hB : TB8 L by_ ta B) : F_X7_byteAt (nI L) ta (nI L) = some (-1) := by
  unfold F_X7_byteAt
  rw [if_pos (nI_le (Nat.le_refl _) (by have := hB.1; omega))]
theorem in_az : ∀ b, b < 128 → F_X7_in (nI b).toInt64 97 122 = some (if 97 ≤ b ∧ b ≤ 122 then 1 else 0) := by decide +kernel
theorem in_09 : ∀ b, b < 128 → F_X7_in (nI b).toInt64 48 57 = some (if 48 ≤ b ∧ b ≤ 57 then 1 else 0) := by decide +kernel
theorem in_az1 : F_X7_in (-1 : Int32).toInt64 97 122 = some 0 := by decide
theorem in_091 : F_X7_in (-1 : Int32).toInt64 48 57 = some 0 := by decide
theorem b_eq : ∀ b, b < 128 → ∀ c, c < 128 → (nI b = nI c ↔ b = c) := by
  intro b hb c hc
  rw [i_eq, nI_toInt (by omega), nI_toInt (by omega)]; omega
/-- the reference skips blanks -/
theorem reads8_skip (hB : TB8 L by_ ta B) {bg so vl fl wr : Int32} {j : Nat} : ∀ (m i fu : Nat), i + m = j → m < fu → runP B L 32 32 i j → ∃ g, fu = m + (g + 1) ∧ F_X7_reads_8 fu (nI L) (nI i) bg so vl fl wr ta = F_X7_reads_8 (g + 1) (nI L) (nI j) bg so vl fl wr ta := by
  intro m
  induction m with
  | zero =>
    intro i fu h1 h2 hr
    obtain ⟨fu, rfl⟩ : ∃ g, fu = g + 1 := ⟨fu - 1, by omega⟩
    obtain rfl : i = j := by omega
    exact ⟨fu, by omega, rfl⟩
  | succ m ih =>
    intro i fu h1 h2 hr
    obtain ⟨fu, rfl⟩ : ∃ g, fu = g + 1 := ⟨fu - 1, by omega⟩
    obtain ⟨r1, r2, r3, r4⟩ := hr
    obtain ⟨q1, q2⟩ := r3 i (by omega) (by omega)
    have e : B i = 32 := by omega
    obtain ⟨g, g1, g2⟩ := ih (i + 1) fu (by omega) (by omega) ⟨by omega, r2, fun q a b => r3 q (by omega) b, r4⟩
    refine ⟨g, by omega, ?_⟩
    rw [← g2, F_X7_reads_8, byteA hB (by omega), e]
    simp only [ob]
    rw [if_pos (by decide), nI_1]
theorem reads82_eq (hB : TB8 L by_ ta B) {bg so vl fl wr : Int32} {j : Nat} : ∀ (m i fu : Nat), i + m = j → m < fu → runP B L 97 122 i j → F_X7_reads_82 fu (nI L) (nI i) bg so vl fl wr ta = some (nI j, bg, so, vl, fl, wr) := by
  intro m
  induction m with
  | zero =>
    intro i fu h1 h2 hr
    obtain ⟨fu, rfl⟩ : ∃ g, fu = g + 1 := ⟨fu - 1, by omega⟩
    obtain rfl : i = j := by omega
    obtain ⟨_, r2, _, r4⟩ := hr
    rw [F_X7_reads_82]
    by_cases c : i = L
    · subst c
      rw [byteZ hB]
      simp only [ob]
      rw [in_az1]
      simp only [ob]
      rw [if_pos trivial]
    · rw [byteA hB (by omega)]
      simp only [ob]
      rw [in_az _ (hB.2 i (by omega)).2.2, if_neg (r4 (by omega))]
      simp only [ob]
      rw [if_pos trivial]
  | succ m ih =>
    intro i fu h1 h2 hr
    obtain ⟨fu, rfl⟩ : ∃ g, fu = g + 1 := ⟨fu - 1, by omega⟩
    obtain ⟨r1, r2, r3, r4⟩ := hr
    rw [F_X7_reads_82, byteA hB (by omega)]
    simp only [ob]
    rw [in_az _ (hB.2 i (by omega)).2.2, if_pos (r3 i (by omega) (by omega))]
    simp only [ob]
    rw [if_neg i10, nI_1]
    exact ih (i + 1) fu (by omega) (by omega) ⟨by omega, r2, fun q a b => r3 q (by omega) b, r4⟩
/-- a number's value, as far as two figures -/
def valS (B : Nat → Nat) (s : Nat) : Nat → Int32
  | 0 => 0
  | n + 1 => if n < 2 then (10 * valS B s n + nI (B (s + n))) - 48 else valS B s n
theorem reads140_eq (hB : TB8 L by_ ta B) {so wr : Int32} {s j : Nat} : ∀ (m i fu : Nat), i + m = j → m < fu → s ≤ i → runP B L 48 57 i j → F_X7_reads_140 fu (nI L) (nI i) (nI s) so (valS B s (i - s)) 0 wr ta = if 2 < j - s then some (nI j, nI s, so, valS B s (j - s), 1, nI s) else some (nI j, nI s, so, valS B s (j - s), 0, wr) := by
  have hL := hB.1
  intro m
  induction m with
  | zero =>
    intro i fu h1 h2 hs hr
    obtain ⟨fu, rfl⟩ : ∃ g, fu = g + 1 := ⟨fu - 1, by omega⟩
    obtain rfl : i = j := by omega
    obtain ⟨_, r2, _, r4⟩ := hr
    have fin : (if (2 : Int32) < nI i - nI s then F_X7_reads_236 (nI L) (nI i) (nI s) so (valS B s (i - s)) 0 wr ta 0 else F_X7_reads_236 (nI L) (nI i) (nI s) so (valS B s (i - s)) 0 wr ta 1) = if 2 < i - s then some (nI i, nI s, so, valS B s (i - s), 1, nI s) else some (nI i, nI s, so, valS B s (i - s), 0, wr) := by
      rw [pk_sub hs]
      by_cases c : 2 < i - s
      · rw [if_pos (show (2 : Int32) < nI (i - s) from nI_lt (a := 2) c (by omega)), if_pos c]; rfl
      · rw [if_neg (show ¬ (2 : Int32) < nI (i - s) by rw [show (2 : Int32) = nI 2 from rfl, nI_ltI (by omega) (by omega)]; exact c), if_neg c]; rfl
    rw [F_X7_reads_140]
    by_cases c : i = L
    · subst c
      rw [byteZ hB]
      simp only [ob]
      rw [in_091]
      simp only [ob]
      rw [if_pos trivial]
      exact fin
    · rw [byteA hB (by omega)]
      simp only [ob]
      rw [in_09 _ (hB.2 i (by omega)).2.2, if_neg (r4 (by omega))]
      simp only [ob]
      rw [if_pos trivial]
      exact fin
  | succ m ih =>
    intro i fu h1 h2 hs hr
    obtain ⟨fu, rfl⟩ : ∃ g, fu = g + 1 := ⟨fu - 1, by omega⟩
    obtain ⟨r1, r2, r3, r4⟩ := hr
    have z := ih (i + 1) fu (by omega) (by omega) (by omega) ⟨by omega, r2, fun q a b => r3 q (by omega) b, r4⟩
    rw [show i + 1 - s = (i - s) + 1 by omega, valS, show s + (i - s) = i by omega] at z
    rw [F_X7_reads_140, byteA hB (by omega)]
    simp only [ob]
    rw [in_09 _ (hB.2 i (by omega)).2.2, if_pos (r3 i (by omega) (by omega))]
    simp only [ob]
    rw [if_neg i10, nI_1, pk_sub hs]
    by_cases c : i - s < 2
    · rw [if_pos c] at z
      rw [if_neg (show ¬ (2 : Int32) ≤ nI (i - s) from nI_ge (b := 2) c (by omega))]
      exact z
    · rw [if_neg c] at z
      rw [if_pos (show (2 : Int32) ≤ nI (i - s) from nI_le (a := 2) (by omega) (by omega))]
      exact z
theorem readValue_eq (hB : TB8 L by_ ta B) {s e : Nat} {vl : Int32} (hs : s ≤ e) (h2 : e - s ≤ 2) (he : e ≤ L) : F_X5_readValue (nI s) (nI e) vl by_ = some (1, valS B s (e - s)) := by
  have hL := hB.1
  have loop : ∀ (m i fu : Nat), i + m = e → m < fu → s ≤ i → F_X5_readValue_10 fu (nI s) (nI e) (valS B s (i - s)) by_ (nI i) = some (1, valS B s (e - s)) := by
    intro m
    induction m with
    | zero =>
      intro i fu h3 h4 h5
      obtain ⟨fu, rfl⟩ : ∃ g, fu = g + 1 := ⟨fu - 1, by omega⟩
      obtain rfl : i = e := by omega
      rw [F_X5_readValue_10, if_pos (nI_le (Nat.le_refl _) (by omega))]
    | succ m ih =>
      intro i fu h3 h4 h5
      obtain ⟨fu, rfl⟩ : ∃ g, fu = g + 1 := ⟨fu - 1, by omega⟩
      have z := ih (i + 1) fu (by omega) (by omega) (by omega)
      rw [show i + 1 - s = (i - s) + 1 by omega, valS, if_pos (by omega), show s + (i - s) = i by omega] at z
      rw [F_X5_readValue_10, if_neg (nI_ge (by omega) (by omega)), chk_pos (inb_nI (by omega) (by decide)), cl_nI (by omega), (hB.2 i (by omega)).1, nI_1]
      exact z
  have z := loop (e - s) s FU (by omega) (by unfold FU; omega) (Nat.le_refl _)
  rw [show s - s = 0 by omega] at z
  exact z
theorem val_rng {s e : Nat} (h1 : s < e) (h2 : e - s ≤ 2) (hd : ∀ q, s ≤ q → q < e → 48 ≤ B q ∧ B q ≤ 57) : ∃ m, m < 100 ∧ valS B s (e - s) = nI m := by
  obtain ⟨a1, a2⟩ := hd s (Nat.le_refl _) h1
  have v1 : valS B s 1 = nI (B s - 48) := by
    show (10 * (0 : Int32) + nI (B (s + 0))) - 48 = _
    rw [show (10 : Int32) * 0 = 0 by decide, Int32.zero_add, Nat.add_zero, show (48 : Int32) = nI 48 from rfl, pk_sub a1]
  by_cases c : e - s = 1
  · rw [c, v1]; exact ⟨_, by omega, rfl⟩
  · have c2 : e - s = 2 := by omega
    obtain ⟨b1, b2⟩ := hd (s + 1) (by omega) (by omega)
    rw [c2]
    show ∃ m, m < 100 ∧ (10 * valS B s 1 + nI (B (s + 1))) - 48 = nI m
    rw [v1, show (10 : Int32) = nI 10 from rfl, pk_mul, nI_add, show (48 : Int32) = nI 48 from rfl, pk_sub (by omega)]
    exact ⟨_, by omega, rfl⟩
/-- what both read at p: k is 0 at the end, 1 a name, 2 a number, 3 a stop, 4 no token -/
def TokC (L : Nat) (by_ : Nat → Int32) (p k s e : Nat) (v : Int32) : Prop := ∀ fl fp tk st vl : Int32, (k < 4 → F_X5_readToken (nI L) fl fp tk st (nI p) vl by_ = some (1, fl, fp, nI k, nI s, nI e, if k = 2 then v else vl)) ∧ (k = 4 → ∃ t' e' v', F_X5_readToken (nI L) fl fp tk st (nI p) vl by_ = some (0, 1, nI s, t', nI s, e', v'))
def TokM (L : Nat) (ta : Nat → Int32) (p k s e : Nat) (v : Int32) : Prop := ∀ bg so vl wr : Int32, (k < 4 → F_X7_reads (nI L) (nI p) bg so vl 0 wr ta = some (nI e, nI s, nI k, if k = 2 then v else vl, 0, wr)) ∧ (k = 4 → ∃ p' s' v', F_X7_reads (nI L) (nI p) bg so vl 0 wr ta = some (p', nI s, s', v', 1, nI s))
def TokE (L : Nat) (by_ ta : Nat → Int32) (p k s e : Nat) (v : Int32) : Prop := (k ≤ 4 ∧ p ≤ s ∧ s ≤ L ∧ (k < 4 → e ≤ L ∧ s ≤ e) ∧ (1 ≤ k → k < 4 → s < e) ∧ (k = 2 → ∃ m, m < 100 ∧ v = nI m)) ∧ TokC L by_ p k s e v ∧ TokM L ta p k s e v
theorem tok_ex (hB : TB8 L by_ ta B) {p : Nat} (hp : p ≤ L) : ∃ k s e v, TokE L by_ ta p k s e v := by
  have hL := hB.1
  obtain ⟨s, hr⟩ := run_ex B L 32 32 (L - p) p (by omega)
  have hr0 := hr
  obtain ⟨r1, r2, r3, r4⟩ := hr0
  have ec : F_X5_endOfRun (nI L) by_ (nI p) 32 32 = some (nI s) := eor_eq hB (lo := 32) (hi := 32) (by omega) (by omega) hr
  have em : ∀ bg so vl wr : Int32, ∃ g, F_X7_reads (nI L) (nI p) bg so vl 0 wr ta = F_X7_reads_8 (g + 1) (nI L) (nI s) bg so vl 0 wr ta := by
    intro bg so vl wr
    unfold F_X7_reads
    rw [if_pos (by decide)]
    obtain ⟨g, _, e⟩ := reads8_skip hB (bg := bg) (so := so) (vl := vl) (fl := 0) (wr := wr) (s - p) p FU (by omega) (by unfold FU; omega) hr
    exact ⟨g, e⟩
  by_cases cL : s = L
  · refine ⟨0, s, s, 0, ⟨by omega, r1, r2, fun _ => ⟨r2, Nat.le_refl _⟩, fun h => absurd h (by omega), fun h => absurd h (by omega)⟩, ?_, ?_⟩
    · intro fl fp tk st vl
      refine ⟨fun _ => ?_, fun h => absurd h (by omega)⟩
      unfold F_X5_readToken
      rw [ec]
      simp only [ob]
      rw [if_neg (by rw [nI_ltI (by omega) (by omega)]; omega), if_neg (by omega)]
      rfl
    · intro bg so vl wr
      refine ⟨fun _ => ?_, fun h => absurd h (by omega)⟩
      obtain ⟨g, e⟩ := em bg so vl wr
      rw [e, F_X7_reads_8, cL, byteZ hB]
      simp only [ob]
      rw [if_neg (by decide), if_neg (by decide), if_neg (by omega)]
      rfl
  · have hs : s < L := by omega
    obtain ⟨b1, b2, b3⟩ := hB.2 s hs
    have n32 : B s ≠ 32 := by have := r4 hs; omega
    have q32 : ¬ nI (B s) = 32 := fun h => n32 ((b_eq _ b3 32 (by omega)).1 h)
    have q0 : (0 : Int32) ≤ nI (B s) := nI_le (a := 0) (by omega) (by omega)
    have hsl : nI s < nI L := nI_lt hs (by omega)
    by_cases c59 : B s = 59
    · refine ⟨3, s, s + 1, 0, ⟨by omega, r1, r2, fun _ => ⟨by omega, by omega⟩, fun _ _ => by omega, fun h => absurd h (by omega)⟩, ?_, ?_⟩
      · intro fl fp tk st vl
        refine ⟨fun _ => ?_, fun h => absurd h (by omega)⟩
        unfold F_X5_readToken
        rw [ec]
        simp only [ob]
        rw [if_pos hsl, chk_pos (inb_nI (by omega) (by decide)), cl_nI (by omega), b1, c59, if_pos (by decide), nI_1, if_neg (by omega)]
        rfl
      · intro bg so vl wr
        refine ⟨fun _ => ?_, fun h => absurd h (by omega)⟩
        obtain ⟨g, e⟩ := em bg so vl wr
        rw [e, F_X7_reads_8, byteA hB hs]
        simp only [ob]
        rw [if_neg q32, if_pos q0, in_az _ b3, if_neg (by omega)]
        simp only [ob]
        rw [if_pos trivial, in_09 _ b3, if_neg (by omega)]
        simp only [ob]
        rw [if_pos trivial, c59, if_pos (by decide), if_neg (by omega)]
        unfold F_X7_reads_260 F_X7_requires
        rw [if_neg i10]
        simp only [ob]
        rw [nI_1]
        rfl
    · have q59 : ¬ nI (B s) = 59 := fun h => c59 ((b_eq _ b3 59 (by omega)).1 h)
      by_cases caz : 97 ≤ B s ∧ B s ≤ 122
      · obtain ⟨e, he⟩ := run_ex B L 97 122 (L - s) s (by omega)
        have he0 := he
        obtain ⟨e1, e2, e3, e4⟩ := he0
        have e5 : s < e := by
          by_cases z : s = e
          · subst z; exact absurd caz (e4 hs)
          · omega
        refine ⟨1, s, e, 0, ⟨by omega, r1, r2, fun _ => ⟨e2, by omega⟩, fun _ _ => e5, fun h => absurd h (by omega)⟩, ?_, ?_⟩
        · intro fl fp tk st vl
          refine ⟨fun _ => ?_, fun h => absurd h (by omega)⟩
          unfold F_X5_readToken
          rw [ec]
          simp only [ob]
          rw [if_pos hsl, chk_pos (inb_nI (by omega) (by decide)), cl_nI (by omega), b1, if_neg q59, if_neg (show ¬ nI (B s) < 97 by rw [show (97 : Int32) = nI 97 from rfl, nI_ltI (by omega) (by omega)]; omega), if_neg (show ¬ (122 : Int32) < nI (B s) by rw [show (122 : Int32) = nI 122 from rfl, nI_ltI (by omega) (by omega)]; omega), show F_X5_endOfRun (nI L) by_ (nI s) 97 122 = some (nI e) from eor_eq hB (lo := 97) (hi := 122) (by omega) (by omega) he, if_neg (by omega)]
          simp only [ob]
          rfl
        · intro bg so vl wr
          refine ⟨fun _ => ?_, fun h => absurd h (by omega)⟩
          obtain ⟨g, eg⟩ := em bg so vl wr
          rw [eg, F_X7_reads_8, byteA hB hs]
          simp only [ob]
          rw [if_neg q32, if_pos q0, in_az _ b3, if_pos caz]
          simp only [ob]
          rw [if_neg i10, reads82_eq hB (e - s) s FU (by omega) (by unfold FU; omega) he, if_neg (by omega)]
          rfl
      · by_cases c09 : 48 ≤ B s ∧ B s ≤ 57
        · obtain ⟨e, he⟩ := run_ex B L 48 57 (L - s) s (by omega)
          have he0 := he
          obtain ⟨e1, e2, e3, e4⟩ := he0
          have e5 : s < e := by
            by_cases z : s = e
            · subst z; exact absurd c09 (e4 hs)
            · omega
          have cl : ∀ fl fp tk st vl : Int32, F_X5_readToken (nI L) fl fp tk st (nI p) vl by_ = if 2 < e - s then some (0, 1, nI s, 2, nI s, nI e, vl) else some (1, fl, fp, 2, nI s, nI e, valS B s (e - s)) := by
            intro fl fp tk st vl
            unfold F_X5_readToken
            rw [ec]
            simp only [ob]
            rw [if_pos hsl, chk_pos (inb_nI (by omega) (by decide)), cl_nI (by omega), b1, if_neg q59, if_pos (show nI (B s) < 97 from nI_lt (b := 97) (by omega) (by omega))]
            unfold F_X5_readToken_110
            rw [if_neg (show ¬ nI (B s) < 48 by rw [show (48 : Int32) = nI 48 from rfl, nI_ltI (by omega) (by omega)]; omega), if_neg (show ¬ (57 : Int32) < nI (B s) by rw [show (57 : Int32) = nI 57 from rfl, nI_ltI (by omega) (by omega)]; omega), show F_X5_endOfRun (nI L) by_ (nI s) 48 57 = some (nI e) from eor_eq hB (lo := 48) (hi := 57) (by omega) (by omega) he]
            simp only [ob]
            rw [pk_sub e1]
            by_cases c : 2 < e - s
            · rw [if_pos (show (2 : Int32) < nI (e - s) from nI_lt (a := 2) c (by omega)), if_pos c]
              unfold F_X5_refuse
              simp only [ob]
              rw [chk_pos (by decide)]
            · rw [if_neg (show ¬ (2 : Int32) < nI (e - s) by rw [show (2 : Int32) = nI 2 from rfl, nI_ltI (by omega) (by omega)]; exact c), if_neg c, readValue_eq hB e1 (by omega) e2]
              simp only [ob]
              rw [chk_pos (by decide)]
          have cm : ∀ bg so vl wr : Int32, F_X7_reads (nI L) (nI p) bg so vl 0 wr ta = if 2 < e - s then some (nI e, nI s, 2, valS B s (e - s), 1, nI s) else some (nI e, nI s, 2, valS B s (e - s), 0, wr) := by
            intro bg so vl wr
            obtain ⟨g, eg⟩ := em bg so vl wr
            rw [eg, F_X7_reads_8, byteA hB hs]
            simp only [ob]
            rw [if_neg q32, if_pos q0, in_az _ b3, if_neg caz]
            simp only [ob]
            rw [if_pos trivial, in_09 _ b3, if_pos c09]
            simp only [ob]
            rw [if_neg i10]
            have z := reads140_eq hB (so := 2) (wr := wr) (s := s) (e - s) s FU (by omega) (by unfold FU; omega) (Nat.le_refl _) he
            rw [show s - s = 0 by omega] at z
            exact z
          by_cases c : 2 < e - s
          · refine ⟨4, s, e, 0, ⟨by omega, r1, r2, fun h => absurd h (by omega), fun _ h => absurd h (by omega), fun h => absurd h (by omega)⟩, ?_, ?_⟩
            · intro fl fp tk st vl
              refine ⟨fun h => absurd h (by omega), fun _ => ?_⟩
              rw [cl, if_pos c]
              exact ⟨_, _, _, rfl⟩
            · intro bg so vl wr
              refine ⟨fun h => absurd h (by omega), fun _ => ?_⟩
              rw [cm, if_pos c]
              exact ⟨_, _, _, rfl⟩
          · refine ⟨2, s, e, valS B s (e - s), ⟨by omega, r1, r2, fun _ => ⟨e2, e1⟩, fun _ _ => e5, fun _ => val_rng e5 (by omega) e3⟩, ?_, ?_⟩
            · intro fl fp tk st vl
              refine ⟨fun _ => ?_, fun h => absurd h (by omega)⟩
              rw [cl, if_neg c, if_pos rfl]
              rfl
            · intro bg so vl wr
              refine ⟨fun _ => ?_, fun h => absurd h (by omega)⟩
              rw [cm, if_neg c, if_pos rfl]
              rfl
        · refine ⟨4, s, s, 0, ⟨by omega, r1, r2, fun h => absurd h (by omega), fun _ h => absurd h (by omega), fun h => absurd h (by omega)⟩, ?_, ?_⟩
          · intro fl fp tk st vl
            refine ⟨fun h => absurd h (by omega), fun _ => ?_⟩
            have key : F_X5_readToken_169 (nI L) fl fp tk (nI s) (nI s) vl by_ = some (0, 1, nI s, tk, nI s, nI s, vl) := by
              unfold F_X5_readToken_169 F_X5_refuse
              simp only [ob]
              rw [chk_pos (by decide)]
            have key2 : ¬ (48 ≤ B s ∧ B s ≤ 57) → F_X5_readToken_110 (nI L) fl fp tk (nI s) (nI s) vl by_ (nI (B s)) = some (0, 1, nI s, tk, nI s, nI s, vl) := by
              intro h
              unfold F_X5_readToken_110
              by_cases d : B s < 48
              · rw [if_pos (show nI (B s) < 48 from nI_lt (b := 48) d (by omega))]; exact key
              · rw [if_neg (show ¬ nI (B s) < 48 by rw [show (48 : Int32) = nI 48 from rfl, nI_ltI (by omega) (by omega)]; omega), if_pos (show (57 : Int32) < nI (B s) from nI_lt (a := 57) (by omega) (by omega))]; exact key
            unfold F_X5_readToken
            rw [ec]
            simp only [ob]
            rw [if_pos hsl, chk_pos (inb_nI (by omega) (by decide)), cl_nI (by omega), b1, if_neg q59]
            by_cases d : B s < 97
            · rw [if_pos (show nI (B s) < 97 from nI_lt (b := 97) d (by omega)), key2 c09]
              exact ⟨_, _, _, rfl⟩
            · rw [if_neg (show ¬ nI (B s) < 97 by rw [show (97 : Int32) = nI 97 from rfl, nI_ltI (by omega) (by omega)]; omega), if_pos (show (122 : Int32) < nI (B s) from nI_lt (a := 122) (by omega) (by omega)), key2 c09]
              exact ⟨_, _, _, rfl⟩
          · intro bg so vl wr
            refine ⟨fun h => absurd h (by omega), fun _ => ?_⟩
            obtain ⟨g, eg⟩ := em bg so vl wr
            rw [eg, F_X7_reads_8, byteA hB hs]
            simp only [ob]
            rw [if_neg q32, if_pos q0, in_az _ b3, if_neg caz]
            simp only [ob]
            rw [if_pos trivial, in_09 _ b3, if_neg c09]
            simp only [ob]
            rw [if_pos trivial, if_neg q59]
            unfold F_X7_reads_260 F_X7_requires
            rw [if_pos rfl, if_pos rfl]
            simp only [ob]
            exact ⟨_, _, _, rfl⟩
end
