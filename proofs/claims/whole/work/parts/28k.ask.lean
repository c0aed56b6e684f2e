/-! ask -/
/-- how many of the first m starts that go as seen stand at p -/
def cnA (b : Nat → Bool) (pl : Nat → Nat) (p : Nat) : Nat → Nat
  | 0 => 0
  | m + 1 => if b m = true then (if pl m = p then cnA b pl p m + 1 else cnA b pl p m) else cnA b pl p m
theorem cnA_le (b : Nat → Bool) (pl : Nat → Nat) (p : Nat) : ∀ m, cnA b pl p m ≤ cB b m
  | 0 => Nat.le_refl _
  | m + 1 => by
    have := cnA_le b pl p m
    unfold cnA cB
    split
    · split <;> omega
    · exact this
theorem cB_le (b : Nat → Bool) : ∀ m, cB b m ≤ m
  | 0 => Nat.le_refl _
  | m + 1 => by
    have := cB_le b m
    unfold cB
    split <;> omega
theorem cnA_pos {b : Nat → Bool} {pl : Nat → Nat} {i : Nat} (hb : b i = true) : ∀ m, i < m → 1 ≤ cnA b pl (pl i) m
  | 0, h => absurd h (Nat.not_lt_zero _)
  | m + 1, h => by
    unfold cnA
    by_cases c : i = m
    · subst c
      rw [if_pos hb, if_pos rfl]; omega
    · have := cnA_pos (pl := pl) hb m (by omega)
      split
      · split <;> omega
      · exact this
theorem cB_pos {b : Nat → Bool} : ∀ m, 1 ≤ cB b m → ∃ i, i < m ∧ b i = true
  | 0, h => absurd h (by show ¬ 1 ≤ 0; omega)
  | m + 1, h => by
    by_cases c : b m = true
    · exact ⟨m, by omega, c⟩
    · rw [cB, if_neg c] at h
      obtain ⟨i, h1, h2⟩ := cB_pos m h
      exact ⟨i, by omega, h2⟩
theorem cnA_one {b : Nat → Bool} {pl : Nat → Nat} {p M : Nat} (hi : ∀ i j, i < M → j < M → pl i = pl j → i = j) : ∀ m, m ≤ M → cnA b pl p m ≤ 1 ∧ ((∀ i, i < m → pl i ≠ p) → cnA b pl p m = 0)
  | 0, _ => ⟨by show 0 ≤ 1; omega, fun _ => rfl⟩
  | m + 1, h => by
    obtain ⟨h1, h2⟩ := cnA_one (b := b) (p := p) hi m (by omega)
    unfold cnA
    by_cases c : b m = true
    · rw [if_pos c]
      by_cases d : pl m = p
      · rw [if_pos d]
        have h3 := h2 (fun i hi' e => by
          have := hi i m (by omega) (by omega) (e.trans d.symm)
          omega)
        exact ⟨by omega, fun z => absurd d (z m (by omega))⟩
      · rw [if_neg d]
        exact ⟨h1, fun z => h2 (fun i hi' => z i (by omega))⟩
    · rw [if_neg c]
      exact ⟨h1, fun z => h2 (fun i hi' => z i (by omega))⟩
theorem e8_addn (x : Int32) (i : Nat) : e8 (x + nI i) = (e8 x + i) % 8 := by
  have h1 : (x + nI i).toBitVec.toNat = (x.toBitVec.toNat + i % 2 ^ 32) % 2 ^ 32 := by
    show (x.toBitVec + (nI i).toBitVec).toNat = _
    rw [BitVec.toNat_add]
    rfl
  unfold e8
  rw [h1]
  omega
theorem bits_count (b : Nat → Bool) : F_J6_bitCount_0f7a4 (mkB b 8) = some (nI (cB b 8)) := by
  have key : ∀ b0 b1 b2 b3 b4 b5 b6 b7 : Bool, F_J6_bitCount_0f7a4 (mkB (fun i => match i with | 0 => b0 | 1 => b1 | 2 => b2 | 3 => b3 | 4 => b4 | 5 => b5 | 6 => b6 | _ => b7) 8) = some (nI (cB (fun i => match i with | 0 => b0 | 1 => b1 | 2 => b2 | 3 => b3 | 4 => b4 | 5 => b5 | 6 => b6 | _ => b7) 8)) := by decide +kernel
  exact key (b 0) (b 1) (b 2) (b 3) (b 4) (b 5) (b 6) (b 7)
section
variable {st nw wa : Nat → Int32} {mv sl : Int32}
theorem ask154_loop {kk : Int32 → Int32 → Int32 → Int32 → (Nat → Int32) → (Nat → Int32) → (Nat → Int32) → (Nat → Int32) → Int32 → Int32 → Option (Int32 × Int32 × Int32 × Int32 × Int32 × (Nat → Int32) × (Nat → Int32) × (Nat → Int32))} {bc bm x2 : Int32} {bp : Nat → Int32} {c : Nat → Nat} {n : Nat} (hn : n ≤ 40) (hbp : ∀ p, p < 8 → bp (8 * n + p) = nI (c p)) (hc : ∀ p, p < 8 → c p ≤ 8) : ∀ (m p fu w : Nat), p + m = 8 → m < fu → w ≤ 8 →
    ∃ w', F_X7_ask_154 fu kk mv sl bc bm st nw wa bp x2 (nI n) (nI w) (nI p) = (F_X7_judges bc bm (nI n) (nI w')).bind (fun (w2, w3) => kk mv sl w2 w3 st nw wa bp x2 (nI (n + 1))) ∧ w ≤ w' ∧ w' ≤ 8 ∧ (∀ p', p ≤ p' → p' < 8 → c p' ≤ w') ∧ (w' = w ∨ ∃ p', p' < 8 ∧ c p' = w') := by
  intro m
  induction m with
  | zero =>
    intro p fu w h1 h2 h3
    obtain ⟨fu, rfl⟩ : ∃ g, fu = g + 1 := ⟨fu - 1, by omega⟩
    obtain rfl : p = 8 := by omega
    unfold F_X7_ask_154
    rw [if_pos (by decide), nI_1]
    exact ⟨w, rfl, Nat.le_refl _, h3, fun p' a b => absurd a (by omega), Or.inl rfl⟩
  | succ m ih =>
    intro p fu w h1 h2 h3
    obtain ⟨fu, rfl⟩ : ∃ g, fu = g + 1 := ⟨fu - 1, by omega⟩
    unfold F_X7_ask_154
    have c8 : ¬ (8 : Int32) ≤ nI p := nI_ge (b := 8) (by omega) (by omega)
    have hcp := hc p (by omega)
    rw [if_neg c8, show (8 : Int32) * nI n + nI p = nI (8 * n + p) by rw [show (8 : Int32) = nI 8 from rfl, pk_mul, nI_add], chk_pos (inb_nI (by omega) (by decide)), chk_pos (inb_nI (by omega) (by decide)), cl_nI (by omega), hbp p (by omega), nI_1]
    by_cases d : c p ≤ w
    · rw [if_pos (nI_le d (by omega))]
      obtain ⟨w', e, a1, a2, a3, a4⟩ := ih (p + 1) fu w (by omega) (by omega) h3
      refine ⟨w', e, a1, a2, ?_, a4⟩
      intro p' h4 h5
      by_cases ce : p' = p
      · subst ce; omega
      · exact a3 p' (by omega) h5
    · rw [if_neg (nI_ge (by omega) (by omega))]
      obtain ⟨w', e, a1, a2, a3, a4⟩ := ih (p + 1) fu (c p) (by omega) (by omega) hcp
      refine ⟨w', e, by omega, a2, ?_, ?_⟩
      · intro p' h4 h5
        by_cases ce : p' = p
        · subst ce; omega
        · exact a3 p' (by omega) h5
      · rcases a4 with a4 | a4
        · right; exact ⟨p, by omega, a4.symm⟩
        · right; exact a4
/-- what 'ask' answers -/
def askA (M : Nat) (x2 : Int32) : Int32 := if 2 ≤ M then (if x2 = 0 then 0 else 1) else -4
theorem ask141_loop {x2 : Int32} {bp : Nat → Int32} {b : Nat → Bool} {pl : Nat → Nat → Nat} (hpl : ∀ i n, pl i n < 8) (h0 : ∀ i j, i < 8 → j < 8 → pl i 0 = pl j 0 → i = j) (hbp : ∀ n p, n ≤ 40 → p < 8 → bp (8 * n + p) = nI (cnA b (fun i => pl i n) p 8)) : ∀ (m n fu : Nat) (bc bm : Int32), n + m = 41 → m < fu →
    ((n = 0 ∧ bc = -4 ∧ bm = nI (cB b 8)) ∨ (1 ≤ n ∧ ((2 ≤ cB b 8 ∧ bc = 0 ∧ bm = 1) ∨ (cB b 8 < 2 ∧ bc = -4 ∧ bm = nI (cB b 8))))) →
    ∃ w, F_X7_ask_141 fu mv sl bc bm st nw wa bp x2 (nI n) = some (askA (cB b 8) x2, w) := by
  have hM := cB_le b 8
  intro m
  induction m with
  | zero =>
    intro n fu bc bm h1 h2 h3
    obtain ⟨fu, rfl⟩ : ∃ g, fu = g + 1 := ⟨fu - 1, by omega⟩
    obtain rfl : n = 41 := by omega
    unfold F_X7_ask_141
    rw [if_pos (by decide), judged_eq]
    simp only [ob]
    unfold askA
    rcases h3 with ⟨a, _⟩ | ⟨_, ⟨a, rfl, rfl⟩ | ⟨a, rfl, rfl⟩⟩
    · omega
    · rw [if_pos a, if_neg (by decide)]
      exact ⟨_, rfl⟩
    · rw [if_pos rfl, if_neg (show ¬ 2 ≤ cB b 8 by omega)]
      exact ⟨_, rfl⟩
  | succ m ih =>
    intro n fu bc bm h1 h2 h3
    obtain ⟨fu, rfl⟩ : ∃ g, fu = g + 1 := ⟨fu - 1, by omega⟩
    unfold F_X7_ask_141
    have c : ¬ (40 : Int32) < nI n := by rw [show (40 : Int32) = nI 40 from rfl, nI_ltI (by decide) (by omega)]; omega
    rw [if_neg c]
    obtain ⟨w, e, a1, a2, a3, a4⟩ := ask154_loop (mv := mv) (sl := sl) (st := st) (nw := nw) (wa := wa) (kk := fun (v_moved : Int32) (v_slipTicks : Int32) (v_bestCode : Int32) (v_bestMuch : Int32) (v_st : Nat → Int32) (v_now : Nat → Int32) (v_wereAt : Nat → Int32) (v_byPlace : Nat → Int32) (x2 : Int32) (x5 : Int32) => F_X7_ask_141 fu v_moved v_slipTicks v_bestCode v_bestMuch v_st v_now v_wereAt v_byPlace x2 x5) (bc := bc) (bm := bm) (x2 := x2) (bp := bp) (c := fun p => cnA b (fun i => pl i n) p 8) (n := n) (by omega) (fun p hp => hbp n p (by omega) hp) (fun p hp => Nat.le_trans (cnA_le _ _ _ _) hM) 8 0 FU 0 (by omega) (by unfold FU; omega) (by omega)
    have e : F_X7_ask_154 FU (fun (v_moved : Int32) (v_slipTicks : Int32) (v_bestCode : Int32) (v_bestMuch : Int32) (v_st : Nat → Int32) (v_now : Nat → Int32) (v_wereAt : Nat → Int32) (v_byPlace : Nat → Int32) (x2 : Int32) (x5 : Int32) => F_X7_ask_141 fu v_moved v_slipTicks v_bestCode v_bestMuch v_st v_now v_wereAt v_byPlace x2 x5) mv sl bc bm st nw wa bp x2 (nI n) 0 0 = (F_X7_judges bc bm (nI n) (nI w)).bind (fun (w2, w3) => F_X7_ask_141 fu mv sl w2 w3 st nw wa bp x2 (nI (n + 1))) := e
    rw [e]
    have lo : 1 ≤ cB b 8 → 1 ≤ w := by
      intro h
      obtain ⟨i, hi, hb⟩ := cB_pos 8 h
      have h5 := cnA_pos (b := b) (pl := fun i => pl i n) hb 8 hi
      have h6 := a3 (pl i n) (by omega) (hpl i n)
      have h5 : 1 ≤ cnA b (fun i => pl i n) (pl i n) 8 := h5
      have h6 : cnA b (fun i => pl i n) (pl i n) 8 ≤ w := h6
      omega
    have hi : w ≤ cB b 8 := by
      rcases a4 with a4 | ⟨p, hp, a4⟩
      · omega
      · rw [← a4]; exact cnA_le _ _ _ _
    unfold F_X7_judges
    rcases h3 with ⟨rfl, rfl, rfl⟩ | ⟨hn, ⟨a, rfl, rfl⟩ | ⟨a, rfl, rfl⟩⟩
    · have h01 : w ≤ 1 := by
        rcases a4 with a4 | ⟨p, hp, a4⟩
        · omega
        · rw [← a4]; exact (cnA_one (b := b) (pl := fun i => pl i 0) (p := p) (M := 8) (fun i j hi hj => h0 i j hi hj) 8 (Nat.le_refl _)).1
      by_cases d : cB b 8 ≤ w
      · rw [if_pos (nI_le d (by omega))]
        simp only [ob]
        exact ih 1 fu _ _ (by omega) (by omega) (Or.inr ⟨by omega, Or.inr ⟨by omega, rfl, rfl⟩⟩)
      · rw [if_neg (nI_ge (by omega) (by omega))]
        simp only [ob]
        have e1 : w = 1 := by have := lo (by omega); omega
        subst e1
        exact ih 1 fu _ _ (by omega) (by omega) (Or.inr ⟨by omega, Or.inl ⟨by omega, rfl, rfl⟩⟩)
    · have := lo (by omega)
      rw [if_pos (show (1 : Int32) ≤ nI w from nI_le (a := 1) (by omega) (by omega))]
      simp only [ob]
      exact ih (n + 1) fu _ _ (by omega) (by omega) (Or.inr ⟨by omega, Or.inl ⟨a, rfl, rfl⟩⟩)
    · have : cB b 8 ≤ w := by
        by_cases z : 1 ≤ cB b 8
        · have := lo z; omega
        · omega
      rw [if_pos (nI_le this (by omega))]
      simp only [ob]
      exact ih (n + 1) fu _ _ (by omega) (by omega) (Or.inr ⟨by omega, Or.inr ⟨a, rfl, rfl⟩⟩)
theorem ask84_loop {kk : Int32 → Int32 → Int32 → Int32 → (Nat → Int32) → (Nat → Int32) → (Nat → Int32) → (Nat → Int32) → Int32 → Int32 → Int32 → Int32 → Int32 → Option (Int32 × Int32 × Int32 × Int32 × Int32 × (Nat → Int32) × (Nat → Int32) × (Nat → Int32))} {bc bm x2 x3 : Int32} {b : Nat → Bool} {pl : Nat → Nat → Nat} {k i M : Nat} (hk : k < 4) (hpl : ∀ i n, pl i n < 8) (hbi : b i = true) (hwa : ∀ n, n ≤ 40 → wa (4 * n + k) = nI (pl i n)) : ∀ (m n fu : Nat) (bp : Nat → Int32), n + m = 41 → m < fu → (∀ n' p, n' < n → p < 8 → bp (8 * n' + p) = nI (cnA b (fun i => pl i n') p (i + 1))) → (∀ n' p, n ≤ n' → n' ≤ 40 → p < 8 → bp (8 * n' + p) = nI (cnA b (fun i => pl i n') p i)) →
    ∃ bp', F_X7_ask_84 fu kk mv sl bc bm st nw wa bp (nI k) x2 x3 (nI M) (nI i) (nI n) = kk mv sl bc bm st nw wa bp' (nI k) x2 x3 (nI (M + 1)) (nI (i + 1)) ∧ ∀ n' p, n' ≤ 40 → p < 8 → bp' (8 * n' + p) = nI (cnA b (fun i => pl i n') p (i + 1)) := by
  intro m
  induction m with
  | zero =>
    intro n fu bp h1 h2 h3 h4
    obtain ⟨fu, rfl⟩ : ∃ g, fu = g + 1 := ⟨fu - 1, by omega⟩
    obtain rfl : n = 41 := by omega
    unfold F_X7_ask_84
    rw [if_pos (by decide), nI_1, nI_1]
    exact ⟨bp, rfl, fun n' p a c => h3 n' p (by omega) c⟩
  | succ m ih =>
    intro n fu bp h1 h2 h3 h4
    obtain ⟨fu, rfl⟩ : ∃ g, fu = g + 1 := ⟨fu - 1, by omega⟩
    unfold F_X7_ask_84
    have c : ¬ (40 : Int32) < nI n := by rw [show (40 : Int32) = nI 40 from rfl, nI_ltI (by decide) (by omega)]; omega
    have hp8 := hpl i n
    have e4 : (4 : Int32) * nI n + nI k = nI (4 * n + k) := by rw [show (4 : Int32) = nI 4 from rfl, pk_mul, nI_add]
    have e8' : (8 : Int32) * nI n + nI (pl i n) = nI (8 * n + pl i n) := by rw [show (8 : Int32) = nI 8 from rfl, pk_mul, nI_add]
    simp only [if_neg c, e4, cl_nI (n := 4 * n + k) (by omega), hwa n (by omega), e8', chk_pos (inb_nI (n := 4 * n + k) (N := 164) (by omega) (by decide)), chk_pos (inb_nI (n := 8 * n + pl i n) (N := 328) (by omega) (by decide)), cl_nI (n := 8 * n + pl i n) (by omega), h4 n (pl i n) (Nat.le_refl _) (by omega) hp8, nI_1]
    refine ih (n + 1) fu _ (by omega) (by omega) ?_ ?_
    · intro n' p a a2
      by_cases cn : n' = n
      · subst cn
        by_cases cp : p = pl i n'
        · subst cp
          rw [upd_at, cnA, if_pos hbi, if_pos rfl]
        · rw [upd_off _ _ (by omega), h4 n' p (Nat.le_refl _) (by omega) a2, cnA, if_pos hbi, if_neg (fun h => cp h.symm)]
      · rw [upd_off _ _ (by omega)]
        exact h3 n' p (by omega) a2
    · intro n' p a a1 a2
      rw [upd_off _ _ (by omega)]
      exact h4 n' p (by omega) a1 a2
theorem ask32_loop {bc bm x1 x2 x3 x4 : Int32} : ∀ (m n fu : Nat) (bp : Nat → Int32), n + m = 328 → m < fu → (∀ j, j < n → bp j = 0) → ∃ bp', F_X7_ask_32 fu mv sl bc bm st nw wa bp x1 x2 x3 x4 (nI n) = F_X7_ask_57 FU mv sl bc bm st nw wa bp' x1 x2 x3 x4 0 ∧ ∀ j, j < 328 → bp' j = 0 := by
  intro m
  induction m with
  | zero =>
    intro n fu bp h1 h2 h3
    obtain ⟨fu, rfl⟩ : ∃ g, fu = g + 1 := ⟨fu - 1, by omega⟩
    obtain rfl : n = 328 := by omega
    unfold F_X7_ask_32
    rw [if_pos (by decide)]
    exact ⟨bp, rfl, h3⟩
  | succ m ih =>
    intro n fu bp h1 h2 h3
    obtain ⟨fu, rfl⟩ : ∃ g, fu = g + 1 := ⟨fu - 1, by omega⟩
    unfold F_X7_ask_32
    rw [if_neg (show ¬ (328 : Int32) ≤ nI n from nI_ge (b := 328) (by omega) (by omega)), chk_pos (inb_nI (by omega) (by decide)), cl_nI (by omega), nI_1]
    refine ih (n + 1) fu _ (by omega) (by omega) ?_
    intro j hj
    by_cases c : j = n
    · subst c; rw [upd_at]
    · rw [upd_off _ _ c]; exact h3 j (by omega)
end
theorem ask57_loop {st : Nat → Int32} {bc bm x2 : Int32} {b : Nat → Bool} {pl : Nat → Nat → Nat} {k : Nat} (hk : k < 4) (hpl : ∀ i n, pl i n < 8) (h0 : ∀ i j, i < 8 → j < 8 → pl i 0 = pl j 0 → i = j)
    (hso : ∀ i, i ≤ 7 → ∀ (mv sl : Int32) (nw wa : Nat → Int32), ∃ mv' sl' nw' wa', ((b i = true ∧ F_X7_isSoWith mv sl st nw wa (nI (20 + 4 * k + 2)) (st (20 + 4 * k + 2) + nI i) = some (1, mv', sl', nw', wa')) ∨ (¬ b i = true ∧ F_X7_isSoWith mv sl st nw wa (nI (20 + 4 * k + 2)) (st (20 + 4 * k + 2) + nI i) = some (0, mv', sl', nw', wa'))) ∧ ∀ n, n ≤ 40 → wa' (4 * n + k) = nI (pl i n)) :
    ∀ (m i fu : Nat) (mv sl : Int32) (nw wa bp : Nat → Int32), i + m = 8 → m < fu → (∀ n p, n ≤ 40 → p < 8 → bp (8 * n + p) = nI (cnA b (fun i => pl i n) p i)) →
    ∃ w, F_X7_ask_57 fu mv sl bc bm st nw wa bp (nI k) x2 (nI (20 + 4 * k + 2)) (nI (cB b i)) (nI i) = some (askA (cB b 8) x2, w) := by
  intro m
  induction m with
  | zero =>
    intro i fu mv sl nw wa bp h1 h2 h3
    obtain ⟨fu, rfl⟩ : ∃ g, fu = g + 1 := ⟨fu - 1, by omega⟩
    obtain rfl : i = 8 := by omega
    unfold F_X7_ask_57 F_X7_startsJudging
    rw [if_pos (by decide)]
    simp only [ob]
    exact ask141_loop hpl h0 h3 41 0 FU _ _ (by omega) (by unfold FU; omega) (Or.inl ⟨rfl, rfl, rfl⟩)
  | succ m ih =>
    intro i fu mv sl nw wa bp h1 h2 h3
    obtain ⟨fu, rfl⟩ : ∃ g, fu = g + 1 := ⟨fu - 1, by omega⟩
    unfold F_X7_ask_57
    obtain ⟨mv', sl', nw', wa', h, hwa⟩ := hso i (by omega) mv sl nw wa
    rw [if_neg (show ¬ (8 : Int32) ≤ nI i from nI_ge (b := 8) (by omega) (by omega)), chk_pos (inb_nI (by omega) (by decide)), cl_nI (by omega)]
    rcases h with ⟨a, e⟩ | ⟨a, e⟩
    · rw [e]
      simp only [ob]
      rw [if_neg i10]
      obtain ⟨bp', e5, h5⟩ := ask84_loop (mv := mv') (sl := sl') (st := st) (nw := nw') (wa := wa') (bc := bc) (bm := bm) (x2 := x2) (x3 := nI (20 + 4 * k + 2)) (M := cB b i) (kk := fun (v_moved : Int32) (v_slipTicks : Int32) (v_bestCode : Int32) (v_bestMuch : Int32) (v_st : Nat → Int32) (v_now : Nat → Int32) (v_wereAt : Nat → Int32) (v_byPlace : Nat → Int32) (x1 : Int32) (x2 : Int32) (x3 : Int32) (x4 : Int32) (x5 : Int32) => F_X7_ask_57 fu v_moved v_slipTicks v_bestCode v_bestMuch v_st v_now v_wereAt v_byPlace x1 x2 x3 x4 x5) hk hpl a hwa 41 0 FU bp (by omega) (by unfold FU; omega) (fun n' p z => absurd z (by omega)) (fun n' p _ z1 z2 => h3 n' p z1 z2)
      have e5 : F_X7_ask_84 FU (fun (v_moved : Int32) (v_slipTicks : Int32) (v_bestCode : Int32) (v_bestMuch : Int32) (v_st : Nat → Int32) (v_now : Nat → Int32) (v_wereAt : Nat → Int32) (v_byPlace : Nat → Int32) (x1 : Int32) (x2 : Int32) (x3 : Int32) (x4 : Int32) (x5 : Int32) => F_X7_ask_57 fu v_moved v_slipTicks v_bestCode v_bestMuch v_st v_now v_wereAt v_byPlace x1 x2 x3 x4 x5) mv' sl' bc bm st nw' wa' bp (nI k) x2 (nI (20 + 4 * k + 2)) (nI (cB b i)) (nI i) 0 = F_X7_ask_57 fu mv' sl' bc bm st nw' wa' bp' (nI k) x2 (nI (20 + 4 * k + 2)) (nI (cB b i + 1)) (nI (i + 1)) := e5
      rw [e5, show cB b i + 1 = cB b (i + 1) by rw [cB, if_pos a]]
      exact ih (i + 1) fu _ _ _ _ _ (by omega) (by omega) h5
    · rw [e]
      simp only [ob]
      rw [if_pos trivial, nI_1, show cB b i = cB b (i + 1) by rw [cB, if_neg a]]
      refine ih (i + 1) fu _ _ _ _ _ (by omega) (by omega) ?_
      intro n p z1 z2
      rw [h3 n p z1 z2, cnA, if_neg a]
theorem p_ask : P_ask := by
  intro rf len fl by_ f t p sn rn sg rt tr_f tr_t tr_p tr_sn tr_rn tr_sg tr_rt n to wh le k0 f0 t0 p0 sn0 rn0 sg0 rt0 n0 to0 wh0 le0 k1 f1 t1 p1 sn1 rn1 sg1 rt1 n1 to1 wh1 le1 sh tp mf m_moved m_slipTicks m_bestCode m_bestMuch tn st m_now kp ta m_wereAt m_byPlace la si ce hRel x1 x2
  have hRel0 := hRel
  obtain ⟨h1, hT, hB, hI0, hI1, hSh⟩ := hRel
  obtain ⟨T, P, S, R, N, ⟨zT, zP1, zP2, zS, zR, zN⟩, ⟨rfl, rfl, rfl, rfl, rfl⟩, ⟨b0, b17, b18, b19, b36, b37⟩, bs, br, bn, bf⟩ := hB
  have hNB : NB f T P S R sg rt st := ⟨⟨b0, b17, b18, b19, b36⟩, fun i hi => (bs i hi).1, fun r hr => (br r hr).1⟩
  have hk : kOk R rt := fun r hr => (br r hr).2.1
  have hs : sOk S sg := fun i hi => (bs i hi).2
  unfold F_X6_ask F_X7_ask
  rcases rotor_cases b36 zR x1 with ⟨k, hkR, rfl, e1, e2⟩ | ⟨e1, e2⟩
  · rw [e1, e2]
    simp only [ob]
    rw [if_neg i10, if_neg i10]
    rcases part_cases x2 with ⟨j, hj, rfl, e1, e2⟩ | ⟨e1, e2⟩
    · rw [e1, e2]
      simp only [ob]
      rw [if_neg i10, if_neg i10, show (20 : Int32) + 4 * nI k + 2 = nI (20 + 4 * k + 2) from ix_eq k 2]
      have hg : SGH N R to wh le := fun i hi => (bn i hi).2
      obtain ⟨b, hb⟩ := bool_of (fun i => soS P S R sg (f, T, up rt k (qS 2 (rt k) i)) N to wh le)
      obtain ⟨⟨w1, w2, w3, w4, w5, w6, w7⟩, g1⟩ := mask_loop (b := b) (x2 := 2) (k := k) (K := 7) zP1 zP2 zS zR (by omega) zN hg hkR (by omega) (fun i _ => hb i) 8 0 FU tr_f tr_t tr_p tr_sn tr_rn tr_sg tr_rt (by omega) (by unfold FU; omega)
      have g1 : F_X6_asSeenBy f (nI T) (nI P) (nI S) (nI R) sg rt tr_f tr_t tr_p tr_sn tr_rn tr_sg tr_rt (nI N) to wh le (nI k) 2 7 = some (mkB b 8, w1, w2, w3, w4, w5, w6, w7) := g1
      obtain ⟨bp, g2, hbp⟩ := ask32_loop (mv := m_moved) (sl := m_slipTicks) (st := st) (nw := m_now) (wa := m_wereAt) (bc := m_bestCode) (bm := m_bestMuch) (x1 := nI k) (x2 := nI j) (x3 := nI (20 + 4 * k + 2)) (x4 := 0) 328 0 FU m_byPlace (by omega) (by unfold FU; omega) (fun j h => absurd h (by omega))
      have g2 : F_X7_ask_32 FU m_moved m_slipTicks m_bestCode m_bestMuch st m_now m_wereAt m_byPlace (nI k) (nI j) (nI (20 + 4 * k + 2)) 0 0 = F_X7_ask_57 FU m_moved m_slipTicks m_bestCode m_bestMuch st m_now m_wereAt bp (nI k) (nI j) (nI (20 + 4 * k + 2)) 0 0 := g2
      obtain ⟨⟨w8, w9, w10, w11, w12, w13, w14⟩, g3⟩ := ask57_loop (st := st) (bc := m_bestCode) (bm := m_bestMuch) (x2 := nI j) (b := b) (pl := fun i n => e8 ((goS P S R sg n (f, T, up rt k (qS 2 (rt k) i))).2.2.2 k).2.2.1) (k := k) (by omega) (fun i n => e8_lt _)
        (by
          intro i i2 hi hi2 h
          have h : e8 (up rt k (qS 2 (rt k) i) k).2.2.1 = e8 (up rt k (qS 2 (rt k) i2) k).2.2.1 := h
          rw [up_self, up_self] at h
          have h : e8 ((rt k).2.2.1 + nI i) = e8 ((rt k).2.2.1 + nI i2) := h
          rw [e8_addn, e8_addn] at h
          omega)
        (by
          intro i hi mv sl nw wa
          obtain ⟨mv', sl', nw', wa', h, hw⟩ := so_one (i := i) (k := k) (j := 2) (v := st (20 + 4 * k + 2) + nI i) (q := qS 2 (rt k) i) hNB zP1 zP2 zS zR (by omega) hs hk zN hg b37 (fun i hi => (bn i hi).1) hkR (by omega) rfl rfl (by rw [if_pos rfl, (br k hkR).1.2.2.1]; rfl) rfl (hk k hkR) mv sl nw wa
          refine ⟨mv', sl', nw', wa', ?_, fun n hn => hw n k hn hkR⟩
          rcases h with ⟨a, e⟩ | ⟨a, e⟩
          · left; exact ⟨(hb i).2 a, e⟩
          · right; exact ⟨fun h => a ((hb i).1 h), e⟩)
        8 0 FU m_moved m_slipTicks m_now m_wereAt bp (by omega) (by unfold FU; omega) (fun n p hn hp => hbp _ (by omega))
      have g3 : F_X7_ask_57 FU m_moved m_slipTicks m_bestCode m_bestMuch st m_now m_wereAt bp (nI k) (nI j) (nI (20 + 4 * k + 2)) 0 0 = some (askA (cB b 8) (nI j), w8, w9, w10, w11, w12, w13, w14) := g3
      rw [g1, g2, g3]
      simp only [ob]
      rw [bits_count]
      simp only [ob]
      have hM := cB_le b 8
      unfold askA
      by_cases c : 2 ≤ cB b 8
      · rw [if_pos c, if_pos (show (2 : Int32) ≤ nI (cB b 8) from nI_le (a := 2) c (by omega))]
        by_cases d : nI j = 0
        · rw [if_pos d, if_pos d]
          exact ⟨_, _, _, _, _, _, _, _, _, _, _, _, _, _, _, rfl, rfl, hRel0⟩
        · rw [if_neg d, if_neg d]
          exact ⟨_, _, _, _, _, _, _, _, _, _, _, _, _, _, _, rfl, rfl, hRel0⟩
      · rw [if_neg c, if_neg (show ¬ (2 : Int32) ≤ nI (cB b 8) from nI_ge (b := 2) (by omega) (by omega))]
        exact ⟨_, _, _, _, _, _, _, _, _, _, _, _, _, _, _, rfl, rfl, hRel0⟩
    · rw [e1, e2, bz, bz]
      exact ⟨_, _, _, _, _, _, _, _, _, _, _, _, _, _, _, rfl, rfl, hRel0⟩
  · rw [e1, e2, bz, bz]
    exact ⟨_, _, _, _, _, _, _, _, _, _, _, _, _, _, _, rfl, rfl, hRel0⟩
