/-! sights: does a drive go as seen -/
def SGH (N R : Nat) (to wh le : Nat → Int32) : Prop := ∀ i, i < N → (∃ k, k ≤ 40 ∧ to i = nI k) ∧ (∃ k, k < R ∧ wh i = nI k) ∧ (∃ k, k < 8 ∧ le i = nI k)
/-- where a rotor stands behind t ticks, by eight -/
def atS (P S R : Nat) (sg : Nat → Int32) (s : Sst) (t r : Nat) : Int32 := nI (e8 ((goS P S R sg t s).2.2.2 r).2.2.1)
def mtS (P S R : Nat) (sg : Nat → Int32) (s : Sst) (to wh le : Nat → Int32) (i : Nat) : Prop := atS P S R sg s (to i).toNatClampNeg (wh i).toNatClampNeg = le i
def soS (P S R : Nat) (sg : Nat → Int32) (s : Sst) (N : Nat) (to wh le : Nat → Int32) : Prop := ∀ i, i < N → mtS P S R sg s to wh le i
theorem fit_loop {N R x : Nat} {to wh le : Nat → Int32} {rt : Nat → Rot} (hN : N ≤ 6) (hR : R ≤ 4) (hg : SGH N R to wh le) : ∀ (fu j : Nat), j ≤ N → N - j < fu →
    ((∀ i, j ≤ i → i < N → to i = nI x → nI (e8 (rt (wh i).toNatClampNeg).2.2.1) = le i) ∧ F_X4_fit_2 fu (nI N) to wh le rt (nI x) (nI j) = some 1) ∨ (¬ (∀ i, j ≤ i → i < N → to i = nI x → nI (e8 (rt (wh i).toNatClampNeg).2.2.1) = le i) ∧ F_X4_fit_2 fu (nI N) to wh le rt (nI x) (nI j) = some 0) := by
  intro fu
  induction fu with
  | zero => intro j h1 h2; omega
  | succ fu ih =>
    intro j h1 h2
    unfold F_X4_fit_2
    by_cases hc : N ≤ j
    · left
      refine ⟨fun i a b => absurd b (by omega), ?_⟩
      rw [if_pos (nI_le hc (by omega))]
    · rw [if_neg (nI_ge (by omega) (by omega)), chk_pos (inb_nI (by omega) (by decide)), chk_pos (inb_nI (by omega) (by decide)), nI_1]
      have ej : (nI j).toNatClampNeg = j := cl_nI (by omega)
      obtain ⟨g1, ⟨w, g2, g3⟩, g4⟩ := hg j (by omega)
      have rest := ih (j + 1) (by omega) (by omega)
      by_cases ct : to j = nI x
      · rw [if_pos (by rw [ej]; exact ct), chk_pos (show inb (wh (nI j).toNatClampNeg) 4 by rw [ej, g3]; exact inb_nI (by omega) (by decide)), floorMod_eq]
        simp only [ob, ej]
        rw [chk_pos (inb_nI (by omega) (by decide))]
        by_cases cm : nI (e8 (rt (wh j).toNatClampNeg).2.2.1) = le j
        · rw [if_pos cm]
          rcases rest with ⟨a, b⟩ | ⟨a, b⟩
          · left
            refine ⟨?_, b⟩
            intro i h3 h4 h5
            by_cases c : i = j
            · subst c; exact cm
            · exact a i (by omega) h4 h5
          · right
            exact ⟨fun h => a (fun i h3 h4 h5 => h i (by omega) h4 h5), b⟩
        · rw [if_neg cm]
          right
          exact ⟨fun h => cm (h j (Nat.le_refl _) (by omega) ct), rfl⟩
      · rw [if_neg (by rw [ej]; exact ct)]
        rcases rest with ⟨a, b⟩ | ⟨a, b⟩
        · left
          refine ⟨?_, b⟩
          intro i h3 h4 h5
          by_cases c : i = j
          · subst c; exact absurd h5 ct
          · exact a i (by omega) h4 h5
        · right
          exact ⟨fun h => a (fun i h3 h4 h5 => h i (by omega) h4 h5), b⟩
theorem last_loop {N R : Nat} {to wh le : Nat → Int32} (hN : N ≤ 6) (hg : SGH N R to wh le) : ∀ (fu j : Nat) (x : Int32), j ≤ N → N - j < fu → x.toInt ≤ 40 → (∀ i, i < j → (to i).toInt ≤ x.toInt) → ∃ y, F_X4_last_4 fu (nI N) to x (nI j) = some y ∧ y.toInt ≤ 40 ∧ ∀ i, i < N → (to i).toInt ≤ y.toInt := by
  intro fu
  induction fu with
  | zero => intro j x h1 h2; omega
  | succ fu ih =>
    intro j x h1 h2 h3 h4
    unfold F_X4_last_4
    by_cases hc : N ≤ j
    · have e : j = N := by omega
      subst e
      rw [if_pos (nI_le (Nat.le_refl _) (by omega))]
      exact ⟨x, rfl, h3, h4⟩
    · rw [if_neg (nI_ge (by omega) (by omega)), chk_pos (inb_nI (by omega) (by decide)), cl_nI (by omega), nI_1]
      obtain ⟨⟨k, g1, g2⟩, _⟩ := hg j (by omega)
      have g3 : (to j).toInt = k := by rw [g2, nI_toInt (by omega)]
      refine ih (j + 1) _ (by omega) (by omega) ?_ ?_
      · unfold imax; split <;> omega
      · intro i hi
        unfold imax
        by_cases c : i = j
        · subst c
          split
          · omega
          · rename_i c; rw [i_lt] at c; omega
        · have := h4 i (by omega)
          split
          · rename_i c; rw [i_lt] at c; omega
          · exact this
theorem seen_loop {P S R T N : Nat} {sg : Nat → Int32} {f : Int32} {rt : Nat → Rot} {to wh le : Nat → Int32} {x1 : Int32} (hP : 1 ≤ P) (hP2 : P ≤ 9) (hS : S ≤ 16) (hR : R ≤ 4) (hT : T + 50 < 20000) (hN : N ≤ 6) (hg : SGH N R to wh le) (h40 : x1.toInt ≤ 40) (hl : ∀ i, i < N → (to i).toInt ≤ x1.toInt) : ∀ (m j fu : Nat), j + m = 41 → m < fu →
    ((∀ i, i < N → j ≤ (to i).toNatClampNeg → mtS P S R sg (f, T, rt) to wh le i) ∧ ∃ w, F_X6_goesAsSeen_10 fu (goS P S R sg j (f, T, rt)).2.1 (nI (T + j)) (nI P) (nI S) (nI R) sg (goS P S R sg j (f, T, rt)).2.2.2 (nI N) to wh le x1 (nI j) = some (1, w)) ∨
    (¬ (∀ i, i < N → j ≤ (to i).toNatClampNeg → mtS P S R sg (f, T, rt) to wh le i) ∧ ∃ w, F_X6_goesAsSeen_10 fu (goS P S R sg j (f, T, rt)).2.1 (nI (T + j)) (nI P) (nI S) (nI R) sg (goS P S R sg j (f, T, rt)).2.2.2 (nI N) to wh le x1 (nI j) = some (0, w)) := by
  intro m
  induction m with
  | zero =>
    intro j fu h1 h2
    obtain ⟨fu, rfl⟩ : ∃ g, fu = g + 1 := ⟨fu - 1, by omega⟩
    obtain rfl : j = 41 := by omega
    left
    unfold F_X6_goesAsSeen_10
    rw [if_pos (by rw [i_lt, nI_toInt (by decide)]; omega)]
    refine ⟨?_, _, rfl⟩
    intro i hi h3
    obtain ⟨⟨k, g1, g2⟩, _⟩ := hg i hi
    rw [g2, cl_nI (by omega)] at h3
    omega
  | succ m ih =>
    intro j fu h1 h2
    obtain ⟨fu, rfl⟩ : ∃ g, fu = g + 1 := ⟨fu - 1, by omega⟩
    unfold F_X6_goesAsSeen_10
    have ej := nI_toInt (n := j) (by omega)
    by_cases c : x1 < nI j
    · left
      rw [if_pos c]
      refine ⟨?_, _, rfl⟩
      intro i hi h3
      rw [i_lt] at c
      have h5 := hl i hi
      obtain ⟨⟨k, g1, g2⟩, _⟩ := hg i hi
      rw [g2, cl_nI (by omega)] at h3
      rw [g2, nI_toInt (by omega)] at h5
      omega
    · rw [if_neg c]
      have hfit := fit_loop (x := j) (rt := (goS P S R sg j (f, T, rt)).2.2.2) hN hR hg FU 0 (by omega) (by unfold FU; omega)
      have key : ∀ i, i < N → to i = nI j → (mtS P S R sg (f, T, rt) to wh le i ↔ nI (e8 ((goS P S R sg j (f, T, rt)).2.2.2 (wh i).toNatClampNeg).2.2.1) = le i) := by
        intro i hi ht
        unfold mtS atS
        rw [ht, cl_nI (by omega)]
      have tj : ∀ i, i < N → (to i).toNatClampNeg = j → to i = nI j := by
        intro i hi ht
        obtain ⟨⟨k, g1, g2⟩, _⟩ := hg i hi
        rw [g2, cl_nI (by omega)] at ht
        rw [g2, ht]
      rcases hfit with ⟨a, b⟩ | ⟨a, b⟩
      · have b : F_X4_fit (nI N) to wh le (goS P S R sg j (f, T, rt)).2.2.2 (nI j) = some 1 := b
        rw [b]
        simp only [ob]
        rw [if_neg i10, show (1 : Int32) = nI 1 from rfl, go_eq hP hP2 hS hR (by omega) (by omega)]
        simp only [ob]
        have e : (goS P S R sg 1 ((goS P S R sg j (f, T, rt)).2.1, T + j, (goS P S R sg j (f, T, rt)).2.2.2)).2 = (goS P S R sg (j + 1) (f, T, rt)).2 := by rw [go_pt]; rfl
        rw [e, nI_add]
        rcases ih (j + 1) fu (by omega) (by omega) with ⟨a', b'⟩ | ⟨a', b'⟩
        · left
          refine ⟨?_, b'⟩
          intro i hi h3
          by_cases ce : (to i).toNatClampNeg = j
          · exact (key i hi (tj i hi ce)).2 (a i (by omega) hi (tj i hi ce))
          · exact a' i hi (by omega)
        · right
          exact ⟨fun h => a' (fun i hi h3 => h i hi (by omega)), b'⟩
      · have b : F_X4_fit (nI N) to wh le (goS P S R sg j (f, T, rt)).2.2.2 (nI j) = some 0 := b
        rw [b]
        simp only [ob]
        right
        rw [if_pos trivial]
        refine ⟨fun h => a (fun i h3 hi ht => (key i hi ht).1 (h i hi ?_)), _, rfl⟩
        rw [ht, cl_nI (by omega)]
        exact Nat.le_refl _
theorem seenC {P S R T N : Nat} {sg : Nat → Int32} {f : Int32} {rt : Nat → Rot} {to wh le : Nat → Int32} (hP : 1 ≤ P) (hP2 : P ≤ 9) (hS : S ≤ 16) (hR : R ≤ 4) (hT : T + 50 < 20000) (hN : N ≤ 6) (hg : SGH N R to wh le) :
    (soS P S R sg (f, T, rt) N to wh le ∧ ∃ w, F_X6_goesAsSeen f (nI T) (nI P) (nI S) (nI R) sg rt (nI N) to wh le = some (1, w)) ∨ (¬ soS P S R sg (f, T, rt) N to wh le ∧ ∃ w, F_X6_goesAsSeen f (nI T) (nI P) (nI S) (nI R) sg rt (nI N) to wh le = some (0, w)) := by
  unfold F_X6_goesAsSeen F_X4_last
  obtain ⟨y, e, h1, h2⟩ := last_loop hN hg FU 0 (-1) (by omega) (by unfold FU; omega) (by decide) (fun i h => absurd h (by omega))
  have e : F_X4_last_4 FU (nI N) to (-1) 0 = some y := e
  rw [e]
  simp only [ob]
  rcases seen_loop (sg := sg) (f := f) (rt := rt) hP hP2 hS hR hT hN hg h1 h2 41 0 FU (by omega) (by unfold FU; omega) with ⟨a, b⟩ | ⟨a, b⟩
  · left; exact ⟨fun i hi => a i hi (by omega), b⟩
  · right; exact ⟨fun h => a (fun i hi _ => h i hi), b⟩
