/-! the first draft, and how a draft is kept -/
theorem firstDraft_loop {hs he : Int32} : ∀ (fu i : Nat) (d : Nat → Int32), i ≤ 56 → 56 - i < fu → (∀ j, j < i → d j = 0) → ∃ d', F_X7_firstDraft_2 fu hs he d (nI i) = some (0, 0, d') ∧ (∀ j, j < 56 → j ≠ 18 → d' j = 0) ∧ d' 18 = 1 := by
  intro fu
  induction fu with
  | zero => intro i d h1 h2; omega
  | succ fu ih =>
    intro i d h1 h2 h3
    unfold F_X7_firstDraft_2
    by_cases hi : 56 ≤ i
    · have e : i = 56 := by omega
      subst e
      rw [if_pos (show (56 : Int32) ≤ nI 56 by decide), chk_pos (by decide)]
      exact ⟨_, rfl, fun j hj hn => by rw [show (18 : Int32).toNatClampNeg = 18 from rfl, upd_off _ _ hn]; exact h3 j hj, upd_at d 18 1⟩
    · rw [if_neg (show ¬ (56 : Int32) ≤ nI i from nI_ge (b := 56) (by omega) (by omega)), chk_pos (inb_nI (by omega) (by decide)), cl_nI (by omega), nI_1]
      refine ih (i + 1) _ (by omega) (by omega) ?_
      intro j hj
      by_cases c : j = i
      · subst c; rw [upd_at]
      · rw [upd_off _ _ c]; exact h3 j (by omega)
theorem firstDraftM (hs he : Int32) (d : Nat → Int32) : ∃ d', F_X7_firstDraft hs he d = some (0, 0, d') ∧ (∀ j, j < 56 → j ≠ 18 → d' j = 0) ∧ d' 18 = 1 :=
  firstDraft_loop FU 0 d (by omega) (by unfold FU; omega) (fun j h => absurd h (by omega))
theorem keepDraft_loop {st0 kp d : Nat → Int32} : ∀ (fu i : Nat) (st : Nat → Int32), i ≤ 56 → 56 - i < fu → (∀ j, j < i → st j = d j) → (∀ j, 56 ≤ j → st j = st0 j) → ∃ st', F_X7_keepDraft_2 fu st kp d (nI i) = some (st', upd (upd kp 0 0) 1 0) ∧ (∀ j, j < 56 → st' j = d j) ∧ ∀ j, 56 ≤ j → st' j = st0 j := by
  intro fu
  induction fu with
  | zero => intro i d h1 h2; omega
  | succ fu ih =>
    intro i st h1 h2 h3 h4
    unfold F_X7_keepDraft_2
    by_cases hi : 56 ≤ i
    · have e : i = 56 := by omega
      subst e
      rw [if_pos (show (56 : Int32) ≤ nI 56 by decide), chk_pos (by decide), chk_pos (by decide)]
      exact ⟨_, rfl, h3, h4⟩
    · rw [if_neg (show ¬ (56 : Int32) ≤ nI i from nI_ge (b := 56) (by omega) (by omega)), chk_pos (inb_nI (by omega) (by decide)), chk_pos (inb_nI (by omega) (by decide)), cl_nI (by omega), nI_1]
      refine ih (i + 1) _ (by omega) (by omega) ?_ ?_
      · intro j hj
        by_cases c : j = i
        · subst c; rw [upd_at]
        · rw [upd_off _ _ c]; exact h3 j (by omega)
      · intro j hj
        rw [upd_off _ _ (by omega)]; exact h4 j hj
theorem keepDraftM (st kp d : Nat → Int32) : ∃ st', F_X7_keepDraft st kp d = some (st', upd (upd kp 0 0) 1 0) ∧ (∀ j, j < 56 → st' j = d j) ∧ ∀ j, 56 ≤ j → st' j = st j :=
  keepDraft_loop FU 0 st (by omega) (by unfold FU; omega) (fun j h => absurd h (by omega)) (fun j h => rfl)
theorem p_init : P_init := by
  obtain ⟨d, e1, d0, d1⟩ := firstDraftM 0 0 (fun _ => 0)
  obtain ⟨st, e2, s0, s1⟩ := keepDraftM (fun _ => 0) (fun _ => 0) d
  refine ⟨_, _, _, _, _, e1, e2, ⟨rfl, rfl⟩, ⟨0, by omega, rfl, rfl, fun i h => absurd h (by omega)⟩, ?_, ⟨rfl, Or.inl rfl⟩, ⟨rfl, Or.inl rfl⟩, ?_⟩
  · refine ⟨0, 1, 0, 0, 0, ⟨by omega, by omega, by omega, by omega, by omega, by omega⟩, ⟨rfl, rfl, rfl, rfl, rfl⟩, ⟨?_, ?_, ?_, ?_, ?_, ?_⟩, fun i h => absurd h (by omega), fun i h => absurd h (by omega), fun i h => absurd h (by omega), by decide⟩
    · rw [s0 _ (by omega), d0 _ (by omega) (by omega)]
    · rw [s0 _ (by omega), d0 _ (by omega) (by omega)]; rfl
    · rw [s0 _ (by omega), d1]; rfl
    · rw [s0 _ (by omega), d0 _ (by omega) (by omega)]; rfl
    · rw [s0 _ (by omega), d0 _ (by omega) (by omega)]; rfl
    · rw [s0 _ (by omega), d0 _ (by omega) (by omega)]; rfl
  · intro k hk
    left
    refine ⟨rfl, ?_⟩
    rcases (show k = 0 ∨ k = 1 ∨ k = 2 ∨ k = 3 by omega) with rfl | rfl | rfl | rfl <;> rfl
