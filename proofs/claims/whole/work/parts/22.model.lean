/-! the reference's row of numbers beside a drive -/
def NB (f : Int32) (T P S R : Nat) (sg : Nat → Int32) (rt : Nat → Rot) (b : Nat → Int32) : Prop :=
  (b 0 = f ∧ b 17 = nI S ∧ b 18 = nI P ∧ b 19 = nI T ∧ b 36 = nI R) ∧ (∀ i, i < S → b (1 + i) = sg i) ∧
  (∀ r, r < R → b (20 + 4 * r) = (rt r).1 ∧ b (20 + 4 * r + 1) = (rt r).2.1 ∧ b (20 + 4 * r + 2) = (rt r).2.2.1 ∧ b (20 + 4 * r + 3) = (rt r).2.2.2)
def kOk (R : Nat) (rt : Nat → Rot) : Prop := ∀ r, r < R → ∃ k, k < 4 ∧ (rt r).1 = nI k
theorem ix_eq (r j : Nat) : (20 : Int32) + 4 * nI r + nI j = nI (20 + 4 * r + j) := by
  rw [show (20 : Int32) = nI 20 from rfl, show (4 : Int32) = nI 4 from rfl, pk_mul, nI_add, nI_add]
theorem of_eq {b : Nat → Int32} {r j : Nat} (hr : r < 4) (hj : j < 4) : F_X7_of b (nI r) (nI j) = some (b (20 + 4 * r + j)) := by
  unfold F_X7_of
  rw [ix_eq, chk_pos (inb_nI (by omega) (by omega)), cl_nI (by omega)]
theorem bec_eq {b : Nat → Int32} {r j : Nat} {v : Int32} (hr : r < 4) (hj : j < 4) : F_X7_becomesOf b (nI r) (nI j) v = some (upd b (20 + 4 * r + j) v) := by
  unfold F_X7_becomesOf
  rw [ix_eq, chk_pos (inb_nI (by omega) (by omega)), cl_nI (by omega)]
theorem amount_eq (x : Int32) : F_X7_amount x = some (iabs x) := by
  unfold F_X7_amount
  show _ = some (if 0 ≤ x then x else 0 - x)
  split
  · rfl
  · rw [Int32.zero_sub]
section
variable {f : Int32} {T P S R : Nat} {sg : Nat → Int32} {rt : Nat → Rot} {b : Nat → Int32}
theorem offM (h : NB f T P S R sg rt b) (hR : R ≤ 4) {r : Nat} (hr : r < R) : F_X7_off b (nI r) = some (offS f (rt r).2.2.1) := by
  unfold F_X7_off
  rw [chk_pos (by decide), show (2 : Int32) = nI 2 from rfl, of_eq (by omega) (by omega), (h.2.2 r hr).2.2.1, show (0 : Int32).toNatClampNeg = 0 from rfl, h.1.1]
  show (F_X7_byEight (f - (rt r).2.2.1)).bind _ = _
  rw [byEight_eq]
  show (if nI (e8 (f - (rt r).2.2.1)) ≤ 4 then some _ else some _) = some (offS f (rt r).2.2.1)
  unfold offS
  rw [← off_eq]
  split <;> rfl
theorem lostM (h : NB f T P S R sg rt b) (hR : R ≤ 4) {r : Nat} (hr : r < R) : F_X7_lostBy b (nI r) = some (lostS f (rt r).2.2.1) := by
  unfold F_X7_lostBy
  rw [chk_pos (by decide), show (2 : Int32) = nI 2 from rfl, of_eq (by omega) (by omega), (h.2.2 r hr).2.2.1, show (0 : Int32).toNatClampNeg = 0 from rfl, h.1.1]
  show (F_X7_off b (nI r)).bind _ = _
  rw [offM h hR hr]
  rfl
theorem slipsM (h : NB f T P S R sg rt b) (hR : R ≤ 4) {r : Nat} (hr : r < R) : F_X7_slipsNow b (nI r) = some (if iabs (offS f (rt r).2.2.1) ≤ (rt r).2.1 then 0 else 1) := by
  unfold F_X7_slipsNow
  rw [offM h hR hr]
  show (F_X7_amount (offS f (rt r).2.2.1)).bind _ = _
  rw [amount_eq]
  show (F_X7_of b (nI r) 1).bind _ = _
  rw [show (1 : Int32) = nI 1 from rfl, of_eq (by omega) (by omega), (h.2.2 r hr).2.1]
  show (if iabs (offS f (rt r).2.2.1) ≤ (rt r).2.1 then some 0 else some 1) = _
  split <;> rfl
def setR (b : Nat → Int32) (r : Nat) (q : Rot) : Nat → Int32 := fun j => if j = 20 + 4 * r + 2 then q.2.2.1 else if j = 20 + 4 * r + 3 then q.2.2.2 else b j
theorem gap0 (f p : Int32) : iabs (offS f p) = 0 ↔ offS f p = 0 := by
  obtain ⟨e, he, h⟩ := offS_in f p
  rw [h]
  exact (show ∀ e, e < 8 → (iabs (nI e - 3) = 0 ↔ nI e - 3 = 0) by decide) e he
theorem moves_eq {b : Nat → Int32} {r : Nat} {q : Rot} {off : Int32} (hr : r < 4) (h0 : b (20 + 4 * r) = q.1) (h3 : b (20 + 4 * r + 3) = q.2.2.2) (hk : ∃ k, k < 4 ∧ q.1 = nI k) :
    F_X7_movesBy b (nI r) off = some (stepS q.1 q.2.2.2 (iabs off) (sideS off) * sideS off) ∧ iabs (stepS q.1 q.2.2.2 (iabs off) (sideS off) * sideS off) = stepS q.1 q.2.2.2 (iabs off) (sideS off) := by
  have key : ∀ sd, (sd = 1 ∨ sd = -1) → F_X7_movesBy_9 b (nI r) off sd = some (stepS q.1 q.2.2.2 (iabs off) sd * sd) ∧ iabs (stepS q.1 q.2.2.2 (iabs off) sd * sd) = stepS q.1 q.2.2.2 (iabs off) sd := by
    intro sd hsd
    unfold F_X7_movesBy_9
    rw [amount_eq]
    have e0 : F_X7_of b (nI r) 0 = some q.1 := by rw [show (0 : Int32) = nI 0 from rfl, of_eq (by omega) (by omega)]; exact congrArg some h0
    simp only [Option.bind_some, e0]
    have e3 : F_X7_of b (nI r) 3 = some q.2.2.2 := by rw [show (3 : Int32) = nI 3 from rfl, of_eq (by omega) (by omega), h3]
    simp only [Option.bind_some, e3]
    have hq : q.1 = 0 ∨ q.1 = 1 ∨ q.1 = 2 ∨ q.1 = 3 := by
      obtain ⟨k, hk4, hq⟩ := hk
      match k, hk4 with
      | 0, _ => exact Or.inl hq
      | 1, _ => exact Or.inr (Or.inl hq)
      | 2, _ => exact Or.inr (Or.inr (Or.inl hq))
      | 3, _ => exact Or.inr (Or.inr (Or.inr hq))
    unfold stepS
    have t0 : iabs (0 * 1) = 0 ∧ iabs (1 * 1) = 1 ∧ iabs (2 * 1) = 2 ∧ iabs (0 * -1) = 0 ∧ iabs (1 * -1) = 1 ∧ iabs (2 * -1) = 2 := by decide
    have t1 : (1 : Int32) * 1 = 1 ∧ (2 : Int32) * 1 = 2 ∧ (1 : Int32) * -1 = -1 ∧ (2 : Int32) * -1 = -2 ∧ (0 : Int32) * 1 = 0 ∧ (0 : Int32) * -1 = 0 := by decide
    have d1 : ¬ (0 : Int32) = 1 ∧ ¬ (0 : Int32) = 2 ∧ ¬ (0 : Int32) = 3 ∧ ¬ (1 : Int32) = 0 ∧ ¬ (2 : Int32) = 0 ∧ ¬ (2 : Int32) = 1 ∧ ¬ (3 : Int32) = 0 ∧ ¬ (3 : Int32) = 1 ∧ ¬ (3 : Int32) = 2 := by decide
    obtain ⟨a1, a2, a3, a4, a5, a6, a7, a8, a9⟩ := d1
    obtain ⟨b1, b2, b3, b4, b5, b6⟩ := t0
    obtain ⟨c1, c2, c3, c4, c5, c6⟩ := t1
    rcases hsd with hsd | hsd <;> subst hsd <;> rcases hq with hq | hq | hq | hq <;> simp only [hq, a1, a2, a3, a4, a5, a6, a7, a8, a9, if_true, if_false]
    all_goals first
      | exact ⟨by simp only [c1, c3], by assumption⟩
      | (split
         · split <;> exact ⟨by simp only [c1, c2, c3, c4, c5, c6], by assumption⟩
         · exact ⟨by simp only [c1, c2, c3, c4, c5, c6], by assumption⟩)
      | (split <;> exact ⟨by simp only [c1, c2, c3, c4, c5, c6], by assumption⟩)
  unfold F_X7_movesBy sideS
  by_cases hp : 0 ≤ off
  · rw [if_pos hp, if_pos hp]; exact key 1 (Or.inl rfl)
  · rw [if_neg hp, if_neg hp]; exact key (-1) (Or.inr rfl)
theorem rotorGoesM (h : NB f T P S R sg rt b) (hR : R ≤ 4) {r : Nat} (hr : r < R) (hk : ∃ k, k < 4 ∧ (rt r).1 = nI k) (mv : Int32) :
    F_X7_rotorGoes mv b (nI r) = some (mv + (folS f (rt r)).1, setR b r (folS f (rt r)).2) := by
  obtain ⟨g0, g1, g2, g3⟩ := h.2.2 r hr
  have stop : F_X7_rotorGoes_18 mv b (nI r) = some (mv + 0, setR b r ((rt r).1, (rt r).2.1, (rt r).2.2.1, 0)) := by
    unfold F_X7_rotorGoes_18
    rw [show (3 : Int32) = nI 3 from rfl, bec_eq (by omega) (by omega), Int32.add_zero]
    show some (mv, _) = _
    congr 2
    funext j
    unfold upd setR
    by_cases h2 : j = 20 + 4 * r + 2
    · rw [if_neg (by omega), if_pos h2, h2]; exact g2
    · rw [if_neg h2]
  unfold F_X7_rotorGoes
  rw [offM h hR hr]
  simp only [Option.bind_some]
  rw [slipsM h hR hr]
  simp only [Option.bind_some]
  unfold folS
  have hg0 := gap0 f (rt r).2.2.1
  by_cases hs : iabs (offS f (rt r).2.2.1) ≤ (rt r).2.1
  · simp only [if_pos hs]
    rw [if_pos trivial]
    by_cases hz : offS f (rt r).2.2.1 = 0
    · rw [if_pos hz, if_pos (hg0.mpr hz)]
      exact stop
    · rw [if_neg hz, if_neg (fun z => hz (hg0.mp z))]
      obtain ⟨hm1, hm2⟩ := moves_eq (b := b) (r := r) (q := rt r) (off := offS f (rt r).2.2.1) (by omega) g0 g3 hk
      rw [hm1]
      simp only [Option.bind_some]
      have fin : ∀ sd, sd = sideS (offS f (rt r).2.2.1) → F_X7_rotorGoes_42 mv b (nI r) (offS f (rt r).2.2.1) (stepS (rt r).1 (rt r).2.2.2 (iabs (offS f (rt r).2.2.1)) (sideS (offS f (rt r).2.2.1)) * sideS (offS f (rt r).2.2.1)) sd = some (mv + stepS (rt r).1 (rt r).2.2.2 (iabs (offS f (rt r).2.2.1)) (sideS (offS f (rt r).2.2.1)), setR b r ((rt r).1, (rt r).2.1, (rt r).2.2.1 + stepS (rt r).1 (rt r).2.2.2 (iabs (offS f (rt r).2.2.1)) (sideS (offS f (rt r).2.2.1)) * sideS (offS f (rt r).2.2.1), if (rt r).1 = 3 ∧ iabs (offS f (rt r).2.2.1) = 1 then 0 else sideS (offS f (rt r).2.2.1))) := by
        intro sd hsd
        subst hsd
        unfold F_X7_rotorGoes_42
        rw [amount_eq, hm2]
        show (F_X7_of b (nI r) 2).bind _ = _
        rw [show (2 : Int32) = nI 2 from rfl, of_eq (by omega) (by omega), g2]
        show (F_X7_becomesOf b (nI r) (nI 2) _).bind _ = _
        rw [bec_eq (by omega) (by omega)]
        show (F_X7_of _ (nI r) 0).bind _ = _
        rw [show (0 : Int32) = nI 0 from rfl, of_eq (by omega) (by omega)]
        have e0 : upd b (20 + 4 * r + 2) ((rt r).2.2.1 + stepS (rt r).1 (rt r).2.2.2 (iabs (offS f (rt r).2.2.1)) (sideS (offS f (rt r).2.2.1)) * sideS (offS f (rt r).2.2.1)) (20 + 4 * r + 0) = (rt r).1 := by
          unfold upd; rw [if_neg (by omega)]; exact g0
        rw [e0]
        show (if (rt r).1 = 3 then _ else _) = _
        have fin2 : ∀ w, F_X7_rotorGoes_98 (mv + stepS (rt r).1 (rt r).2.2.2 (iabs (offS f (rt r).2.2.1)) (sideS (offS f (rt r).2.2.1))) (upd b (20 + 4 * r + 2) ((rt r).2.2.1 + stepS (rt r).1 (rt r).2.2.2 (iabs (offS f (rt r).2.2.1)) (sideS (offS f (rt r).2.2.1)) * sideS (offS f (rt r).2.2.1))) w 3 (nI r) = some (mv + stepS (rt r).1 (rt r).2.2.2 (iabs (offS f (rt r).2.2.1)) (sideS (offS f (rt r).2.2.1)), setR b r ((rt r).1, (rt r).2.1, (rt r).2.2.1 + stepS (rt r).1 (rt r).2.2.2 (iabs (offS f (rt r).2.2.1)) (sideS (offS f (rt r).2.2.1)) * sideS (offS f (rt r).2.2.1), w)) := by
          intro w
          unfold F_X7_rotorGoes_98
          rw [show (3 : Int32) = nI 3 from rfl, bec_eq (by omega) (by omega)]
          show some (_, _) = _
          congr 2
          funext j
          unfold upd setR
          by_cases h2 : j = 20 + 4 * r + 2
          · rw [if_neg (by omega), if_pos h2, if_pos h2]
          · rw [if_neg h2, if_neg h2]
        by_cases h3 : (rt r).1 = 3
        · rw [if_pos h3, amount_eq]
          show (if iabs (offS f (rt r).2.2.1) = 1 then _ else _) = _
          by_cases h1 : iabs (offS f (rt r).2.2.1) = 1
          · rw [if_pos h1, if_pos ⟨h3, h1⟩]; exact fin2 _
          · rw [if_neg h1, if_neg (fun z => h1 z.2)]; exact fin2 _
        · rw [if_neg h3, if_neg (fun z => h3 z.1)]; exact fin2 _
      by_cases hp : 0 ≤ offS f (rt r).2.2.1
      · rw [if_pos hp]; exact fin 1 (by unfold sideS; rw [if_pos hp])
      · rw [if_neg hp]; exact fin (-1) (by unfold sideS; rw [if_neg hp])
  · simp only [if_neg hs]
    rw [if_neg (by decide)]
    have e : (if iabs (offS f (rt r).2.2.1) = 0 then ((0 : Int32), ((rt r).1, (rt r).2.1, (rt r).2.2.1, (0 : Int32))) else (0, ((rt r).1, (rt r).2.1, (rt r).2.2.1, 0))) = (0, ((rt r).1, (rt r).2.1, (rt r).2.2.1, 0)) := by split <;> rfl
    rw [e]
    exact stop
end
