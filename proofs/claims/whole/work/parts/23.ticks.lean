/-! the reference's ticks -/
theorem NB_setR {f : Int32} {T P S R : Nat} {sg : Nat → Int32} {rt : Nat → Rot} {b : Nat → Int32} (h : NB f T P S R sg rt b) (hS : S ≤ 16) (hR : R ≤ 4) {r : Nat} (hr : r < R) {q : Rot} (h1 : q.1 = (rt r).1) (h2 : q.2.1 = (rt r).2.1) : NB f T P S R sg (up rt r q) (setR b r q) := by
  obtain ⟨⟨a0, a1, a2, a3, a4⟩, hs, hr0⟩ := h
  have off : ∀ j, j ≠ 20 + 4 * r + 2 → j ≠ 20 + 4 * r + 3 → setR b r q j = b j := fun j e1 e2 => by unfold setR; rw [if_neg e1, if_neg e2]
  refine ⟨⟨?_, ?_, ?_, ?_, ?_⟩, fun i hi => ?_, fun k hk => ?_⟩
  · rw [off 0 (by omega) (by omega)]; exact a0
  · rw [off 17 (by omega) (by omega)]; exact a1
  · rw [off 18 (by omega) (by omega)]; exact a2
  · rw [off 19 (by omega) (by omega)]; exact a3
  · rw [off 36 (by omega) (by omega)]; exact a4
  · rw [off (1 + i) (by omega) (by omega)]; exact hs i hi
  · by_cases e : k = r
    · subst e
      rw [up_self, off (20 + 4 * k) (by omega) (by omega), off (20 + 4 * k + 1) (by omega) (by omega)]
      refine ⟨by rw [h1]; exact (hr0 k hk).1, by rw [h2]; exact (hr0 k hk).2.1, ?_, ?_⟩
      · unfold setR; rw [if_pos rfl]
      · unfold setR; rw [if_neg (by omega), if_pos rfl]
    · rw [up_ne _ _ e, off (20 + 4 * k) (by omega) (by omega), off (20 + 4 * k + 1) (by omega) (by omega), off (20 + 4 * k + 2) (by omega) (by omega), off (20 + 4 * k + 3) (by omega) (by omega)]
      exact hr0 k hk
theorem NB_cong {f : Int32} {T P S R : Nat} {sg : Nat → Int32} {rt : Nat → Rot} {b b' : Nat → Int32} (h : NB f T P S R sg rt b) (hS : S ≤ 16) (hR : R ≤ 4) (e : ∀ j, j < 37 → b' j = b j) : NB f T P S R sg rt b' := by
  obtain ⟨⟨a0, a1, a2, a3, a4⟩, hs, hr0⟩ := h
  refine ⟨⟨by rw [e 0 (by omega)]; exact a0, by rw [e 17 (by omega)]; exact a1, by rw [e 18 (by omega)]; exact a2, by rw [e 19 (by omega)]; exact a3, by rw [e 36 (by omega)]; exact a4⟩, fun i hi => by rw [e (1 + i) (by omega)]; exact hs i hi, fun k hk => ?_⟩
  rw [e (20 + 4 * k) (by omega), e (20 + 4 * k + 1) (by omega), e (20 + 4 * k + 2) (by omega), e (20 + 4 * k + 3) (by omega)]
  exact hr0 k hk
theorem NB_rt {f : Int32} {T P S R : Nat} {sg : Nat → Int32} {rt rt' : Nat → Rot} {b : Nat → Int32} (h : NB f T P S R sg rt b) (e : ∀ r, r < R → rt' r = rt r) : NB f T P S R sg rt' b :=
  ⟨h.1, h.2.1, fun k hk => by rw [e k hk]; exact h.2.2 k hk⟩
/-- who slips, as bits -/
def slB (f : Int32) (rt : Nat → Rot) : Nat → Int32
  | 0 => 0
  | n + 1 => if iabs (offS f (rt n).2.2.1) ≤ (rt n).2.1 then slB f rt n else slB f rt n ||| ishl 1 (nI n)
theorem slB_in (f : Int32) (rt : Nat → Rot) : ∀ n, n ≤ 4 → ∃ k, k < 2 ^ n ∧ slB f rt n = nI k
  | 0, _ => ⟨0, by decide, rfl⟩
  | n + 1, h => by
    obtain ⟨k, hk, e⟩ := slB_in f rt n (by omega)
    unfold slB
    split
    · exact ⟨k, by rw [Nat.pow_succ]; omega, e⟩
    · rw [e]
      have t : ∀ n, n < 4 → ∀ k, k < 2 ^ n → nI k ||| ishl 1 (nI n) = nI (2 ^ n + k) := by decide
      rw [t n (by omega) k hk]
      exact ⟨2 ^ n + k, by rw [Nat.pow_succ]; omega, rfl⟩
theorem ishl0 : ∀ n, n < 4 → ishl 0 (nI n) = 0 := by decide
section
variable {f : Int32} {T P S R : Nat} {sg : Nat → Int32} {rt : Nat → Rot} {b : Nat → Int32}
theorem slippingM_loop (h : NB f T P S R sg rt b) (hR : R ≤ 4) : ∀ (fu i : Nat), i ≤ R → R - i < fu → F_X7_slipping_4 fu b (slB f rt i) (nI i) = some (slB f rt R) := by
  intro fu
  induction fu with
  | zero => intro i h1 h2; omega
  | succ fu ih =>
    intro i h1 h2
    unfold F_X7_slipping_4
    rw [chk_pos (by decide), show (36 : Int32).toNatClampNeg = 36 from rfl, h.1.2.2.2.2]
    by_cases hc : R ≤ i
    · have e : i = R := by omega
      subst e
      rw [if_pos (nI_le (Nat.le_refl _) (by omega))]
    · rw [if_neg (nI_ge (by omega) (by omega)), slipsM h hR (by omega)]
      simp only [Option.bind_some]
      have hk := ih (i + 1) (by omega) (by omega)
      rw [nI_1]
      rw [show slB f rt (i + 1) = if iabs (offS f (rt i).2.2.1) ≤ (rt i).2.1 then slB f rt i else slB f rt i ||| ishl 1 (nI i) from rfl] at hk
      by_cases hs : iabs (offS f (rt i).2.2.1) ≤ (rt i).2.1
      · rw [if_pos hs] at hk
        rw [if_pos hs, show F_X7_flag 0 = some 0 from rfl]
        simp only [Option.bind_some]
        rw [ishl0 i (by omega), Int32.or_zero]
        exact hk
      · rw [if_neg hs] at hk
        rw [if_neg hs, show F_X7_flag 1 = some 1 from rfl]
        simp only [Option.bind_some]
        exact hk
theorem slippingM (h : NB f T P S R sg rt b) (hR : R ≤ 4) : F_X7_slipping b = some (slB f rt R) :=
  slippingM_loop h hR FU 0 (Nat.zero_le _) (by unfold FU; omega)
/-- ALL LOST -/
def alS (R : Nat) (f : Int32) (rt : Nat → Rot) : Int32 := sumI (fun r => iabs (lostS f (rt r).2.2.1)) R
theorem allLostM_loop (h : NB f T P S R sg rt b) (hR : R ≤ 4) : ∀ (fu i : Nat), i ≤ R → R - i < fu → F_X7_allLost_4 fu b (sumI (fun r => iabs (lostS f (rt r).2.2.1)) i) (nI i) = some (alS R f rt) := by
  intro fu
  induction fu with
  | zero => intro i h1 h2; omega
  | succ fu ih =>
    intro i h1 h2
    unfold F_X7_allLost_4
    rw [chk_pos (by decide), show (36 : Int32).toNatClampNeg = 36 from rfl, h.1.2.2.2.2]
    by_cases hc : R ≤ i
    · have e : i = R := by omega
      subst e
      rw [if_pos (nI_le (Nat.le_refl _) (by omega))]
      rfl
    · rw [if_neg (nI_ge (by omega) (by omega)), lostM h hR (by omega)]
      simp only [Option.bind_some]
      rw [amount_eq]
      simp only [Option.bind_some]
      rw [nI_1]
      exact ih (i + 1) (by omega) (by omega)
theorem allLostM (h : NB f T P S R sg rt b) (hR : R ≤ 4) : F_X7_allLost b = some (alS R f rt) :=
  allLostM_loop h hR FU 0 (Nat.zero_le _) (by unfold FU; omega)
theorem byOf_eq {v : Int32} (hv : ∃ k, k < 4 ∧ v = nI k) : F_X7_byOf v = some (byS v) := by
  obtain ⟨k, hk, rfl⟩ := hv
  exact (show ∀ k, k < 4 → F_X7_byOf (nI k) = some (byS (nI k)) by decide) k hk
def sOk (S : Nat) (sg : Nat → Int32) : Prop := ∀ i, i < S → ∃ k, k < 4 ∧ sg i = nI k
theorem fieldGoesM (h : NB f T P S R sg rt b) (hP : 1 ≤ P) (hP2 : P ≤ 9) (hS : S ≤ 16) (hR : R ≤ 4) (hT : T < 20000) (hs : sOk S sg) : ∃ b', F_X7_fieldGoes b = some b' ∧ NB (ledS P S sg f T) T P S R sg rt b' ∧ ∀ j, 37 ≤ j → b' j = b j := by
  obtain ⟨⟨a0, a1, a2, a3, a4⟩, hsg, hr0⟩ := id h
  unfold F_X7_fieldGoes ledS
  rw [chk_pos (by decide)]
  simp only [show (17 : Int32).toNatClampNeg = 17 from rfl, show (18 : Int32).toNatClampNeg = 18 from rfl, show (19 : Int32).toNatClampNeg = 19 from rfl, show (0 : Int32).toNatClampNeg = 0 from rfl, a0, a1, a2, a3]
  by_cases h0 : S = 0
  · subst h0
    rw [if_pos (by decide), if_pos rfl]
    exact ⟨b, rfl, h, fun _ _ => rfl⟩
  · rw [if_neg (nI_nle (by omega) (by omega)), if_neg h0, chk_pos (by decide), chk_pos (by decide), chk_pos (nI_ne0 (by omega) (by omega)), irem_nI (by omega) (by omega) (by omega)]
    by_cases hm : T % P = 0
    · rw [if_pos hm, if_pos (by rw [hm]; rfl), chk_pos (by decide), chk_pos (by decide), chk_pos (by decide), chk_pos (nI_ne0 (by omega) (by omega)), chk_pos (by decide), chk_pos (nI_ne0 (by omega) (by omega))]
      have hlt : T / P < 2 ^ 31 := Nat.lt_of_le_of_lt (Nat.div_le_self _ _) (by omega)
      have hmod : T / P % S < S := Nat.mod_lt _ (by omega)
      rw [pk_div (by omega) (by omega) (by omega), irem_nI hlt (by omega) (by omega), show (1 : Int32) = nI 1 from rfl, nI_add, chk_pos (inb_nI (by omega) (by omega)), cl_nI (by omega), hsg _ hmod, byOf_eq (hs _ hmod)]
      simp only [Option.bind_some]
      rw [chk_pos (by decide)]
      refine ⟨_, rfl, ?_, fun j hj => by unfold upd; rw [if_neg (by omega)]⟩
      have off : ∀ j, j ≠ 0 → upd b 0 (f + byS (sg (T / P % S))) j = b j := fun j e => by unfold upd; rw [if_neg e]
      refine ⟨⟨by unfold upd; rw [if_pos rfl], by rw [off 17 (by omega)]; exact a1, by rw [off 18 (by omega)]; exact a2, by rw [off 19 (by omega)]; exact a3, by rw [off 36 (by omega)]; exact a4⟩, fun i hi => by rw [off (1 + i) (by omega)]; exact hsg i hi, fun k hk => ?_⟩
      rw [off (20 + 4 * k) (by omega), off (20 + 4 * k + 1) (by omega), off (20 + 4 * k + 2) (by omega), off (20 + 4 * k + 3) (by omega)]
      exact hr0 k hk
    · rw [if_neg hm, if_neg (nI_ne0 (by omega) (Nat.lt_of_lt_of_le (Nat.mod_lt _ (by omega)) (by omega)))]
      exact ⟨b, rfl, h, fun _ _ => rfl⟩
theorem NB_tick (h : NB f T P S R sg rt b) (hS : S ≤ 16) (hR : R ≤ 4) : NB f (T + 1) P S R sg rt (upd b 19 (nI (T + 1))) := by
  obtain ⟨⟨a0, a1, a2, a3, a4⟩, hsg, hr0⟩ := h
  have off : ∀ j, j ≠ 19 → upd b 19 (nI (T + 1)) j = b j := fun j e => by unfold upd; rw [if_neg e]
  refine ⟨⟨by rw [off 0 (by omega)]; exact a0, by rw [off 17 (by omega)]; exact a1, by rw [off 18 (by omega)]; exact a2, by unfold upd; rw [if_pos rfl], by rw [off 36 (by omega)]; exact a4⟩, fun i hi => by rw [off (1 + i) (by omega)]; exact hsg i hi, fun k hk => ?_⟩
  rw [off (20 + 4 * k) (by omega), off (20 + 4 * k + 1) (by omega), off (20 + 4 * k + 2) (by omega), off (20 + 4 * k + 3) (by omega)]
  exact hr0 k hk
theorem kOk_pul (i : Nat) {R : Nat} {f : Int32} {rt : Nat → Rot} (h : kOk R rt) : kOk R (pulR i f rt) := by
  intro r hr
  unfold pulR
  split
  · rw [folS_sort]; exact h r hr
  · exact h r hr
theorem rotorsGoM_loop (hS : S ≤ 16) (hR : R ≤ 4) (hk : kOk R rt) {sl mv0 : Int32} : ∀ (fu i : Nat) (b : Nat → Int32) (mv : Int32), i ≤ R → R - i < fu → NB f T P S R sg (pulR i f rt) b → mv = mv0 + sumI (fun j => (folS f (rt j)).1) i →
    ∃ b', F_X7_rotorsGo_26 fu mv sl b 0 (nI i) = some (mv0 + pulM R f rt, sl, b') ∧ NB f (T + 1) P S R sg (pulR R f rt) b' ∧ ∀ j, 37 ≤ j → b' j = b j := by
  intro fu
  induction fu with
  | zero => intro i b mv h1 h2; omega
  | succ fu ih =>
    intro i b mv h1 h2 h hmv
    unfold F_X7_rotorsGo_26
    rw [chk_pos (by decide), show (36 : Int32).toNatClampNeg = 36 from rfl, h.1.2.2.2.2]
    by_cases hc : R ≤ i
    · have e : i = R := by omega
      subst e
      rw [if_pos (nI_le (Nat.le_refl _) (by omega)), chk_pos (by decide), chk_pos (by decide), show (19 : Int32).toNatClampNeg = 19 from rfl, h.1.2.2.2.1, nI_1]
      exact ⟨_, by rw [hmv]; rfl, NB_tick h hS hR, fun j hj => by unfold upd; rw [if_neg (by omega)]⟩
    · rw [if_neg (nI_ge (by omega) (by omega)), if_pos rfl, rotorGoesM h hR (by omega) (kOk_pul i hk i (by omega))]
      simp only [Option.bind_some]
      rw [pulR_at]
      have hq := NB_setR h hS hR (r := i) (by omega) (q := (folS f (rt i)).2) (by rw [pulR_at]; exact folS_sort f (rt i)) (by rw [pulR_at]; exact folS_grip f (rt i))
      rw [up_pul R] at hq
      obtain ⟨b', e1, e2, e3⟩ := ih (i + 1) _ (mv + (folS f (rt i)).1) (by omega) (by omega) hq (by rw [hmv]; exact Int32.add_assoc _ _ _)
      refine ⟨b', by rw [nI_1]; exact e1, e2, fun j hj => ?_⟩
      rw [e3 j hj]
      unfold setR
      rw [if_neg (by omega), if_neg (by omega)]
theorem pul0 (f : Int32) (rt : Nat → Rot) : pulR 0 f rt = rt := by funext j; exact if_neg (Nat.not_lt_zero j)
/-- does any slip -/
def slN (R : Nat) (f : Int32) (rt : Nat → Rot) : Int32 := if slB f rt R = 0 then 0 else 1
theorem rotorsGoM (h : NB f T P S R sg rt b) (hS : S ≤ 16) (hR : R ≤ 4) (hk : kOk R rt) (mv sl : Int32) :
    ∃ b', F_X7_rotorsGo mv sl b 0 = some (mv + pulM R f rt, sl + slN R f rt, b') ∧ NB f (T + 1) P S R sg (pulR R f rt) b' ∧ ∀ j, 37 ≤ j → b' j = b j := by
  unfold F_X7_rotorsGo
  rw [slippingM h hR]
  simp only [Option.bind_some]
  obtain ⟨k, hk16, e⟩ := slB_in f rt R hR
  have hp : (2 : Nat) ^ R ≤ 16 := by
    have : (2 : Nat) ^ R ≤ 2 ^ 4 := Nat.pow_le_pow_right (by decide) hR
    exact this
  have hb : (slB f rt R ≤ 0) ↔ slB f rt R = 0 := by
    rw [e]
    exact (show ∀ k, k < 16 → (nI k ≤ 0 ↔ nI k = 0) by decide) k (by omega)
  have h0 : NB f T P S R sg (pulR 0 f rt) b := by rw [pul0]; exact h
  have step : ∀ v, ∃ b', F_X7_rotorsGo_26 FU mv (sl + v) b 0 0 = some (mv + pulM R f rt, sl + v, b') ∧ NB f (T + 1) P S R sg (pulR R f rt) b' ∧ ∀ j, 37 ≤ j → b' j = b j :=
    fun v => rotorsGoM_loop hS hR hk FU 0 b mv (Nat.zero_le _) (by unfold FU; omega) h0 (Int32.add_zero mv).symm
  unfold slN
  by_cases hc : slB f rt R = 0
  · rw [if_pos (hb.mpr hc), if_pos hc]
    unfold F_X7_rotorsGo_17
    rw [show F_X7_flag 0 = some 0 from rfl]
    exact step 0
  · rw [if_neg (fun z => hc (hb.mp z)), if_neg hc]
    unfold F_X7_rotorsGo_17
    rw [show F_X7_flag 1 = some 1 from rfl]
    exact step 1
end
/-- on how many ticks any slips -/
def slS (P S R : Nat) (sg : Nat → Int32) (s : Sst) : Nat → Int32
  | 0 => 0
  | n + 1 => slS P S R sg s n + slN R (ledS P S sg (goS P S R sg n s).2.1 (goS P S R sg n s).2.2.1) (goS P S R sg n s).2.2.2
theorem kOk_go {P S R : Nat} {sg : Nat → Int32} {s : Sst} (h : kOk R s.2.2) : ∀ n, kOk R (goS P S R sg n s).2.2.2
  | 0 => h
  | n + 1 => kOk_pul R (kOk_go h n)
theorem ticksGoM {f : Int32} {T P S R n : Nat} {sg : Nat → Int32} {rt : Nat → Rot} {b0 : Nat → Int32} (h0 : NB f T P S R sg rt b0) (hP : 1 ≤ P) (hP2 : P ≤ 9) (hS : S ≤ 16) (hR : R ≤ 4) (hT : T + n < 20000) (hn : n ≤ 1000) (hs : sOk S sg) (hk : kOk R rt) (mv0 sl0 : Int32) :
    ∃ b', F_X7_ticksGo mv0 sl0 b0 (nI n) = some (mv0 + (goS P S R sg n (f, T, rt)).1, sl0 + slS P S R sg (f, T, rt) n, b') ∧ NB (goS P S R sg n (f, T, rt)).2.1 (T + n) P S R sg (goS P S R sg n (f, T, rt)).2.2.2 b' ∧ ∀ j, 37 ≤ j → b' j = b0 j := by
  have loop : ∀ (fu i : Nat) (b : Nat → Int32), i ≤ n → n - i < fu → NB (goS P S R sg i (f, T, rt)).2.1 (T + i) P S R sg (goS P S R sg i (f, T, rt)).2.2.2 b → (∀ j, 37 ≤ j → b j = b0 j) →
      ∃ b', F_X7_ticksGo_2 fu (mv0 + (goS P S R sg i (f, T, rt)).1) (sl0 + slS P S R sg (f, T, rt) i) b (nI n) (nI i) = some (mv0 + (goS P S R sg n (f, T, rt)).1, sl0 + slS P S R sg (f, T, rt) n, b') ∧ NB (goS P S R sg n (f, T, rt)).2.1 (T + n) P S R sg (goS P S R sg n (f, T, rt)).2.2.2 b' ∧ ∀ j, 37 ≤ j → b' j = b0 j := by
    intro fu
    induction fu with
    | zero => intro i b h1 h2; omega
    | succ fu ih =>
      intro i b h1 h2 h hf
      unfold F_X7_ticksGo_2
      by_cases hc : n ≤ i
      · have e : i = n := by omega
        subst e
        rw [if_pos (nI_le (Nat.le_refl _) (by omega))]
        exact ⟨b, rfl, h, hf⟩
      · rw [if_neg (nI_ge (by omega) (by omega))]
        have hTi : (goS P S R sg i (f, T, rt)).2.2.1 = T + i := goS_T P S R sg (f, T, rt) i
        obtain ⟨b1, q1, q2, q3⟩ := fieldGoesM h hP hP2 hS hR (by omega) hs
        rw [q1]
        simp only [Option.bind_some]
        obtain ⟨b2, r1, r2, r3⟩ := rotorsGoM q2 hS hR (kOk_go hk i) (mv0 + (goS P S R sg i (f, T, rt)).1) (sl0 + slS P S R sg (f, T, rt) i)
        rw [r1]
        simp only [Option.bind_some]
        have e1 : (goS P S R sg (i + 1) (f, T, rt)) = ((goS P S R sg i (f, T, rt)).1 + pulM R (ledS P S sg (goS P S R sg i (f, T, rt)).2.1 (T + i)) (goS P S R sg i (f, T, rt)).2.2.2, (ledS P S sg (goS P S R sg i (f, T, rt)).2.1 (T + i), T + i + 1, pulR R (ledS P S sg (goS P S R sg i (f, T, rt)).2.1 (T + i)) (goS P S R sg i (f, T, rt)).2.2.2)) := by
          show ((goS P S R sg i (f, T, rt)).1 + (tkS P S R sg (goS P S R sg i (f, T, rt)).2).1, (tkS P S R sg (goS P S R sg i (f, T, rt)).2).2) = _
          unfold tkS
          rw [hTi]
        have e2 : slS P S R sg (f, T, rt) (i + 1) = slS P S R sg (f, T, rt) i + slN R (ledS P S sg (goS P S R sg i (f, T, rt)).2.1 (T + i)) (goS P S R sg i (f, T, rt)).2.2.2 := by
          show slS P S R sg (f, T, rt) i + slN R (ledS P S sg (goS P S R sg i (f, T, rt)).2.1 (goS P S R sg i (f, T, rt)).2.2.1) _ = _
          rw [hTi]
        have hk2 := ih (i + 1) b2 (by omega) (by omega) (by rw [e1]; exact r2) (fun j hj => by rw [r3 j hj, q3 j hj, hf j hj])
        rw [e1, e2] at hk2
        rw [nI_1, Int32.add_assoc, Int32.add_assoc]
        exact hk2
  have h := loop FU 0 b0 (Nat.zero_le _) (by unfold FU; omega) h0 (fun _ _ => rfl)
  rw [show (goS P S R sg 0 (f, T, rt)).1 = 0 from rfl, show slS P S R sg (f, T, rt) 0 = 0 from rfl, Int32.add_zero, Int32.add_zero] at h
  exact h
/-! rows copied -/
theorem takesAllM (mv sl : Int32) (st nw : Nat → Int32) : ∃ nw', F_X7_takesAll mv sl st nw = some (0, 0, nw') ∧ ∀ j, j < 56 → nw' j = st j := by
  have loop : ∀ (fu i : Nat) (nw : Nat → Int32), i ≤ 56 → 56 - i < fu → (∀ j, j < i → nw j = st j) → ∃ nw', F_X7_takesAll_2 fu mv sl st nw (nI i) = some (0, 0, nw') ∧ ∀ j, j < 56 → nw' j = st j := by
    intro fu
    induction fu with
    | zero => intro i nw h1 h2; omega
    | succ fu ih =>
      intro i nw h1 h2 h
      unfold F_X7_takesAll_2
      by_cases hc : 56 ≤ i
      · have e : i = 56 := by omega
        subst e
        rw [if_pos (by decide)]
        exact ⟨nw, rfl, h⟩
      · rw [if_neg (show ¬ (56 : Int32) ≤ nI i from nI_ge (a := i) (b := 56) (by omega) (by omega)), chk_pos (inb_nI (by omega) (by omega)), chk_pos (inb_nI (by omega) (by omega)), cl_nI (by omega), nI_1]
        refine ih (i + 1) _ (by omega) (by omega) (fun j hj => ?_)
        unfold upd
        by_cases e : j = i
        · rw [if_pos e, e]
        · rw [if_neg e]; exact h j (by omega)
  exact loop FU 0 nw (by omega) (by unfold FU; omega) (fun j hj => absurd hj (Nat.not_lt_zero j))
theorem settlesM (st nw : Nat → Int32) : ∃ st', F_X7_settles st nw = some st' ∧ (∀ j, j < 56 → st' j = nw j) ∧ ∀ j, 56 ≤ j → st' j = st j := by
  have loop : ∀ (fu i : Nat) (s : Nat → Int32), i ≤ 56 → 56 - i < fu → (∀ j, j < i → s j = nw j) → (∀ j, 56 ≤ j → s j = st j) → ∃ st', F_X7_settles_2 fu s nw (nI i) = some st' ∧ (∀ j, j < 56 → st' j = nw j) ∧ ∀ j, 56 ≤ j → st' j = st j := by
    intro fu
    induction fu with
    | zero => intro i s h1 h2; omega
    | succ fu ih =>
      intro i s h1 h2 h h3
      unfold F_X7_settles_2
      by_cases hc : 56 ≤ i
      · have e : i = 56 := by omega
        subst e
        rw [if_pos (by decide)]
        exact ⟨s, rfl, h, h3⟩
      · rw [if_neg (show ¬ (56 : Int32) ≤ nI i from nI_ge (a := i) (b := 56) (by omega) (by omega)), chk_pos (inb_nI (by omega) (by omega)), chk_pos (inb_nI (by omega) (by omega)), cl_nI (by omega), nI_1]
        refine ih (i + 1) _ (by omega) (by omega) (fun j hj => ?_) (fun j hj => ?_)
        · unfold upd
          by_cases e : j = i
          · rw [if_pos e, e]
          · rw [if_neg e]; exact h j (by omega)
        · unfold upd
          rw [if_neg (by omega)]
          exact h3 j hj
  exact loop FU 0 st (by omega) (by unfold FU; omega) (fun j hj => absurd hj (Nat.not_lt_zero j)) (fun _ _ => rfl)
