/-! luck, mean: ticks in which coils fail -/
/-- do coils fail in tick k -/
def fbS (x k : Nat) : Prop := ishr (nI x) (nI k) &&& 1 = 1
def leaR (R : Nat) (rt : Nat → Rot) : Nat → Rot := fun j => if j < R then ((rt j).1, (rt j).2.1, (rt j).2.2.1, 0) else rt j
/-- a tick in which coils may fail -/
def fkS (P S R : Nat) (sg : Nat → Int32) (x k : Nat) (s : Sst) : Int32 × Sst :=
  if ishr (nI x) (nI k) &&& 1 = 1 then (0, (ledS P S sg s.1 s.2.1, s.2.1 + 1, leaR R s.2.2)) else (pulM R (ledS P S sg s.1 s.2.1) s.2.2, (ledS P S sg s.1 s.2.1, s.2.1 + 1, pulR R (ledS P S sg s.1 s.2.1) s.2.2))
def foS (P S R : Nat) (sg : Nat → Int32) (x : Nat) : Nat → Sst → Int32 × Sst
  | 0, s => (0, s)
  | n + 1, s => ((foS P S R sg x n s).1 + (fkS P S R sg x n (foS P S R sg x n s).2).1, (fkS P S R sg x n (foS P S R sg x n s).2).2)
theorem foS_T (P S R : Nat) (sg : Nat → Int32) (x : Nat) (s : Sst) : ∀ n, (foS P S R sg x n s).2.2.1 = s.2.1 + n
  | 0 => rfl
  | n + 1 => by
    have h := foS_T P S R sg x s n
    show (fkS P S R sg x n (foS P S R sg x n s).2).2.2.1 = _
    unfold fkS
    split
    · show (foS P S R sg x n s).2.2.1 + 1 = _
      omega
    · show (foS P S R sg x n s).2.2.1 + 1 = _
      omega
theorem fol_mv (f : Int32) (q : Rot) : ∃ c, c ≤ 2 ∧ (folS f q).1 = nI c := by
  have hs : ∀ so wy gap side, ∃ c, c ≤ 2 ∧ stepS so wy gap side = nI c := by
    intro so wy gap side
    unfold stepS
    split
    · exact ⟨1, by omega, rfl⟩
    split
    · split
      · exact ⟨1, by omega, rfl⟩
      · exact ⟨2, by omega, rfl⟩
    split
    · split
      · exact ⟨1, by omega, rfl⟩
      · exact ⟨0, by omega, rfl⟩
    split
    · split
      · exact ⟨0, by omega, rfl⟩
      · exact ⟨1, by omega, rfl⟩
    · exact ⟨0, by omega, rfl⟩
  unfold folS
  split
  · exact ⟨0, by omega, rfl⟩
  split
  · exact hs _ _ _ _
  · exact ⟨0, by omega, rfl⟩
theorem pulM_mv (f : Int32) (rt : Nat → Rot) : ∀ R, ∃ c, c ≤ 2 * R ∧ pulM R f rt = nI c
  | 0 => ⟨0, by omega, rfl⟩
  | R + 1 => by
    obtain ⟨c, h1, h2⟩ := pulM_mv f rt R
    obtain ⟨d, h3, h4⟩ := fol_mv f (rt R)
    refine ⟨c + d, by omega, ?_⟩
    show pulM R f rt + (folS f (rt R)).1 = _
    rw [h2, h4, nI_add]
theorem foS_mv {P S R : Nat} {sg : Nat → Int32} {x : Nat} {s : Sst} (hR : R ≤ 4) : ∀ n, ∃ c, c ≤ 8 * n ∧ (foS P S R sg x n s).1 = nI c
  | 0 => ⟨0, by omega, rfl⟩
  | n + 1 => by
    obtain ⟨c, h1, h2⟩ := foS_mv (P := P) (S := S) (sg := sg) (x := x) (s := s) hR n
    show ∃ c, c ≤ 8 * (n + 1) ∧ (foS P S R sg x n s).1 + (fkS P S R sg x n (foS P S R sg x n s).2).1 = nI c
    rw [h2]
    unfold fkS
    split
    · exact ⟨c, by omega, Int32.add_zero _⟩
    · obtain ⟨d, h3, h4⟩ := pulM_mv (ledS P S sg (foS P S R sg x n s).2.1 (foS P S R sg x n s).2.2.1) (foS P S R sg x n s).2.2.2 R
      refine ⟨c + d, by omega, ?_⟩
      show nI c + pulM R _ _ = _
      rw [h4, nI_add]
theorem kOk_lea {R : Nat} {rt : Nat → Rot} (h : kOk R rt) : kOk R (leaR R rt) := by
  intro r hr
  unfold leaR
  rw [if_pos hr]
  exact h r hr
theorem kOk_fo {P S R : Nat} {sg : Nat → Int32} {x : Nat} {s : Sst} (h : kOk R s.2.2) : ∀ n, kOk R (foS P S R sg x n s).2.2.2
  | 0 => h
  | n + 1 => by
    have ih := kOk_fo (P := P) (S := S) (sg := sg) (x := x) h n
    show kOk R (fkS P S R sg x n (foS P S R sg x n s).2).2.2.2
    unfold fkS
    split
    · exact kOk_lea ih
    · exact kOk_pul R ih
theorem leave_eq {R T : Nat} {rt : Nat → Rot} (hR : R ≤ 4) : F_X0_leaveRotors (nI T) (nI R) rt = some (nI (T + 1), leaR R rt) := by
  have loop : ∀ (fu i : Nat), i ≤ R → R - i < fu → F_X0_leaveRotors_2 fu (nI T) (nI R) (leaR i rt) (nI i) = some (nI (T + 1), leaR R rt) := by
    intro fu
    induction fu with
    | zero => intro i h1 h2; omega
    | succ fu ih =>
      intro i h1 h2
      unfold F_X0_leaveRotors_2
      by_cases h : R ≤ i
      · have e : i = R := by omega
        subst e
        rw [if_pos (nI_le (Nat.le_refl _) (by omega)), nI_1]
      · rw [if_neg (nI_ge (by omega) (by omega)), chk_pos (inb_nI (by omega) (by omega)), cl_nI (by omega), nI_1]
        have e : up (leaR i rt) i ((leaR i rt i).1, (leaR i rt i).2.1, (leaR i rt i).2.2.1, 0) = leaR (i + 1) rt := by
          have e0 : leaR i rt i = rt i := if_neg (Nat.lt_irrefl i)
          rw [e0]
          funext j
          unfold up leaR
          by_cases h3 : j = i
          · subst h3; rw [if_pos rfl, if_pos (by omega)]
          · rw [if_neg h3]
            by_cases h4 : j < i
            · rw [if_pos h4, if_pos (by omega)]
            · rw [if_neg h4, if_neg (by omega)]
        rw [e]
        exact ih (i + 1) (by omega) (by omega)
  have h0 : leaR 0 rt = rt := by funext j; exact if_neg (Nat.not_lt_zero j)
  have h := loop FU 0 (Nat.zero_le _) (by unfold FU; omega)
  rw [h0] at h
  exact h
theorem failC {P S R T n x : Nat} {sg : Nat → Int32} {f : Int32} {rt : Nat → Rot} (hP : 1 ≤ P) (hP2 : P ≤ 9) (hS : S ≤ 16) (hR : R ≤ 4) (hT : T + n < 20000) (hn : n ≤ 1000) :
    F_X0_goFailing f (nI T) (nI P) (nI S) (nI R) sg rt (nI n) (nI x) = some ((foS P S R sg x n (f, T, rt)).1, (foS P S R sg x n (f, T, rt)).2.1, nI (T + n), (foS P S R sg x n (f, T, rt)).2.2.2) := by
  have loop : ∀ (fu i : Nat), i ≤ n → n - i < fu →
      F_X0_goFailing_5 fu (foS P S R sg x i (f, T, rt)).2.1 (nI (T + i)) (nI P) (nI S) (nI R) sg (foS P S R sg x i (f, T, rt)).2.2.2 (nI n) (nI x) (foS P S R sg x i (f, T, rt)).1 (nI i) = some ((foS P S R sg x n (f, T, rt)).1, (foS P S R sg x n (f, T, rt)).2.1, nI (T + n), (foS P S R sg x n (f, T, rt)).2.2.2) := by
    intro fu
    induction fu with
    | zero => intro i h1 h2; omega
    | succ fu ih =>
      intro i h1 h2
      unfold F_X0_goFailing_5
      by_cases h : n ≤ i
      · have e : i = n := by omega
        subst e
        rw [if_pos (nI_le (Nat.le_refl _) (by omega))]
      · rw [if_neg (nI_ge (by omega) (by omega)), leadField_eq hP hP2 hS (by omega)]
        simp only [ob]
        have hTi : (foS P S R sg x i (f, T, rt)).2.2.1 = T + i := foS_T P S R sg x (f, T, rt) i
        have hk := ih (i + 1) (by omega) (by omega)
        rw [show foS P S R sg x (i + 1) (f, T, rt) = ((foS P S R sg x i (f, T, rt)).1 + (fkS P S R sg x i (foS P S R sg x i (f, T, rt)).2).1, (fkS P S R sg x i (foS P S R sg x i (f, T, rt)).2).2) from rfl] at hk
        unfold fkS at hk
        rw [hTi] at hk
        rw [nI_1]
        by_cases c : ishr (nI x) (nI i) &&& 1 = 1
        · rw [if_pos c] at hk
          rw [if_pos c, leave_eq hR]
          simp only [ob]
          simp only [Int32.add_zero] at hk
          exact hk
        · rw [if_neg c] at hk
          rw [if_neg c, pullRotors_eq hR]
          simp only [ob]
          exact hk
  exact loop FU 0 (Nat.zero_le _) (by unfold FU; omega)
section
variable {f : Int32} {T P S R : Nat} {sg : Nat → Int32} {rt : Nat → Rot} {b : Nat → Int32}
theorem rotorsLeave_loop (hS : S ≤ 16) (hR : R ≤ 4) {sl mv : Int32} : ∀ (fu i : Nat) (b : Nat → Int32), i ≤ R → R - i < fu → NB f T P S R sg (leaR i rt) b →
    ∃ b', F_X7_rotorsGo_26 fu mv sl b 1 (nI i) = some (mv, sl, b') ∧ NB f (T + 1) P S R sg (leaR R rt) b' := by
  intro fu
  induction fu with
  | zero => intro i b h1 h2; omega
  | succ fu ih =>
    intro i b h1 h2 h
    unfold F_X7_rotorsGo_26
    rw [chk_pos (by decide), show (36 : Int32).toNatClampNeg = 36 from rfl, h.1.2.2.2.2]
    by_cases hc : R ≤ i
    · have e : i = R := by omega
      subst e
      rw [if_pos (nI_le (Nat.le_refl _) (by omega)), chk_pos (by decide), chk_pos (by decide), show (19 : Int32).toNatClampNeg = 19 from rfl, h.1.2.2.2.1, nI_1]
      exact ⟨_, rfl, NB_tick h hS hR⟩
    · rw [if_neg (nI_ge (by omega) (by omega)), if_neg i10, show F_X7_becomesOf b (nI i) 3 0 = some (upd b (20 + 4 * i + 3) 0) from bec_eq (j := 3) (by omega) (by omega)]
      simp only [ob]
      rw [nI_1]
      have e0 : leaR i rt i = rt i := if_neg (Nat.lt_irrefl i)
      have hq := NB_fld h hS hR (k := i) (j := 3) (by omega) (by omega) 0 ((rt i).1, (rt i).2.1, (rt i).2.2.1, 0) (by rw [e0, if_neg (by omega)]) (by rw [e0, if_neg (by omega)]) (by rw [e0, if_neg (by omega)]) (by rw [if_pos rfl])
      have e : up (leaR i rt) i ((rt i).1, (rt i).2.1, (rt i).2.2.1, 0) = leaR (i + 1) rt := by
        funext j
        unfold up leaR
        by_cases h3 : j = i
        · subst h3; rw [if_pos rfl, if_pos (by omega)]
        · rw [if_neg h3]
          by_cases h4 : j < i
          · rw [if_pos h4, if_pos (by omega)]
          · rw [if_neg h4, if_neg (by omega)]
      rw [e] at hq
      exact ih (i + 1) _ (by omega) (by omega) hq
theorem rotorsLeaveM (h : NB f T P S R sg rt b) (hS : S ≤ 16) (hR : R ≤ 4) (mv sl : Int32) :
    ∃ sl' b', F_X7_rotorsGo mv sl b 1 = some (mv, sl', b') ∧ NB f (T + 1) P S R sg (leaR R rt) b' := by
  unfold F_X7_rotorsGo
  rw [slippingM h hR]
  simp only [ob]
  have h0 : NB f T P S R sg (leaR 0 rt) b := by
    rw [show leaR 0 rt = rt by funext j; exact if_neg (Nat.not_lt_zero j)]; exact h
  have step : ∀ v, ∃ b', F_X7_rotorsGo_26 FU mv (sl + v) b 1 0 = some (mv, sl + v, b') ∧ NB f (T + 1) P S R sg (leaR R rt) b' :=
    fun v => rotorsLeave_loop hS hR FU 0 b (Nat.zero_le _) (by unfold FU; omega) h0
  unfold F_X7_rotorsGo_17
  by_cases hc : slB f rt R ≤ 0
  · rw [if_pos hc, show F_X7_flag 0 = some 0 from rfl]
    simp only [ob]
    obtain ⟨b', e1, e2⟩ := step 0
    exact ⟨_, b', e1, e2⟩
  · rw [if_neg hc, show F_X7_flag 1 = some 1 from rfl]
    simp only [ob]
    obtain ⟨b', e1, e2⟩ := step 1
    exact ⟨_, b', e1, e2⟩
end
/-- the odds of one set of failures -/
def wN (x v : Nat) : Nat → Nat
  | 0 => 1
  | n + 1 => wN x v n * (if ishr (nI x) (nI n) &&& 1 = 1 then v else 10 - v)
theorem wN_le {x v : Nat} (hv : v ≤ 10) : ∀ n, wN x v n ≤ 10 ^ n
  | 0 => Nat.le_refl _
  | n + 1 => by
    have h := wN_le (x := x) hv n
    rw [wN, Nat.pow_succ]
    exact Nat.mul_le_mul h (by split <;> omega)
def ctN (x : Nat) : Nat → Nat
  | 0 => 0
  | n + 1 => ctN x n + (if ishr (nI x) (nI n) &&& 1 = 1 then 1 else 0)
theorem ctN_le (x : Nat) : ∀ n, ctN x n ≤ n
  | 0 => Nat.le_refl _
  | n + 1 => by
    have := ctN_le x n
    rw [ctN]
    split <;> omega
theorem wN_eq (x v : Nat) : ∀ n, wN x v n = v ^ ctN x n * (10 - v) ^ (n - ctN x n)
  | 0 => rfl
  | n + 1 => by
    have h := wN_eq x v n
    have h2 := ctN_le x n
    rw [wN, ctN, h]
    by_cases c : ishr (nI x) (nI n) &&& 1 = 1
    · rw [if_pos c, if_pos c, Nat.pow_succ, show n + 1 - (ctN x n + 1) = n - ctN x n by omega, Nat.mul_assoc, Nat.mul_comm _ v, ← Nat.mul_assoc]
    · rw [if_neg c, if_neg c, Nat.add_zero, show n + 1 - ctN x n = (n - ctN x n) + 1 by omega, Nat.pow_succ, Nat.mul_assoc]
theorem bc_tab : ∀ n, n ≤ 8 → ∀ x, x < 2 ^ n → F_J6_bitCount_0f7a4 (nI x) = some (nI (ctN x n)) := by decide +kernel
theorem power_eq {a e : Nat} (ha : a ≤ 10) (he : e ≤ 8) : F_X6_power (nI a) (nI e) = some (lN (a ^ e)) := by
  have loop : ∀ (fu i : Nat), i ≤ e → e - i < fu → F_X6_power_5 fu (nI a) (nI e) (lN (a ^ i)) (nI i) = some (lN (a ^ e)) := by
    intro fu
    induction fu with
    | zero => intro i h1 h2; omega
    | succ fu ih =>
      intro i h1 h2
      unfold F_X6_power_5
      by_cases h : e ≤ i
      · have e' : i = e := by omega
        subst e'
        rw [if_pos (nI_le (Nat.le_refl _) (by omega))]
      · rw [if_neg (nI_ge (by omega) (by omega)), nI_l (by omega), lN_mul, nI_1, ← Nat.pow_succ]
        exact ih (i + 1) (by omega) (by omega)
  exact loop FU 0 (Nat.zero_le _) (by unfold FU; omega)
theorem weight_eq {v n x : Nat} (hv : v ≤ 10) (hn : n ≤ 8) : F_X6_weightOf (nI v) (nI n) (nI (ctN x n)) = some (lN (wN x v n)) := by
  have h := ctN_le x n
  unfold F_X6_weightOf
  rw [power_eq hv (by omega), show (10 : Int32) = nI 10 from rfl, pk_sub hv, pk_sub h, power_eq (by omega) (by omega)]
  simp only [ob]
  rw [lN_mul, ← wN_eq]
/-! lowest terms -/
theorem lz {a : Nat} (ha : a < 2 ^ 63) : (lg_cmp (lN a) 0 = 0 ↔ a = 0) ∧ (lN a = 0 ↔ a = 0) := by
  have h : lN a = 0 ↔ a = 0 := pk_lEQ (b := 0) ha (by decide)
  refine ⟨?_, h⟩
  unfold lg_cmp
  by_cases c : a = 0
  · subst c
    exact ⟨fun _ => rfl, fun _ => rfl⟩
  · have c2 : lN a > 0 := (pk_lLT (a := 0) (by decide) ha).2 (by omega)
    rw [if_pos c2]
    exact ⟨fun h => absurd h (by decide), fun h => absurd h c⟩
theorem gcd_st (a b : Nat) : Nat.gcd a b = Nat.gcd b (a % b) := by
  rw [Nat.gcd_comm a b, Nat.gcd_rec b a, Nat.gcd_comm]
theorem half_mod {a b : Nat} (h0 : 0 < b) (h : b ≤ a) : 2 * (a % b) < a := by
  have h1 := Nat.mod_lt a h0
  have h2 := Nat.div_add_mod a b
  have h3 : 1 ≤ a / b := (Nat.one_le_div_iff h0).2 h
  have h4 : b * 1 ≤ b * (a / b) := Nat.mul_le_mul_left b h3
  omega
theorem comM : ∀ (k a b fu : Nat), a < 2 ^ 62 → b < 2 ^ k → k ≤ 62 → 2 * k < fu → F_X7_common_6 fu (lN a) (lN b) = some (lN (Nat.gcd a b)) := by
  intro k
  induction k with
  | zero =>
    intro a b fu ha hb hk hf
    obtain ⟨fu, rfl⟩ : ∃ g, fu = g + 1 := ⟨fu - 1, by omega⟩
    obtain rfl : b = 0 := by omega
    unfold F_X7_common_6
    rw [if_pos ((lz (by decide)).1.2 rfl), Nat.gcd_zero_right]
  | succ k ih =>
    intro a b fu ha hb hk hf
    obtain ⟨fu, rfl⟩ : ∃ g, fu = g + 1 := ⟨fu - 1, by omega⟩
    have hb2 : b < 2 ^ 62 := Nat.lt_of_lt_of_le hb (Nat.pow_le_pow_right (by decide) hk)
    unfold F_X7_common_6
    by_cases c : b = 0
    · subst c
      rw [if_pos ((lz (by decide)).1.2 rfl), Nat.gcd_zero_right]
    · rw [if_neg (fun h => c ((lz (by omega)).1.1 h)), chk_pos (show ¬ lN b = 0 from fun h => c ((lz (by omega)).2.1 h)), show lrem (lN a) (lN b) = lN (a % b) from pk_lRem (by omega) (by omega) (by omega), gcd_st a b]
      obtain ⟨fu, rfl⟩ : ∃ g, fu = g + 1 := ⟨fu - 1, by omega⟩
      have hr := Nat.mod_lt a (show 0 < b by omega)
      unfold F_X7_common_6
      by_cases d : a % b = 0
      · rw [d, if_pos ((lz (by decide)).1.2 rfl), Nat.gcd_zero_right]
      · rw [if_neg (fun h => d ((lz (by omega)).1.1 h)), chk_pos (show ¬ lN (a % b) = 0 from fun h => d ((lz (by omega)).2.1 h)), show lrem (lN b) (lN (a % b)) = lN (b % (a % b)) from pk_lRem (by omega) (by omega) (by omega), gcd_st b (a % b)]
        have h2 := half_mod (a := b) (b := a % b) (by omega) (by omega)
        exact ih (a % b) (b % (a % b)) fu (by omega) (by rw [Nat.pow_succ] at hb; omega) (by omega) (by omega)
theorem comC {x0 x2 : Int64} {x4 : Int32} : ∀ (k a b fu i : Nat), a < 2 ^ 62 → b < 2 ^ k → k ≤ 62 → 2 * k < fu → i + 2 * k < 1000 → F_X6_inLowestTerms_9 fu x0 x2 x4 (lN a) (lN b) (nI i) = F_X6_inLowestTerms_45 x0 x2 x4 (lN (Nat.gcd a b)) := by
  intro k
  induction k with
  | zero =>
    intro a b fu i ha hb hk hf hi
    obtain ⟨fu, rfl⟩ : ∃ g, fu = g + 1 := ⟨fu - 1, by omega⟩
    obtain rfl : b = 0 := by omega
    unfold F_X6_inLowestTerms_9
    rw [if_neg (show ¬ (1000 : Int32) ≤ nI i from nI_ge (b := 1000) (by omega) (by omega)), if_pos ((lz (by decide)).1.2 rfl), Nat.gcd_zero_right]
  | succ k ih =>
    intro a b fu i ha hb hk hf hi
    obtain ⟨fu, rfl⟩ : ∃ g, fu = g + 1 := ⟨fu - 1, by omega⟩
    have hb2 : b < 2 ^ 62 := Nat.lt_of_lt_of_le hb (Nat.pow_le_pow_right (by decide) hk)
    unfold F_X6_inLowestTerms_9
    rw [if_neg (show ¬ (1000 : Int32) ≤ nI i from nI_ge (b := 1000) (by omega) (by omega))]
    by_cases c : b = 0
    · subst c
      rw [if_pos ((lz (by decide)).1.2 rfl), Nat.gcd_zero_right]
    · rw [if_neg (fun h => c ((lz (by omega)).1.1 h)), chk_pos (show ¬ lN b = 0 from fun h => c ((lz (by omega)).2.1 h)), show lrem (lN a) (lN b) = lN (a % b) from pk_lRem (by omega) (by omega) (by omega), gcd_st a b, nI_1]
      obtain ⟨fu, rfl⟩ : ∃ g, fu = g + 1 := ⟨fu - 1, by omega⟩
      have hr := Nat.mod_lt a (show 0 < b by omega)
      unfold F_X6_inLowestTerms_9
      rw [if_neg (show ¬ (1000 : Int32) ≤ nI (i + 1) from nI_ge (b := 1000) (by omega) (by omega))]
      by_cases d : a % b = 0
      · rw [d, if_pos ((lz (by decide)).1.2 rfl), Nat.gcd_zero_right]
      · rw [if_neg (fun h => d ((lz (by omega)).1.1 h)), chk_pos (show ¬ lN (a % b) = 0 from fun h => d ((lz (by omega)).2.1 h)), show lrem (lN b) (lN (a % b)) = lN (b % (a % b)) from pk_lRem (by omega) (by omega) (by omega), gcd_st b (a % b), nI_1]
        have h2 := half_mod (a := b) (b := a % b) (by omega) (by omega)
        exact ih (a % b) (b % (a % b)) fu (i + 1 + 1) (by omega) (by rw [Nat.pow_succ] at hb; omega) (by omega) (by omega) (by omega)
theorem low_eq {a b : Nat} {x4 : Int32} (ha : a < 2 ^ 62) (hb : b < 2 ^ 62) (h0 : 0 < b) : ∃ r, F_X6_inLowestTerms (lN a) (lN b) x4 = some r ∧ F_X7_lowest (lN a) (lN b) x4 = some r := by
  have hg : 0 < Nat.gcd a b := Nat.gcd_pos_of_pos_right a h0
  have hg2 : Nat.gcd a b ≤ b := Nat.le_of_dvd h0 (Nat.gcd_dvd_right a b)
  have e1 : F_X6_inLowestTerms (lN a) (lN b) x4 = F_X6_inLowestTerms_45 (lN a) (lN b) x4 (lN (Nat.gcd a b)) := comC 62 a b FU 0 ha hb (by omega) (by unfold FU; omega) (by omega)
  have e2 : F_X7_common (lN b) (lN a) = some (lN (Nat.gcd b a)) := comM 62 b a FU hb ha (by omega) (by unfold FU; omega)
  rw [e1]
  unfold F_X6_inLowestTerms_45 F_X7_lowest
  rw [e2, Nat.gcd_comm b a]
  simp only [ob]
  have hz : ¬ lN (Nat.gcd a b) = 0 := fun h => by have := (lz (by omega)).2.1 h; omega
  have hm : lmax 1 (lN (Nat.gcd a b)) = lN (Nat.gcd a b) := by
    show (if lN (Nat.gcd a b) < 1 then (1 : Int64) else lN (Nat.gcd a b)) = _
    rw [if_neg]
    intro h
    have := (pk_lLT (b := 1) (by omega) (by decide)).1 h
    omega
  rw [hm, chk_pos hz, chk_pos hz]
  by_cases c : x4 = 0
  · rw [if_pos c]; exact ⟨_, rfl, rfl⟩
  · rw [if_neg c]; exact ⟨_, rfl, rfl⟩
