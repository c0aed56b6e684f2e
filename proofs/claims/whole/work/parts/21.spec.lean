/-! what a tick does, in numbers -/
def stepS (so wy gap side : Int32) : Int32 := if so = 0 then 1 else if so = 1 then (if gap ≤ 1 then 1 else 2) else if so = 2 then (if wy = side then 1 else 0) else (if wy = side then (if gap ≤ 1 then 0 else 1) else 0)
def sideS (off : Int32) : Int32 := if 0 ≤ off then 1 else -1
/-- a rotor in a tick: by how many places, and the rotor then -/
def folS (f : Int32) (q : Rot) : Int32 × Rot :=
  if iabs (offS f q.2.2.1) = 0 then (0, (q.1, q.2.1, q.2.2.1, 0))
  else if iabs (offS f q.2.2.1) ≤ q.2.1 then
    (stepS q.1 q.2.2.2 (iabs (offS f q.2.2.1)) (sideS (offS f q.2.2.1)), (q.1, q.2.1, q.2.2.1 + stepS q.1 q.2.2.2 (iabs (offS f q.2.2.1)) (sideS (offS f q.2.2.1)) * sideS (offS f q.2.2.1), if q.1 = 3 ∧ iabs (offS f q.2.2.1) = 1 then 0 else sideS (offS f q.2.2.1)))
  else (0, (q.1, q.2.1, q.2.2.1, 0))
theorem folS_sort (f : Int32) (q : Rot) : (folS f q).2.1 = q.1 := by unfold folS; split; rfl; split <;> rfl
theorem folS_grip (f : Int32) (q : Rot) : (folS f q).2.2.1 = q.2.1 := by unfold folS; split; rfl; split <;> rfl
theorem follow_eq (so gr pl wy f : Int32) : F_X2_follow so gr pl wy f = some ((folS f (so, gr, pl, wy)).1, (folS f (so, gr, pl, wy)).2.2.2.1, (folS f (so, gr, pl, wy)).2.2.2.2) := by
  have hs : ∀ g sd, F_X2_steps so wy g sd = some (stepS so wy g sd) := by
    intro g sd
    unfold F_X2_steps stepS
    repeat' split
    all_goals first | rfl | contradiction
  have e : F_X2_off pl f = some (offS f pl) := rfl
  unfold F_X2_follow
  rw [e]
  show (if iabs (offS f pl) = 0 then _ else _) = _
  unfold folS
  by_cases h0 : iabs (offS f pl) = 0
  · rw [if_pos h0, if_pos h0]; rfl
  · rw [if_neg h0, if_neg h0]
    by_cases hg : iabs (offS f pl) ≤ gr
    · rw [if_pos hg, if_pos hg]
      unfold sideS
      by_cases hp : 0 ≤ offS f pl
      · rw [if_pos hp, if_pos hp]
        unfold F_X2_follow_39
        rw [hs]
        show (if so = 3 then _ else _) = _
        by_cases h3 : so = 3
        · rw [if_pos h3]
          by_cases h1 : iabs (offS f pl) = 1
          · rw [if_pos h1, if_pos ⟨h3, h1⟩]; rfl
          · rw [if_neg h1, if_neg (fun z => h1 z.2)]; rfl
        · rw [if_neg h3, if_neg (fun z => h3 z.1)]; rfl
      · rw [if_neg hp, if_neg hp]
        unfold F_X2_follow_39
        rw [hs]
        show (if so = 3 then _ else _) = _
        by_cases h3 : so = 3
        · rw [if_pos h3]
          by_cases h1 : iabs (offS f pl) = 1
          · rw [if_pos h1, if_pos ⟨h3, h1⟩]; rfl
          · rw [if_neg h1, if_neg (fun z => h1 z.2)]; rfl
        · rw [if_neg h3, if_neg (fun z => h3 z.1)]; rfl
    · rw [if_neg hg, if_neg hg]; rfl
/-- sums -/
def sumI (g : Nat → Int32) : Nat → Int32
  | 0 => 0
  | n + 1 => sumI g n + g n
theorem sumI_cong {g h : Nat → Int32} : ∀ {n : Nat}, (∀ k, k < n → g k = h k) → sumI g n = sumI h n
  | 0, _ => rfl
  | n + 1, e => by rw [sumI, sumI, sumI_cong (fun k hk => e k (by omega)), e n (by omega)]
def byS (v : Int32) : Int32 := if v = 1 then 1 else if v = 2 then -1 else if v = 3 then 2 else 0
/-- the field when its sign is done -/
def ledS (P S : Nat) (sg : Nat → Int32) (f : Int32) (T : Nat) : Int32 := if S = 0 then f else if T % P = 0 then f + byS (sg (T / P % S)) else f
abbrev Sst : Type := Int32 × Nat × (Nat → Rot)
/-- all rotors pulled -/
def pulR (R : Nat) (f : Int32) (rt : Nat → Rot) : Nat → Rot := fun j => if j < R then (folS f (rt j)).2 else rt j
def pulM (R : Nat) (f : Int32) (rt : Nat → Rot) : Int32 := sumI (fun j => (folS f (rt j)).1) R
def tkS (P S R : Nat) (sg : Nat → Int32) (s : Sst) : Int32 × Sst :=
  (pulM R (ledS P S sg s.1 s.2.1) s.2.2, (ledS P S sg s.1 s.2.1, s.2.1 + 1, pulR R (ledS P S sg s.1 s.2.1) s.2.2))
def goS (P S R : Nat) (sg : Nat → Int32) : Nat → Sst → Int32 × Sst
  | 0, s => (0, s)
  | n + 1, s => ((goS P S R sg n s).1 + (tkS P S R sg (goS P S R sg n s).2).1, (tkS P S R sg (goS P S R sg n s).2).2)
theorem goS_T (P S R : Nat) (sg : Nat → Int32) (s : Sst) : ∀ n, (goS P S R sg n s).2.2.1 = s.2.1 + n
  | 0 => rfl
  | n + 1 => by
    show (goS P S R sg n s).2.2.1 + 1 = _
    rw [goS_T P S R sg s n]
    omega
/-! the class's drive -/
theorem irem_nI {a d : Nat} (ha : a < 2 ^ 31) (h0 : 0 < d) (hd : d < 2 ^ 31) : irem (nI a) (nI d) = nI (a % d) := pk_rem ha h0 hd
theorem moveField_eq (f v : Int32) : F_X0_moveField f v = some (f + byS v) := by
  unfold F_X0_moveField byS
  split
  · rfl
  · split
    · rw [Int32.sub_eq_add_neg]
    · split
      · rfl
      · rw [Int32.add_zero]
theorem leadField_eq {P S T : Nat} {sg : Nat → Int32} {f : Int32} (hP : 1 ≤ P) (hP2 : P ≤ 9) (hS : S ≤ 16) (hT : T < 20000) : F_X0_leadField f (nI T) (nI P) (nI S) sg = some (ledS P S sg f T) := by
  unfold F_X0_leadField ledS
  by_cases h0 : S = 0
  · subst h0
    rw [if_pos (by decide), if_pos rfl]
  · rw [if_neg (nI_nle (by omega) (by omega)), if_neg h0, if_neg (nI_nle (by omega) (by omega)), chk_pos (nI_ne0 (by omega) (by omega)), irem_nI (by omega) (by omega) (by omega)]
    by_cases hm : T % P = 0
    · rw [if_pos hm, if_pos (by rw [hm]; rfl), chk_pos (nI_ne0 (by omega) (by omega)), chk_pos (nI_ne0 (by omega) (by omega))]
      have hlt : T / P < 2 ^ 31 := Nat.lt_of_le_of_lt (Nat.div_le_self _ _) (by omega)
      have hmod : T / P % S < S := Nat.mod_lt _ (by omega)
      rw [pk_div (by omega) (by omega) (by omega), irem_nI hlt (by omega) (by omega), chk_pos (inb_nI (by omega) (by omega)), cl_nI (by omega), moveField_eq]
      rfl
    · rw [if_neg hm, if_neg (nI_ne0 (by omega) (Nat.lt_of_lt_of_le (Nat.mod_lt _ (by omega)) (by omega)))]
theorem up_pul (R : Nat) (f : Int32) (rt : Nat → Rot) (i : Nat) : up (pulR i f rt) i (folS f (rt i)).2 = pulR (i + 1) f rt := by
  funext j
  unfold up pulR
  by_cases h : j = i
  · subst h; rw [if_pos rfl, if_pos (by omega)]
  · rw [if_neg h]
    by_cases h2 : j < i
    · rw [if_pos h2, if_pos (by omega)]
    · rw [if_neg h2, if_neg (by omega)]
theorem pulR_at (f : Int32) (rt : Nat → Rot) (i : Nat) : pulR i f rt i = rt i := if_neg (Nat.lt_irrefl i)
theorem nI_lit0 : (0 : Int32) = nI 0 := rfl
theorem pullRotors_loop {R T : Nat} {f : Int32} {rt : Nat → Rot} (hR : R ≤ 4) : ∀ (fu i : Nat), i ≤ R → R - i < fu → ∀ mv, mv = sumI (fun j => (folS f (rt j)).1) i →
    F_X0_pullRotors_4 fu f (nI T) (nI R) (pulR i f rt) mv (nI i) = some (pulM R f rt, nI (T + 1), pulR R f rt) := by
  intro fu
  induction fu with
  | zero => intro i h1 h2; omega
  | succ fu ih =>
    intro i h1 h2 mv hmv
    unfold F_X0_pullRotors_4
    show (if nI R ≤ nI i then _ else _) = _
    by_cases h : R ≤ i
    · have e : i = R := by omega
      subst e
      rw [if_pos (nI_le (Nat.le_refl _) (by omega)), hmv, nI_1]
      rfl
    · rw [if_neg (nI_ge (by omega) (by omega)), chk_pos (inb_nI (by omega) (by omega)), cl_nI (by omega), pulR_at]
      rw [show F_X2_follow (rt i).1 (rt i).2.1 (rt i).2.2.1 (rt i).2.2.2 f = _ from follow_eq (rt i).1 (rt i).2.1 (rt i).2.2.1 (rt i).2.2.2 f]
      show F_X0_pullRotors_4 fu f (nI T) (nI R) (up (pulR i f rt) i ((rt i).1, (rt i).2.1, (folS f (rt i)).2.2.2.1, (folS f (rt i)).2.2.2.2)) (mv + (folS f (rt i)).1) (nI i + 1) = _
      have e : ((rt i).1, (rt i).2.1, (folS f (rt i)).2.2.2.1, (folS f (rt i)).2.2.2.2) = (folS f (rt i)).2 := by
        have h1 := folS_sort f (rt i)
        have h2 := folS_grip f (rt i)
        rw [← h1, ← h2]
      rw [e, up_pul R, nI_1]
      exact ih (i + 1) (by omega) (by omega) _ (by rw [hmv]; rfl)
theorem pullRotors_eq {R T : Nat} {f : Int32} {rt : Nat → Rot} (hR : R ≤ 4) : F_X0_pullRotors f (nI T) (nI R) rt = some (pulM R f rt, nI (T + 1), pulR R f rt) := by
  have h0 : pulR 0 f rt = rt := by funext j; exact if_neg (Nat.not_lt_zero j)
  have h := pullRotors_loop (T := T) (f := f) (rt := rt) hR FU 0 (Nat.zero_le _) (by unfold FU; omega) 0 rfl
  rw [h0] at h
  exact h
theorem go_loop {P S R T n : Nat} {sg : Nat → Int32} {f : Int32} {rt : Nat → Rot} (hP : 1 ≤ P) (hP2 : P ≤ 9) (hS : S ≤ 16) (hR : R ≤ 4) (hT : T + n < 20000) (hn : n ≤ 1000) : ∀ (fu i : Nat), i ≤ n → n - i < fu →
    F_X0_go_4 fu (goS P S R sg i (f, T, rt)).2.1 (nI (T + i)) (nI P) (nI S) (nI R) sg (goS P S R sg i (f, T, rt)).2.2.2 (nI n) (goS P S R sg i (f, T, rt)).1 (nI i) = some ((goS P S R sg n (f, T, rt)).1, (goS P S R sg n (f, T, rt)).2.1, nI (T + n), (goS P S R sg n (f, T, rt)).2.2.2) := by
  intro fu
  induction fu with
  | zero => intro i h1 h2; omega
  | succ fu ih =>
    intro i h1 h2
    unfold F_X0_go_4
    show (if nI n ≤ nI i then _ else _) = _
    by_cases h : n ≤ i
    · have e : i = n := by omega
      subst e
      rw [if_pos (nI_le (Nat.le_refl _) (by omega))]
    · rw [if_neg (nI_ge (by omega) (by omega)), leadField_eq hP hP2 hS (by omega)]
      show (F_X0_pullRotors (ledS P S sg (goS P S R sg i (f, T, rt)).2.1 (T + i)) (nI (T + i)) (nI R) (goS P S R sg i (f, T, rt)).2.2.2).bind _ = _
      rw [pullRotors_eq hR]
      have hTi : (goS P S R sg i (f, T, rt)).2.2.1 = T + i := goS_T P S R sg (f, T, rt) i
      have hk := ih (i + 1) (by omega) (by omega)
      rw [show (goS P S R sg (i + 1) (f, T, rt)) = ((goS P S R sg i (f, T, rt)).1 + (tkS P S R sg (goS P S R sg i (f, T, rt)).2).1, (tkS P S R sg (goS P S R sg i (f, T, rt)).2).2) from rfl] at hk
      unfold tkS at hk
      rw [hTi] at hk
      show F_X0_go_4 fu _ (nI (T + i + 1)) (nI P) (nI S) (nI R) sg _ (nI n) _ (nI i + 1) = _
      rw [nI_1]
      exact hk
theorem go_eq {P S R T n : Nat} {sg : Nat → Int32} {f : Int32} {rt : Nat → Rot} (hP : 1 ≤ P) (hP2 : P ≤ 9) (hS : S ≤ 16) (hR : R ≤ 4) (hT : T + n < 20000) (hn : n ≤ 1000) :
    F_X0_go f (nI T) (nI P) (nI S) (nI R) sg rt (nI n) = some ((goS P S R sg n (f, T, rt)).1, (goS P S R sg n (f, T, rt)).2.1, nI (T + n), (goS P S R sg n (f, T, rt)).2.2.2) :=
  go_loop hP hP2 hS hR hT hn FU 0 (Nat.zero_le _) (by unfold FU; omega)
