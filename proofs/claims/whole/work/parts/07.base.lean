/-! the uniform words: every contract speaks of its own code word and TB -/
def WS (y : MethodName) (b : ByteArray) (n : Nat) (r : Option FieldType) : List Cond := .code y b n r :: TB
theorem gdT {y : MethodName} {b : ByteArray} {n : Nat} {r : Option FieldType} (h : Cond.code y b n r ∈ TB) : GoodIn TB (WS y b n r) := by
  intro w hw
  rcases List.mem_cons.mp hw with h1 | h1
  · subst h1; exact ⟨h, good_of_word (TBg _ h)⟩
  · exact ⟨h1, good_of_word (TBg _ h1)⟩
theorem gdV {own C : String} {idx : Nat} {y : MethodName} {b : ByteArray} {n : Nat} {r : Option FieldType} (k1 : Cond.methodLink own idx y ∈ TB) (k2 : Cond.instanceMethod y ∈ TB) (k3 : Cond.selects C y y ∈ TB) (k4 : Cond.initialized C ∈ TB) (k5 : Cond.code y b n r ∈ TB) : GoodIn TB (wsV own idx C y (WS y b n r)) := by
  have g : ∀ w, w ∈ TB → w ∈ TB ∧ ((w.onTables && w.keeps) = true ∨ ∃ ty, w = .arrayClass ty) := fun w h => ⟨h, good_of_word (TBg _ h)⟩
  intro w hw
  rcases List.mem_append.mp hw with h | h
  · simp only [List.mem_cons, List.not_mem_nil, or_false] at h
    rcases h with h | h | h | h <;> subst h
    · exact g _ k1
    · exact g _ k2
    · exact g _ k3
    · exact g _ k4
  · exact gdT k5 w h
theorem gdS {own : String} {idx : Nat} {y : MethodName} {b : ByteArray} {n : Nat} {r : Option FieldType} (k1 : Cond.methodLink own idx y ∈ TB) (k2 : Cond.static y ∈ TB) (k4 : Cond.initialized own ∈ TB) (k5 : Cond.code y b n r ∈ TB) : GoodIn TB (wsS own idx y (WS y b n r)) := by
  have g : ∀ w, w ∈ TB → w ∈ TB ∧ ((w.onTables && w.keeps) = true ∨ ∃ ty, w = .arrayClass ty) := fun w h => ⟨h, good_of_word (TBg _ h)⟩
  intro w hw
  rcases List.mem_append.mp hw with h | h
  · simp only [List.mem_cons, List.not_mem_nil, or_false] at h
    rcases h with h | h | h <;> subst h
    · exact g _ k1
    · exact g _ k2
    · exact g _ k4
  · exact gdT k5 w h
abbrev CX (p : Program) (m : MethodId) (c : Code) (cc : ByteArray) (nL : Nat) (s : State) (args : Array Value) (own : String) : Prop := CallFix p m c cc nL s args TB own
/-! what is known of the classes: T is the list of array classes -/
def KK (D : va_G) (T : List (ClassId × FieldType)) (U : State) : Prop := va_K D vwCl T U ∧ va_AO RX1 U ∧ va_AO RX2 U ∧ va_AO RX3 U
theorem KK.moved {D : va_G} {T : List (ClassId × FieldType)} {u U : State} (hvm : u.vm.Alike U.vm) (h : KK D T u) : KK D T U := ⟨h.1.moved hvm, h.2.1.moved hvm, h.2.2.1.moved hvm, h.2.2.2.moved hvm⟩
def PW (D : va_G) (T : List (ClassId × FieldType)) (ws : va_W) (sz : Nat) (av : List Value) : Array Value → State → Prop :=
  va_Pc av (fun U => U.heap.size = sz ∧ va_P D vwCl ws U.heap ∧ KK D T U ∧ va_D (fun _ => True) ws)
def BW (D : va_G) (A : Nat → Prop) (ws : va_W) : Unit → State → Prop := fun _ t => va_P D vwCl ws t.heap ∧ va_D A ws
def MI (l : Launch) (y : MethodName) (b : ByteArray) (n : Nat) (rt : FieldType) (rm : Room) (D : va_G) (T : List (ClassId × FieldType)) (av : List Value) (ws ws' : va_W) (r : Int32) : Prop :=
  ∀ sz, Met l y (WS y b n (some rt)) rm (PW D T ws sz av) (va_Qi (fun x (_ : Unit) => x = r) (BW D (va_A ws sz) ws') (va_A ws sz)) 0 0 (va_A ws sz)
def ML (l : Launch) (y : MethodName) (b : ByteArray) (n : Nat) (rm : Room) (D : va_G) (T : List (ClassId × FieldType)) (av : List Value) (ws ws' : va_W) (r : Int64) : Prop :=
  ∀ sz, Met l y (WS y b n (some .long)) rm (PW D T ws sz av) (va_Ql (fun x (_ : Unit) => x = r) (BW D (va_A ws sz) ws') (va_A ws sz)) 0 0 (va_A ws sz)
def MV (l : Launch) (y : MethodName) (b : ByteArray) (n : Nat) (rm : Room) (D : va_G) (T : List (ClassId × FieldType)) (av : List Value) (ws ws' : va_W) : Prop :=
  ∀ sz, Met l y (WS y b n none) rm (PW D T ws sz av) (va_Qv (fun (_ : Unit) => True) (BW D (va_A ws sz) ws') (va_A ws sz)) 0 0 (va_A ws sz)
/-! places of a list set anew, all at once -/
def pk (i : Nat) : List Nat → va_W → Option (Nat × va_E)
  | p :: ps, x :: xs => match Nat.beq p i with
    | true => some x
    | false => pk i ps xs
  | _, _ => none
def mpL (ps : List Nat) (wc : va_W) : Nat → va_W → va_W
  | _, [] => []
  | i, y :: ys => (match pk i ps wc with
    | some x => x
    | none => y) :: mpL ps wc (i + 1) ys
def setL (ws : va_W) (ps : List Nat) (wc : va_W) : va_W := mpL ps wc 0 ws
theorem pk_some {i : Nat} {x : Nat × va_E} : ∀ (ps : List Nat) (wc : va_W), pk i ps wc = some x → ∃ j : Nat, ps[j]? = some i ∧ wc[j]? = some x
  | [], wc, h => by cases wc <;> cases h
  | p :: ps, [], h => by cases h
  | p :: ps, y :: ys, h => by
    unfold pk at h
    cases hb : Nat.beq p i with
    | true =>
      rw [hb] at h
      have e : p = i := Nat.eq_of_beq_eq_true hb
      subst e
      exact ⟨0, rfl, h⟩
    | false =>
      rw [hb] at h
      obtain ⟨j, h1, h2⟩ := pk_some ps ys h
      exact ⟨j + 1, h1, h2⟩
theorem pk_none {i : Nat} : ∀ (ps : List Nat) (wc : va_W), pk i ps wc = none → ∀ (j : Nat) (x : Nat × va_E), ps[j]? = some i → wc[j]? = some x → False
  | [], wc, h, j, x, hj, hx => by simp at hj
  | p :: ps, [], h, j, x, hj, hx => by simp at hx
  | p :: ps, y :: ys, h, j, x, hj, hx => by
    unfold pk at h
    cases hb : Nat.beq p i with
    | true => rw [hb] at h; cases h
    | false =>
      rw [hb] at h
      cases j with
      | zero =>
        have e : p = i := Option.some.inj hj
        subst e
        rw [Nat.beq_refl] at hb
        cases hb
      | succ j => exact pk_none ps ys h j x hj hx
theorem mpL_get (ps : List Nat) (wc : va_W) : ∀ (ws : va_W) (i k : Nat), (mpL ps wc i ws)[k]? = (ws[k]?).map (fun y => match pk (i + k) ps wc with
    | some x => x
    | none => y)
  | [], i, k => by simp [mpL]
  | y :: ys, i, 0 => rfl
  | y :: ys, i, k + 1 => by
    show (mpL ps wc (i + 1) ys)[k]? = (ys[k]?).map _
    rw [mpL_get ps wc ys (i + 1) k, show i + 1 + k = i + (k + 1) by omega]
theorem setL_get (ps : List Nat) (ws wc : va_W) (k : Nat) (q : Nat × va_E) (h : (setL ws ps wc)[k]? = some q) : (∃ j : Nat, ps[j]? = some k ∧ wc[j]? = some q) ∨ (ws[k]? = some q ∧ ∀ (j : Nat) (x : Nat × va_E), ps[j]? = some k → wc[j]? = some x → False) := by
  unfold setL at h
  rw [mpL_get, Nat.zero_add] at h
  cases hw : ws[k]? with
  | none => rw [hw] at h; cases h
  | some y =>
    rw [hw] at h
    cases hp : pk k ps wc with
    | some x =>
      simp only [Option.map_some, hp] at h
      cases h
      exact Or.inl (pk_some ps wc hp)
    | none =>
      simp only [Option.map_some, hp] at h
      cases h
      exact Or.inr ⟨rfl, pk_none ps wc hp⟩
theorem setL_fst (ps : List Nat) (ws wc : va_W) (h : ∀ (j i : Nat) (x : Nat × va_E), ps[j]? = some i → wc[j]? = some x → ∃ y, ws[i]? = some y ∧ y.1 = x.1) : (setL ws ps wc).map Prod.fst = ws.map Prod.fst := by
  apply List.ext_getElem?
  intro k
  unfold setL
  rw [List.getElem?_map, List.getElem?_map, mpL_get, Nat.zero_add]
  cases hw : ws[k]? with
  | none => rfl
  | some y =>
    cases hp : pk k ps wc with
    | none => simp only [Option.map_some, hp]
    | some x =>
      simp only [Option.map_some, hp]
      obtain ⟨j, h1, h2⟩ := pk_some ps wc hp
      obtain ⟨z, hz, e⟩ := h j k x h1 h2
      rw [hw] at hz
      cases hz
      rw [e]
theorem setL0 {ws : va_W} : setL ws [] [] = ws := by
  apply List.ext_getElem?
  intro k
  unfold setL
  rw [mpL_get]
  cases ws[k]? with
  | none => rfl
  | some z => rfl
theorem setL1 {ws : va_W} {p : Nat} {x : Nat × va_E} : setL ws [p] [x] = ws.set p x := by
  apply List.ext_getElem?
  intro k
  unfold setL
  rw [mpL_get, Nat.zero_add, List.getElem?_set]
  by_cases hk : p = k
  · subst hk
    have e : pk p [p] [x] = some x := by unfold pk; rw [Nat.beq_refl]
    rw [if_pos rfl, e]
    by_cases hl : p < ws.length
    · rw [if_pos hl, List.getElem?_eq_getElem hl]; rfl
    · rw [if_neg hl, List.getElem?_eq_none (by omega)]; rfl
  · have hb : Nat.beq p k = false := by
      cases hb : Nat.beq p k with
      | true => exact absurd (Nat.eq_of_beq_eq_true hb) hk
      | false => rfl
    have e : pk k [p] [x] = none := by unfold pk; rw [hb]; rfl
    rw [if_neg hk, e]
    simp
theorem setL2 {ws : va_W} {p q : Nat} {x y : Nat × va_E} (hpq : p ≠ q) : setL ws [p, q] [x, y] = (ws.set p x).set q y := by
  rw [← setL1 (p := q), ← setL1 (p := p)]
  apply List.ext_getElem?
  intro k
  unfold setL
  rw [mpL_get, mpL_get, mpL_get, Nat.zero_add]
  cases ws[k]? with
  | none => rfl
  | some z =>
    have hb : ∀ a b : Nat, a ≠ b → Nat.beq a b = false := fun a b h => by
      cases hb : Nat.beq a b with
      | true => exact absurd (Nat.eq_of_beq_eq_true hb) h
      | false => rfl
    by_cases h1 : p = k
    · subst h1
      have e1 : pk p [p, q] [x, y] = some x := by unfold pk; rw [Nat.beq_refl]
      have e2 : pk p [p] [x] = some x := by unfold pk; rw [Nat.beq_refl]
      have e3 : pk p [q] [y] = none := by unfold pk; rw [hb q p (Ne.symm hpq)]; rfl
      simp only [Option.map_some, e1, e2, e3]
    · have e1 : pk k [p, q] [x, y] = pk k [q] [y] := by conv => lhs; unfold pk; rw [hb p k h1]
      have e2 : pk k [p] [x] = none := by unfold pk; rw [hb p k h1]; rfl
      simp only [Option.map_some, e1, e2]
theorem va_D.fst {A : Nat → Prop} {ws ws' : va_W} (h : va_D A ws) (e : ws'.map Prod.fst = ws.map Prod.fst) : va_D A ws' := by
  have key : ∀ (k : Nat) (q : Nat × va_E), ws'[k]? = some q → ∃ q', ws[k]? = some q' ∧ q'.1 = q.1 := by
    intro k q hk
    have h1 : (ws'.map Prod.fst)[k]? = some q.1 := by rw [List.getElem?_map, hk]; rfl
    rw [e, List.getElem?_map] at h1
    cases h2 : ws[k]? with
    | none => rw [h2] at h1; cases h1
    | some q' => rw [h2] at h1; exact ⟨q', rfl, Option.some.inj h1⟩
  refine ⟨fun i j x y hi hj hxy => ?_, fun k q hk => ?_⟩
  · obtain ⟨x', hx', ex⟩ := key i x hi
    obtain ⟨y', hy', ey⟩ := key j y hj
    exact h.1 i j x' y' hx' hy' (by rw [ex, ey]; exact hxy)
  · obtain ⟨q', hq', eq⟩ := key k q hk
    rw [← eq]
    exact h.2 k q' hq'
theorem joinS {A0 : Nat → Prop} {D : va_G} {cl : List vw_C} {ws wc wc' : va_W} {H H1 : Heap} (hP : va_P D cl ws H) (hD : va_D A0 ws) (ps : List Nat) (hC : ps.map (fun i => ws[i]?) = wc.map some) (hf : wc'.map Prod.fst = wc.map Prod.fst)
    (hk : ∀ q : Nat, q < H.size → ¬ va_A wc H.size q → H1[q]? = H[q]?) (hP1 : va_P D cl wc' H1) : va_P D cl (setL ws ps wc') H1 ∧ va_D A0 (setL ws ps wc') := by
  have at' : ∀ (j i : Nat), ps[j]? = some i → ∃ x, wc[j]? = some x ∧ ws[i]? = some x := by
    intro j i hj
    have h1 : (ps.map (fun i => ws[i]?))[j]? = some (ws[i]?) := by rw [List.getElem?_map, hj]; rfl
    rw [hC, List.getElem?_map] at h1
    cases h2 : wc[j]? with
    | none => rw [h2] at h1; cases h1
    | some x => rw [h2] at h1; exact ⟨x, rfl, (Option.some.inj h1).symm⟩
  have fst' : ∀ (j : Nat) (x x' : Nat × va_E), wc[j]? = some x → wc'[j]? = some x' → x'.1 = x.1 := by
    intro j x x' h1 h2
    have e1 : (wc'.map Prod.fst)[j]? = some x'.1 := by rw [List.getElem?_map, h2]; rfl
    rw [hf, List.getElem?_map, h1] at e1
    exact (Option.some.inj e1).symm
  refine ⟨fun k q hq => ?_, hD.fst (setL_fst ps ws wc' ?_)⟩
  · rcases setL_get ps ws wc' k q hq with ⟨j, h1, h2⟩ | ⟨h1, h2⟩
    · exact hP1 j q h2
    · refine (hP k q h1).kept (hk q.1 (hP k q h1).lt ?_)
      intro hz
      rcases hz with ⟨j, e, hj⟩ | hz
      · have hjl : j < ps.length := by
          have e1 : (wc.map some)[j]? = some (some (q.1, e)) := by rw [List.getElem?_map, hj]; rfl
          rw [← hC, List.getElem?_map] at e1
          cases h3 : ps[j]? with
          | none => rw [h3] at e1; cases e1
          | some i => exact (List.getElem?_eq_some_iff.mp h3).1
        have hpj : ps[j]? = some ps[j] := List.getElem?_eq_getElem hjl
        obtain ⟨x, hx1, hx2⟩ := at' j _ hpj
        rw [hj] at hx1
        cases hx1
        have hkj : ps[j] = k := hD.1 _ _ _ _ hx2 h1 rfl
        have hl' : j < wc'.length := by
          have e2 : wc'.length = wc.length := by
            have := congrArg List.length hf
            simpa using this
          rw [e2]
          exact (List.getElem?_eq_some_iff.mp hj).1
        exact h2 j _ (by rw [hpj, hkj]) (List.getElem?_eq_getElem hl')
      · exact Nat.lt_irrefl _ (Nat.lt_of_lt_of_le (hP k q h1).lt hz)
  · intro j i x hj hx
    obtain ⟨y, hy1, hy2⟩ := at' j i hj
    exact ⟨y, hy2, (fst' j y x hy1 hx).symm⟩
theorem va_Pe {D : va_G} {cl : List vw_C} {ws ws' : va_W} {H : Heap} (e : ws = ws') (h : va_P D cl ws H) : va_P D cl ws' H := e ▸ h
theorem va_De {A : Nat → Prop} {ws ws' : va_W} (e : ws = ws') (h : va_D A ws) : va_D A ws' := e ▸ h
theorem joinN {A0 : Nat → Prop} {D : va_G} {cl : List vw_C} {ws : va_W} {H H1 : Heap} (hP : va_P D cl ws H) (hD : va_D A0 ws)
    (hk : ∀ q : Nat, q < H.size → ¬ va_A [] H.size q → H1[q]? = H[q]?) (hP1 : va_P D cl [] H1) : va_P D cl ws H1 ∧ va_D A0 ws := by
  have h := joinS (wc := []) (wc' := []) hP hD [] rfl rfl hk hP1
  rw [setL0] at h
  exact h
