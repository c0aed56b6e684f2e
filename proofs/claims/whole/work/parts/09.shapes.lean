/-! shapes: members of families, places set anew, small words -/
abbrev TS (cI cB cZ cR cM cS : ClassId) : List (ClassId × FieldType) := [(cI, .int), (cB, .byte), (cZ, .boolean), (cR, .object RX2), (cM, .object RX1), (cS, .object RX3)]
def FU : Nat := 2000
abbrev iabs (x : Int32) : Int32 := if 0 ≤ x then x else 0 - x
abbrev imax (x y : Int32) : Int32 := if x < y then y else x
abbrev lmax (x y : Int64) : Int64 := if y < x then x else y
abbrev irem (x y : Int32) : Int32 := x - x / y * y
abbrev lrem (x y : Int64) : Int64 := x - x / y * y
abbrev ishl (x y : Int32) : Int32 := x <<< (y &&& 31)
abbrev ishr (x y : Int32) : Int32 := x >>> (y &&& 31)
abbrev iushr (x y : Int32) : Int32 := (x.toUInt32 >>> (y.toUInt32 &&& Int32.toUInt32 31)).toInt32
abbrev rfn (cA : ClassId) (n : Nat) (e : Nat → Nat) : va_E := .inl (cA, n, .inr (.inr (.inr (.inr (fun j => some (e j))))))
abbrev rcell (a : Nat → Nat) (ρ : Nat → Rot) (j : Nat) : Nat × va_E := (a j, .inr (2, [.int (ρ j).1, .int (ρ j).2.1, .int (ρ j).2.2.1, .int (ρ j).2.2.2]))
abbrev scell (a c : Nat → Nat) (σ : Nat → Sht) (j : Nat) : Nat × va_E := (a j, .inr (3, [.int (σ j).1, .int (σ j).2.1, .ref (c j)]))
abbrev sarr (cI : ClassId) (c : Nat → Nat) (σ : Nat → Sht) (j : Nat) : Nat × va_E := (c j, .inl (cI, 40, .inl (σ j).2.2))
theorem lt4 {P : Nat → Prop} {k : Nat} (hk : k < 4) (h0 : P 0) (h1 : P 1) (h2 : P 2) (h3 : P 3) : P k := by
  match k, hk with
  | 0, _ => exact h0
  | 1, _ => exact h1
  | 2, _ => exact h2
  | 3, _ => exact h3
theorem famget {ws : va_W} (b : Nat) (f : Nat → Nat × va_E) (h0 : ws[b]? = some (f 0)) (h1 : ws[b + 1]? = some (f 1)) (h2 : ws[b + 2]? = some (f 2)) (h3 : ws[b + 3]? = some (f 3)) {k : Nat} (hk : k < 4) : ws[b + k]? = some (f k) :=
  lt4 (P := fun k => ws[b + k]? = some (f k)) hk h0 h1 h2 h3
theorem setsame {ws : va_W} {q : Nat} {y : Nat × va_E} (h : ws[q]? = some y) : ws.set q y = ws := by
  apply List.ext_getElem?
  intro k
  by_cases hk : k = q
  · subst hk
    rw [List.getElem?_set_self (List.getElem?_eq_some_iff.mp h).1, h]
  · rw [List.getElem?_set_ne (Ne.symm hk)]
theorem set2same {ws : va_W} {p q : Nat} {x y : Nat × va_E} (hpq : p ≠ q) (h : ws[q]? = some y) : (ws.set p x).set q y = ws.set p x :=
  setsame (by rw [List.getElem?_set_ne hpq]; exact h)
theorem fam4set {ws : va_W} (b : Nat) {f g : Nat → Nat × va_E} (h0 : ws[b]? = some (f 0)) (h1 : ws[b + 1]? = some (f 1)) (h2 : ws[b + 2]? = some (f 2)) (h3 : ws[b + 3]? = some (f 3)) {k : Nat} (hk : k < 4) (hg : ∀ j, j ≠ k → g j = f j) :
    ws.set (b + k) (g k) = (((ws.set b (g 0)).set (b + 1) (g 1)).set (b + 2) (g 2)).set (b + 3) (g 3) := by
  have hw : ∀ j, j < 4 → ws[b + j]? = some (f j) := fun j hj => famget b f h0 h1 h2 h3 hj
  have hl : ∀ j, j < 4 → b + j < ws.length := fun j hj => (List.getElem?_eq_some_iff.mp (hw j hj)).1
  apply List.ext_getElem?
  intro i
  have e0 : b = b + 0 := rfl
  by_cases hi : ∃ j, j < 4 ∧ i = b + j
  · obtain ⟨j, hj, rfl⟩ := hi
    have hR : ((((ws.set b (g 0)).set (b + 1) (g 1)).set (b + 2) (g 2)).set (b + 3) (g 3))[b + j]? = some (g j) := by
      have l0 := hl 0 (by omega)
      have l1 := hl 1 (by omega)
      have l2 := hl 2 (by omega)
      have l3 := hl 3 (by omega)
      match j, hj with
      | 0, _ => rw [List.getElem?_set_ne (by omega), List.getElem?_set_ne (by omega), List.getElem?_set_ne (by omega)]; exact List.getElem?_set_self l0
      | 1, _ => rw [List.getElem?_set_ne (by omega), List.getElem?_set_ne (by omega)]; exact List.getElem?_set_self (by simpa using l1)
      | 2, _ => rw [List.getElem?_set_ne (by omega)]; exact List.getElem?_set_self (by simpa using l2)
      | 3, _ => exact List.getElem?_set_self (by simpa using l3)
    rw [hR]
    by_cases hjk : j = k
    · subst hjk
      exact List.getElem?_set_self (hl j hj)
    · rw [List.getElem?_set_ne (by omega), hw j hj, hg j hjk]
  · have hn : ∀ j, j < 4 → b + j ≠ i := fun j hj e => hi ⟨j, hj, e.symm⟩
    have n0 : b ≠ i := hn 0 (by omega)
    have n1 := hn 1 (by omega)
    have n2 := hn 2 (by omega)
    have n3 := hn 3 (by omega)
    rw [List.getElem?_set_ne n3, List.getElem?_set_ne n2, List.getElem?_set_ne n1, List.getElem?_set_ne n0, List.getElem?_set_ne (hn k hk)]
theorem up_self {α : Type} (f : Nat → α) (k : Nat) (v : α) : up f k v k = v := if_pos rfl
theorem up_ne {α : Type} (f : Nat → α) {k j : Nat} (v : α) (h : j ≠ k) : up f k v j = f j := if_neg h
theorem famsetR {ws : va_W} {a : Nat → Nat} {ρ : Nat → Rot} (b : Nat) (h0 : ws[b]? = some (rcell a ρ 0)) (h1 : ws[b + 1]? = some (rcell a ρ 1)) (h2 : ws[b + 2]? = some (rcell a ρ 2)) (h3 : ws[b + 3]? = some (rcell a ρ 3)) {k : Nat} (hk : k < 4) (x1 x2 x3 x4 : Int32) :
    ws.set (b + k) (a k, .inr (2, [.int x1, .int x2, .int x3, .int x4])) = (((ws.set b (rcell a (up ρ k (x1, x2, x3, x4)) 0)).set (b + 1) (rcell a (up ρ k (x1, x2, x3, x4)) 1)).set (b + 2) (rcell a (up ρ k (x1, x2, x3, x4)) 2)).set (b + 3) (rcell a (up ρ k (x1, x2, x3, x4)) 3) := by
  rw [← fam4set b (f := rcell a ρ) (g := rcell a (up ρ k (x1, x2, x3, x4))) h0 h1 h2 h3 hk (fun j hj => by simp only [rcell, up_ne _ _ hj])]
  simp only [rcell, up_self]
theorem famsetS {ws : va_W} {cI : ClassId} {a c : Nat → Nat} {σ : Nat → Sht} (b d : Nat) (h0 : ws[b]? = some (scell a c σ 0)) (h1 : ws[b + 1]? = some (scell a c σ 1)) (h2 : ws[b + 2]? = some (scell a c σ 2)) (h3 : ws[b + 3]? = some (scell a c σ 3)) (g0 : ws[d]? = some (sarr cI c σ 0)) (g1 : ws[d + 1]? = some (sarr cI c σ 1)) (g2 : ws[d + 2]? = some (sarr cI c σ 2)) (g3 : ws[d + 3]? = some (sarr cI c σ 3)) (hbd : b + 4 ≤ d) {k : Nat} (hk : k < 4) (x1 x2 : Int32) (x3 : Nat → Int32) :
    (ws.set (b + k) (a k, .inr (3, [.int x1, .int x2, .ref (c k)]))).set (d + k) (c k, .inl (cI, 40, .inl x3)) = (((((((ws.set b (scell a c (up σ k (x1, x2, x3)) 0)).set (b + 1) (scell a c (up σ k (x1, x2, x3)) 1)).set (b + 2) (scell a c (up σ k (x1, x2, x3)) 2)).set (b + 3) (scell a c (up σ k (x1, x2, x3)) 3)).set d (sarr cI c (up σ k (x1, x2, x3)) 0)).set (d + 1) (sarr cI c (up σ k (x1, x2, x3)) 1)).set (d + 2) (sarr cI c (up σ k (x1, x2, x3)) 2)).set (d + 3) (sarr cI c (up σ k (x1, x2, x3)) 3) := by
  have e1 : ws.set (b + k) (a k, .inr (3, [.int x1, .int x2, .ref (c k)])) = (((ws.set b (scell a c (up σ k (x1, x2, x3)) 0)).set (b + 1) (scell a c (up σ k (x1, x2, x3)) 1)).set (b + 2) (scell a c (up σ k (x1, x2, x3)) 2)).set (b + 3) (scell a c (up σ k (x1, x2, x3)) 3) := by
    rw [← fam4set b (f := scell a c σ) (g := scell a c (up σ k (x1, x2, x3))) h0 h1 h2 h3 hk (fun j hj => by simp only [scell, up_ne _ _ hj])]
    simp only [scell, up_self]
  rw [← e1]
  have q : ∀ j, j < 4 → (ws.set (b + k) (a k, .inr (3, [.int x1, .int x2, .ref (c k)])))[d + j]? = ws[d + j]? := fun j hj => List.getElem?_set_ne (by omega)
  rw [← fam4set d (f := sarr cI c σ) (g := sarr cI c (up σ k (x1, x2, x3))) ((q 0 (by omega)).trans g0) ((q 1 (by omega)).trans g1) ((q 2 (by omega)).trans g2) ((q 3 (by omega)).trans g3) hk (fun j hj => by simp only [sarr, up_ne _ _ hj])]
  simp only [sarr, up_self]
theorem l2 {α : Type} {x y : Option α} {a b : α} (h1 : x = some a) (h2 : y = some b) : [x, y] = [some a, some b] := by rw [h1, h2]
theorem nd2 {p q : Nat} (h : p ≠ q) : va_nd [p, q] = true := by simp [va_nd, h]
section
variable {p : Program} {l : Launch} {e : Env} {R : Room} {s : State} {m : MethodId} {args : Array Value} {below : List Frame} {meth : Method} {c : Code} {H : Heap} {locs : List Loc} {Q : State → Prop} {D : va_G} {T : List (ClassId × FieldType)} {ws ws' wc wc' : va_W} {A : Nat → Prop} {cc b : ByteArray} {nL n pc cells slots idx : Nat} {ls : Array Slot} {rest st As : List Value} {own C0 : String} {y : MethodName} {rm : Room} {rt : FieldType}
theorem gdX {own : String} {idx : Nat} {y : MethodName} {b : ByteArray} {n : Nat} {r : Option FieldType} (k1 : Cond.methodLink own idx y ∈ TB) (k2 : Cond.static y ∈ TB) (k4 : Cond.initialized y.cls ∈ TB) (k5 : Cond.code y b n r ∈ TB) : GoodIn TB (va_wsS own idx y (WS y b n r)) := by
  have g : ∀ w, w ∈ TB → w ∈ TB ∧ ((w.onTables && w.keeps) = true ∨ ∃ ty, w = .arrayClass ty) := fun w h => ⟨h, good_of_word (TBg _ h)⟩
  intro w hw
  rcases List.mem_append.mp hw with h | h
  · simp only [List.mem_cons, List.not_mem_nil, or_false] at h
    rcases h with h | h | h <;> subst h
    · exact g _ k1
    · exact g _ k2
    · exact g _ k4
  · exact gdT k5 w h
theorem callSX {r : Int32} (C : CX p m c cc nL s args own) (hK : KK D T s) (hA : ∀ q, s.heap.size ≤ q → A q) (hP : va_P D vwCl ws H) (hD : va_D A ws) (hS : va_S A s.heap H locs)
    (hM : MI l y b n rt rm D T As [] [] r) (cv : CS y b n (some rt) rm C0 As.length) (k1 : Cond.methodLink own idx y ∈ TB)
    (hR : rm.frames + 1 ≤ R.frames ∧ 8 + (n + 11) + rm.locals ≤ R.locals) (hcs : cells ≤ R.cells ∧ slots ≤ R.slots) (hls : ls.size = nL) (hst : st = As.reverse ++ rest) (hW : (rest.map fun v => v.category).sum ≤ 8) (hdg : decode cc pc = .ok (.invokestatic idx, 3))
    (kk : ∀ (H1 : Heap) (locs1 : List Loc), va_P D vwCl ws H1 → va_D A ws → va_S A s.heap H1 locs1 → W p l e R s m args below meth c H1 locs1 cells slots Q (F0 m (pc + 3) ls (.int r :: rest))) : W p l e R s m args below meth c H locs cells slots Q (F0 m pc ls st) := by
  have hPc := hP.sub (ws' := []) [] rfl
  have hDc := hD.sub (ws' := []) [] (by decide) rfl
  have hFc := va_free (wc := []) hD hS hA [] rfl
  obtain ⟨c2, c4, c5, hd, hrc, hrs⟩ := cv
  refine va_calli (va_runS (As := As) (rest := rest) C (hM H.size) (va_cwS As.length C.2.2.2.2 (gdX k1 c2 (by rw [hd.1]; exact c4) c5) rfl hrc hrs hd.2 hR) ⟨KK.blind, pre_ok hK hPc hDc rfl⟩ rfl rfl hls hst (lv_room hW) hdg ⟨hcs.1, hcs.2⟩) hS (fun q _ h => hFc q h) hFc (fun r' u t H1 locs ht hvm hw hB hz1 hk1 hS => ?_)
  obtain ⟨hP1, hD1⟩ := hB
  rw [ht] at hP1
  obtain ⟨hP2, hD2⟩ := joinN hP hD hk1 hP1
  subst hw
  exact kk H1 locs hP2 hD2 hS
end
