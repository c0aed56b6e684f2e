/-! opening a contract, calls, ends, over the uniform words -/
section
variable {p : Program} {l : Launch} {e : Env} {R : Room} {s : State} {m : MethodId} {args : Array Value} {below : List Frame} {meth : Method} {c : Code} {H : Heap} {locs : List Loc} {Q : State → Prop} {D : va_G} {T : List (ClassId × FieldType)} {ws ws' wc wc' : va_W} {A : Nat → Prop} {cc b : ByteArray} {nL n pc cells slots idx : Nat} {ls : Array Slot} {rest st As : List Value} {own : String} {y : MethodName} {rm : Room} {rt : FieldType}
theorem KK.blind {sz : Nat} {av : List Value} : FrameBlind (PW D T ws sz av) := by
  intro a U g mk q
  obtain ⟨q0, q1, qP, qK, qD⟩ := q
  exact ⟨q0, q1, qP, KK.moved (u := U) (U := U.calling g mk a) (Vm.Alike.refl U.vm) qK, qD⟩
/-- what is known of a method that can be called on an object of class C0 -/
def CV (y : MethodName) (b : ByteArray) (n : Nat) (r : Option FieldType) (rm : Room) (C0 : String) (k : Nat) : Prop :=
  Cond.instanceMethod y ∈ TB ∧ Cond.selects C0 y y ∈ TB ∧ Cond.initialized C0 ∈ TB ∧ Cond.code y b n r ∈ TB ∧ (y.cls = C0 ∧ y.cls ≠ "java/lang/invoke/MethodHandle" ∧ y.cls ≠ "java/lang/invoke/VarHandle" ∧ (parseMethodDescriptor y.desc).map (fun d => d.parameters.length) = some k) ∧ rm.cells = 0 ∧ rm.slots = 0
def CS (y : MethodName) (b : ByteArray) (n : Nat) (r : Option FieldType) (rm : Room) (own : String) (k : Nat) : Prop :=
  Cond.static y ∈ TB ∧ Cond.initialized own ∈ TB ∧ Cond.code y b n r ∈ TB ∧ (y.cls = own ∧ y.cls ≠ "java/lang/invoke/MethodHandle" ∧ y.cls ≠ "java/lang/invoke/VarHandle" ∧ (parseMethodDescriptor y.desc).map (fun d => d.parameters.length) = some k) ∧ rm.cells = 0 ∧ rm.slots = 0
theorem pre_ok {sz : Nat} {av : List Value} (hK : KK D T s) (hPc : va_P D vwCl wc H) (hDc : va_D A wc) (hz : H.size = sz) : ∀ U : State, U.heap = H → s.WarmedH U.vm → PW D T wc sz av av.toArray U :=
  fun U hU hW => ⟨rfl, by rw [hU]; exact hz, by rw [hU]; exact hPc, hK.moved hW.alike, hDc.weaken (fun _ _ _ _ => trivial)⟩
theorem sub_of {ps : List Nat} (hC : ps.map (fun i => ws[i]?) = wc.map some) : ps.filterMap (fun i => ws[i]?) = wc := by
  have h : ∀ (ps : List Nat) (wc : va_W), ps.map (fun i => ws[i]?) = wc.map some → ps.filterMap (fun i => ws[i]?) = wc := by
    intro ps
    induction ps with
    | nil => intro wc h; cases wc with | nil => rfl | cons x xs => cases h
    | cons q qs ih =>
      intro wc h
      cases wc with
      | nil => cases h
      | cons x xs =>
        rw [List.map_cons, List.map_cons] at h
        have h1 := (List.cons.inj h).1
        have h2 := (List.cons.inj h).2
        simp only [List.filterMap_cons, h1]
        rw [ih xs h2]
  exact h ps wc hC
theorem callVI {r : Int32} {a ci : Nat} {q0 : vw_C} {fs : List Value} (C : CX p m c cc nL s args own) (hK : KK D T s) (hA : ∀ q, s.heap.size ≤ q → A q) (hP : va_P D vwCl ws H) (hD : va_D A ws) (hS : va_S A s.heap H locs)
    (ps : List Nat) (hM : MI l y b n rt rm D T (.ref a :: As) wc wc' r) (cv : CV y b n (some rt) rm q0.1 As.length) (k1 : Cond.methodLink own idx y ∈ TB)
    (hC : ps.map (fun i => ws[i]?) = wc.map some) (hn : va_nd ps = true) (hf : wc'.map Prod.fst = wc.map Prod.fst) (h0 : wc[0]? = some (a, .inr (ci, fs))) (hci : vwCl[ci]? = some q0)
    (hR : rm.frames + 1 ≤ R.frames ∧ 8 + (n + 11) + rm.locals ≤ R.locals) (hcs : cells ≤ R.cells ∧ slots ≤ R.slots) (hls : ls.size = nL) (hst : st = As.reverse ++ .ref a :: rest) (hW : (rest.map fun v => v.category).sum ≤ 8) (hdg : decode cc pc = .ok (.invokevirtual idx, 3))
    (kk : ∀ (H1 : Heap) (locs1 : List Loc), va_P D vwCl (setL ws ps wc') H1 → va_D A (setL ws ps wc') → va_S A s.heap H1 locs1 → W p l e R s m args below meth c H1 locs1 cells slots Q (F0 m (pc + 3) ls (.int r :: rest))) : W p l e R s m args below meth c H locs cells slots Q (F0 m pc ls st) := by
  have hPc := hP.sub (ws' := wc) ps (sub_of hC)
  have hDc := hD.sub (ws' := wc) ps hn hC
  have hFc := va_free (wc := wc) hD hS hA ps hC
  obtain ⟨c2, c3, c4, c5, hd, hrc, hrs⟩ := cv
  refine va_calli (va_runV (As := As) (rest := rest) C (hM H.size) (cwV As.length C.2.2.2.2 (gdV k1 c2 c3 c4 c5) rfl hrc hrs hd hR) ⟨KK.blind, va_recv hK.1 hPc hci h0, pre_ok hK hPc hDc rfl⟩ rfl rfl hls hst (lv_room hW) hdg ⟨hcs.1, hcs.2⟩) hS (fun q _ h => hFc q h) hFc (fun r' u t H1 locs ht hvm hw hB hz1 hk1 hS => ?_)
  obtain ⟨hP1, hD1⟩ := hB
  rw [ht] at hP1
  obtain ⟨hP2, hD2⟩ := joinS hP hD ps hC hf hk1 hP1
  subst hw
  exact kk H1 locs hP2 hD2 hS
theorem callVL {r : Int64} {a ci : Nat} {q0 : vw_C} {fs : List Value} (C : CX p m c cc nL s args own) (hK : KK D T s) (hA : ∀ q, s.heap.size ≤ q → A q) (hP : va_P D vwCl ws H) (hD : va_D A ws) (hS : va_S A s.heap H locs)
    (ps : List Nat) (hM : ML l y b n rm D T (.ref a :: As) wc wc' r) (cv : CV y b n (some .long) rm q0.1 As.length) (k1 : Cond.methodLink own idx y ∈ TB)
    (hC : ps.map (fun i => ws[i]?) = wc.map some) (hn : va_nd ps = true) (hf : wc'.map Prod.fst = wc.map Prod.fst) (h0 : wc[0]? = some (a, .inr (ci, fs))) (hci : vwCl[ci]? = some q0)
    (hR : rm.frames + 1 ≤ R.frames ∧ 8 + (n + 11) + rm.locals ≤ R.locals) (hcs : cells ≤ R.cells ∧ slots ≤ R.slots) (hls : ls.size = nL) (hst : st = As.reverse ++ .ref a :: rest) (hW : (rest.map fun v => v.category).sum ≤ 8) (hdg : decode cc pc = .ok (.invokevirtual idx, 3))
    (kk : ∀ (H1 : Heap) (locs1 : List Loc), va_P D vwCl (setL ws ps wc') H1 → va_D A (setL ws ps wc') → va_S A s.heap H1 locs1 → W p l e R s m args below meth c H1 locs1 cells slots Q (F0 m (pc + 3) ls (.long r :: rest))) : W p l e R s m args below meth c H locs cells slots Q (F0 m pc ls st) := by
  have hPc := hP.sub (ws' := wc) ps (sub_of hC)
  have hDc := hD.sub (ws' := wc) ps hn hC
  have hFc := va_free (wc := wc) hD hS hA ps hC
  obtain ⟨c2, c3, c4, c5, hd, hrc, hrs⟩ := cv
  refine va_calll (va_runV (As := As) (rest := rest) C (hM H.size) (cwV As.length C.2.2.2.2 (gdV k1 c2 c3 c4 c5) rfl hrc hrs hd hR) ⟨KK.blind, va_recv hK.1 hPc hci h0, pre_ok hK hPc hDc rfl⟩ rfl rfl hls hst (lv_room hW) hdg ⟨hcs.1, hcs.2⟩) hS (fun q _ h => hFc q h) hFc (fun r' u t H1 locs ht hvm hw hB hz1 hk1 hS => ?_)
  obtain ⟨hP1, hD1⟩ := hB
  rw [ht] at hP1
  obtain ⟨hP2, hD2⟩ := joinS hP hD ps hC hf hk1 hP1
  subst hw
  exact kk H1 locs hP2 hD2 hS
theorem callVV {a ci : Nat} {q0 : vw_C} {fs : List Value} (C : CX p m c cc nL s args own) (hK : KK D T s) (hA : ∀ q, s.heap.size ≤ q → A q) (hP : va_P D vwCl ws H) (hD : va_D A ws) (hS : va_S A s.heap H locs)
    (ps : List Nat) (hM : MV l y b n rm D T (.ref a :: As) wc wc') (cv : CV y b n none rm q0.1 As.length) (k1 : Cond.methodLink own idx y ∈ TB)
    (hC : ps.map (fun i => ws[i]?) = wc.map some) (hn : va_nd ps = true) (hf : wc'.map Prod.fst = wc.map Prod.fst) (h0 : wc[0]? = some (a, .inr (ci, fs))) (hci : vwCl[ci]? = some q0)
    (hR : rm.frames + 1 ≤ R.frames ∧ 8 + (n + 11) + rm.locals ≤ R.locals) (hcs : cells ≤ R.cells ∧ slots ≤ R.slots) (hls : ls.size = nL) (hst : st = As.reverse ++ .ref a :: rest) (hW : (rest.map fun v => v.category).sum ≤ 8) (hdg : decode cc pc = .ok (.invokevirtual idx, 3))
    (kk : ∀ (H1 : Heap) (locs1 : List Loc), va_P D vwCl (setL ws ps wc') H1 → va_D A (setL ws ps wc') → va_S A s.heap H1 locs1 → W p l e R s m args below meth c H1 locs1 cells slots Q (F0 m (pc + 3) ls rest)) : W p l e R s m args below meth c H locs cells slots Q (F0 m pc ls st) := by
  have hPc := hP.sub (ws' := wc) ps (sub_of hC)
  have hDc := hD.sub (ws' := wc) ps hn hC
  have hFc := va_free (wc := wc) hD hS hA ps hC
  obtain ⟨c2, c3, c4, c5, hd, hrc, hrs⟩ := cv
  refine va_callv (va_runV (As := As) (rest := rest) C (hM H.size) (cwV As.length C.2.2.2.2 (gdV k1 c2 c3 c4 c5) rfl hrc hrs hd hR) ⟨KK.blind, va_recv hK.1 hPc hci h0, pre_ok hK hPc hDc rfl⟩ rfl rfl hls hst (lv_room hW) hdg ⟨hcs.1, hcs.2⟩) hS (fun q _ h => hFc q h) hFc (fun u t H1 locs ht hvm hw hB hz1 hk1 hS => ?_)
  obtain ⟨hP1, hD1⟩ := hB
  rw [ht] at hP1
  obtain ⟨hP2, hD2⟩ := joinS hP hD ps hC hf hk1 hP1
  exact kk H1 locs hP2 hD2 hS
theorem callSI {r : Int32} (C : CX p m c cc nL s args own) (hK : KK D T s) (hA : ∀ q, s.heap.size ≤ q → A q) (hP : va_P D vwCl ws H) (hD : va_D A ws) (hS : va_S A s.heap H locs)
    (hM : MI l y b n rt rm D T As [] [] r) (cv : CS y b n (some rt) rm own As.length) (k1 : Cond.methodLink own idx y ∈ TB)
    (hR : rm.frames + 1 ≤ R.frames ∧ 8 + (n + 11) + rm.locals ≤ R.locals) (hcs : cells ≤ R.cells ∧ slots ≤ R.slots) (hls : ls.size = nL) (hst : st = As.reverse ++ rest) (hW : (rest.map fun v => v.category).sum ≤ 8) (hdg : decode cc pc = .ok (.invokestatic idx, 3))
    (kk : ∀ (H1 : Heap) (locs1 : List Loc), va_P D vwCl ws H1 → va_D A ws → va_S A s.heap H1 locs1 → W p l e R s m args below meth c H1 locs1 cells slots Q (F0 m (pc + 3) ls (.int r :: rest))) : W p l e R s m args below meth c H locs cells slots Q (F0 m pc ls st) := by
  have hPc := hP.sub (ws' := []) [] rfl
  have hDc := hD.sub (ws' := []) [] (by decide) rfl
  have hFc := va_free (wc := []) hD hS hA [] rfl
  obtain ⟨c2, c4, c5, hd, hrc, hrs⟩ := cv
  refine va_calli (va_runS (As := As) (rest := rest) C (hM H.size) (cwS As.length C.2.2.2.2 (gdS k1 c2 c4 c5) rfl hrc hrs hd hR) ⟨KK.blind, pre_ok hK hPc hDc rfl⟩ rfl rfl hls hst (lv_room hW) hdg ⟨hcs.1, hcs.2⟩) hS (fun q _ h => hFc q h) hFc (fun r' u t H1 locs ht hvm hw hB hz1 hk1 hS => ?_)
  obtain ⟨hP1, hD1⟩ := hB
  rw [ht] at hP1
  obtain ⟨hP2, hD2⟩ := joinN hP hD hk1 hP1
  subst hw
  exact kk H1 locs hP2 hD2 hS
theorem callSL {r : Int64} (C : CX p m c cc nL s args own) (hK : KK D T s) (hA : ∀ q, s.heap.size ≤ q → A q) (hP : va_P D vwCl ws H) (hD : va_D A ws) (hS : va_S A s.heap H locs)
    (hM : ML l y b n rm D T As [] [] r) (cv : CS y b n (some .long) rm own As.length) (k1 : Cond.methodLink own idx y ∈ TB)
    (hR : rm.frames + 1 ≤ R.frames ∧ 8 + (n + 11) + rm.locals ≤ R.locals) (hcs : cells ≤ R.cells ∧ slots ≤ R.slots) (hls : ls.size = nL) (hst : st = As.reverse ++ rest) (hW : (rest.map fun v => v.category).sum ≤ 8) (hdg : decode cc pc = .ok (.invokestatic idx, 3))
    (kk : ∀ (H1 : Heap) (locs1 : List Loc), va_P D vwCl ws H1 → va_D A ws → va_S A s.heap H1 locs1 → W p l e R s m args below meth c H1 locs1 cells slots Q (F0 m (pc + 3) ls (.long r :: rest))) : W p l e R s m args below meth c H locs cells slots Q (F0 m pc ls st) := by
  have hPc := hP.sub (ws' := []) [] rfl
  have hDc := hD.sub (ws' := []) [] (by decide) rfl
  have hFc := va_free (wc := []) hD hS hA [] rfl
  obtain ⟨c2, c4, c5, hd, hrc, hrs⟩ := cv
  refine va_calll (va_runS (As := As) (rest := rest) C (hM H.size) (cwS As.length C.2.2.2.2 (gdS k1 c2 c4 c5) rfl hrc hrs hd hR) ⟨KK.blind, pre_ok hK hPc hDc rfl⟩ rfl rfl hls hst (lv_room hW) hdg ⟨hcs.1, hcs.2⟩) hS (fun q _ h => hFc q h) hFc (fun r' u t H1 locs ht hvm hw hB hz1 hk1 hS => ?_)
  obtain ⟨hP1, hD1⟩ := hB
  rw [ht] at hP1
  obtain ⟨hP2, hD2⟩ := joinN hP hD hk1 hP1
  subst hw
  exact kk H1 locs hP2 hD2 hS
/-! ends -/
theorem retI {v : Int32} (C : CX p m c cc nL s args own) (hr : meth.sig.returnType = some .int) (hlk : meth.locks = false) (hP : va_P D vwCl ws H) (hD : va_D A ws) (hS : va_S A s.heap H locs) (hdg : decode cc pc = .ok (.ireturn, 1)) :
    W p l e R s m args below meth c H locs 0 0 (MQ below (va_Qi (fun x (_ : Unit) => x = v) (BW D A ws) A) args s 0 0 A) (F0 m pc ls [.int v]) :=
  W.iret C.1 C.2.1 hr (fun t ht hW => ⟨⟨v, (), rfl, rfl, by rw [ht]; exact hP, hD⟩, hS.F ht⟩) hS.2.2 hdg hlk
theorem retZ {v : Int32} (C : CX p m c cc nL s args own) (hr : meth.sig.returnType = some rt) (hlk : meth.locks = false) (hn : narrow rt (.int v) = .int v) (hP : va_P D vwCl ws H) (hD : va_D A ws) (hS : va_S A s.heap H locs) (hdg : decode cc pc = .ok (.ireturn, 1)) :
    W p l e R s m args below meth c H locs 0 0 (MQ below (va_Qi (fun x (_ : Unit) => x = v) (BW D A ws) A) args s 0 0 A) (F0 m pc ls [.int v]) :=
  W.zret C.1 C.2.1 hr hn (fun t ht hW => ⟨⟨v, (), rfl, rfl, by rw [ht]; exact hP, hD⟩, hS.F ht⟩) hS.2.2 hdg hlk
theorem retL {v : Int64} (C : CX p m c cc nL s args own) (hr : meth.sig.returnType = some .long) (hlk : meth.locks = false) (hP : va_P D vwCl ws H) (hD : va_D A ws) (hS : va_S A s.heap H locs) (hdg : decode cc pc = .ok (.lreturn, 1)) :
    W p l e R s m args below meth c H locs 0 0 (MQ below (va_Ql (fun x (_ : Unit) => x = v) (BW D A ws) A) args s 0 0 A) (F0 m pc ls [.long v]) :=
  W.lret C.1 C.2.1 hr (fun t ht hW => ⟨⟨v, (), rfl, rfl, by rw [ht]; exact hP, hD⟩, hS.F ht⟩) hS.2.2 hdg hlk
theorem retV (C : CX p m c cc nL s args own) (hr : meth.sig.returnType = none) (hlk : meth.locks = false) (hP : va_P D vwCl ws H) (hD : va_D A ws) (hS : va_S A s.heap H locs) (hdg : decode cc pc = .ok (.return_, 1)) :
    W p l e R s m args below meth c H locs 0 0 (MQ below (va_Qv (fun (_ : Unit) => True) (BW D A ws) A) args s 0 0 A) (F0 m pc ls []) :=
  W.vret C.1 C.2.1 hr (fun t ht hW => ⟨⟨(), rfl, trivial, by rw [ht]; exact hP, hD⟩, hS.F ht⟩) hS.2.2 hdg hlk
/-! beginnings -/
theorem MI_of {r : Int32} {av : List Value} (hy : plainFor y = true) (hlen : (lg_sl av).length ≤ n)
    (body : ∀ (p : Program) (e : Env) (s : State) (m : MethodId) (args : Array Value) (below : List Frame) (meth : Method) (c : Code) (A : Nat → Prop) (ls : Array Slot), CX p m c b n s args y.cls → meth.sig.returnType = some rt → meth.locks = false → KK D T s → (∀ q, s.heap.size ≤ q → A q) → va_P D vwCl ws s.heap → va_D A ws → va_S A s.heap s.heap [] → lv_has ls n (lv_args 0 av) →
      W p l e rm s m args below meth c s.heap [] 0 0 (MQ below (va_Qi (fun x (_ : Unit) => x = r) (BW D A ws') A) args s 0 0 A) (F0 m 0 ls [])) : MI l y b n rt rm D T av ws ws' r := by
  intro sz
  refine va_MetF (cc := b) (maxL := n) (ret := some rt) hy rfl ?_
  intro p e s m args below meth c s₁ B hml hv
  obtain ⟨rfl, hsz, hP, hK, hD0⟩ := hv
  subst hsz
  rw [lg_entry_eq]
  exact body p e s m _ below meth c _ _ ⟨B.exec, B.bytes, hml, findClass_of_methodNamed B.named, fun w h => atoms_spec (ws := WS y b n (some rt)) B.pre w (List.mem_cons_of_mem _ h)⟩ B.returns B.notSynchronized hK (fun q h => Or.inr h) hP hD0.self va_S.rf (lv_entry av hlen)
theorem ML_of {r : Int64} {av : List Value} (hy : plainFor y = true) (hlen : (lg_sl av).length ≤ n)
    (body : ∀ (p : Program) (e : Env) (s : State) (m : MethodId) (args : Array Value) (below : List Frame) (meth : Method) (c : Code) (A : Nat → Prop) (ls : Array Slot), CX p m c b n s args y.cls → meth.sig.returnType = some .long → meth.locks = false → KK D T s → (∀ q, s.heap.size ≤ q → A q) → va_P D vwCl ws s.heap → va_D A ws → va_S A s.heap s.heap [] → lv_has ls n (lv_args 0 av) →
      W p l e rm s m args below meth c s.heap [] 0 0 (MQ below (va_Ql (fun x (_ : Unit) => x = r) (BW D A ws') A) args s 0 0 A) (F0 m 0 ls [])) : ML l y b n rm D T av ws ws' r := by
  intro sz
  refine va_MetF (cc := b) (maxL := n) (ret := some .long) hy rfl ?_
  intro p e s m args below meth c s₁ B hml hv
  obtain ⟨rfl, hsz, hP, hK, hD0⟩ := hv
  subst hsz
  rw [lg_entry_eq]
  exact body p e s m _ below meth c _ _ ⟨B.exec, B.bytes, hml, findClass_of_methodNamed B.named, fun w h => atoms_spec (ws := WS y b n (some .long)) B.pre w (List.mem_cons_of_mem _ h)⟩ B.returns B.notSynchronized hK (fun q h => Or.inr h) hP hD0.self va_S.rf (lv_entry av hlen)
theorem MV_of {av : List Value} (hy : plainFor y = true) (hlen : (lg_sl av).length ≤ n)
    (body : ∀ (p : Program) (e : Env) (s : State) (m : MethodId) (args : Array Value) (below : List Frame) (meth : Method) (c : Code) (A : Nat → Prop) (ls : Array Slot), CX p m c b n s args y.cls → meth.sig.returnType = none → meth.locks = false → KK D T s → (∀ q, s.heap.size ≤ q → A q) → va_P D vwCl ws s.heap → va_D A ws → va_S A s.heap s.heap [] → lv_has ls n (lv_args 0 av) →
      W p l e rm s m args below meth c s.heap [] 0 0 (MQ below (va_Qv (fun (_ : Unit) => True) (BW D A ws') A) args s 0 0 A) (F0 m 0 ls [])) : MV l y b n rm D T av ws ws' := by
  intro sz
  refine va_MetF (cc := b) (maxL := n) (ret := none) hy rfl ?_
  intro p e s m args below meth c s₁ B hml hv
  obtain ⟨rfl, hsz, hP, hK, hD0⟩ := hv
  subst hsz
  rw [lg_entry_eq]
  exact body p e s m _ below meth c _ _ ⟨B.exec, B.bytes, hml, findClass_of_methodNamed B.named, fun w h => atoms_spec (ws := WS y b n none) B.pre w (List.mem_cons_of_mem _ h)⟩ B.returns B.notSynchronized hK (fun q h => Or.inr h) hP hD0.self va_S.rf (lv_entry av hlen)
/-! a reference out of a row of references -/
theorem aldR {a : Nat} {cA : ClassId} {C : String} {N : Nat} {rr : Nat → Nat} {i : Int32} (C0 : CX p m c cc nL s args own) (hK : KK D T s) (hP : va_P D vwCl ws H) (q0 t0 : Nat) (ha : ws[q0]? = some (a, .inl (cA, N, .inr (.inr (.inr (.inr (fun j => some (rr j)))))))) (ht : T[t0]? = some (cA, .object C)) (hin : vp_in i N) (hdg : decode cc pc = .ok (.aaload, 1))
    (kk : W p l e R s m args below meth c H locs cells slots Q (F0 m (pc + 1) ls (.ref (rr i.toNatClampNeg) :: rest))) : W p l e R s m args below meth c H locs cells slots Q (F0 m pc ls (.int i :: .ref a :: rest)) :=
  va_aldq C0.1 C0.2.1 hK.1 hP q0 t0 ha ht hin hdg kk
end
/-! out of 'some' -/
theorem fp {α : Type} {c : Prop} [Decidable c] {A B : Option α} {r : α} (h : (if c then A else B) = some r) (hc : c) : A = some r := by rw [if_pos hc] at h; exact h
theorem fn {α : Type} {c : Prop} [Decidable c] {A B : Option α} {r : α} (h : (if c then A else B) = some r) (hc : ¬ c) : B = some r := by rw [if_neg hc] at h; exact h
theorem fb {α β : Type} {x : Option α} {f : α → Option β} {r : β} (h : x.bind f = some r) : ∃ y, x = some y ∧ f y = some r := by
  cases x with
  | none => cases h
  | some y => exact ⟨y, rfl, h⟩
def chk {α : Type} (c : Prop) [Decidable c] (k : Option α) : Option α := if c then k else none
theorem fk {α : Type} {c : Prop} [Decidable c] {k : Option α} {r : α} (h : chk c k = some r) : c ∧ k = some r := by
  unfold chk at h
  by_cases hc : c
  · rw [if_pos hc] at h; exact ⟨hc, h⟩
  · rw [if_neg hc] at h; cases h
theorem chk_pos {α : Type} {c : Prop} [Decidable c] {k : Option α} (h : c) : chk c k = k := if_pos h
abbrev inb (i : Int32) (n : Nat) : Prop := ¬ (i < 0 ∨ n ≤ i.toNatClampNeg)
abbrev isZ (v : Int32) : Prop := v = 0 ∨ v = 1
theorem narZ {v : Int32} (h : isZ v) : narrow .boolean (.int v) = .int v := by rcases h with h | h <;> subst h <;> rfl
theorem fitZ {v : Int32} (h : isZ v) : fits .boolean (.int v) = true := by rcases h with h | h <;> subst h <;> rfl
abbrev Rot : Type := Int32 × Int32 × Int32 × Int32
abbrev Sht : Type := Int32 × Int32 × (Nat → Int32)
def up {α : Type} (f : Nat → α) (k : Nat) (v : α) : Nat → α := fun j => if j = k then v else f j
