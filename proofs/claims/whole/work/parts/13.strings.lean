/-! the six names as constants: what is known of them, and the JDK's own members over them -/
def sLen : List Nat := [5, 5, 5, 5, 5, 5]
def sByt : List (List Int32) := [[112, 108, 97, 105, 110], [113, 117, 105, 99, 107], [104, 101, 97, 118, 121], [115, 116, 105, 102, 102], [115, 105, 103, 110, 115], [101, 118, 101, 114, 121]]
def sLn (j : Nat) : Int32 := ishr (Int32.ofNat (sLen.getD j 0)) 0
def sCh (j : Nat) (k : Int32) : Int32 := ((((sByt.getD j []).getD k.toNatClampNeg 0) &&& 255).toUInt32 % 65536).toInt32
def SQ (adK adV : Nat → Nat) (A : Nat → Prop) (U : State) (H : Heap) : Prop :=
  vk_S 6 sLen sByt adK adV A U H ∧ va_Z RJ0 "COMPACT_STRINGS" "Z" (.int 1) A U H ∧ va_Zq RJ3 "SIOOBE_FORMATTER" "Ljava/util/function/BiFunction;" A U H ∧ (vk_R RX5 116 "plain" (adK 0) U ∧ vk_R RX5 120 "quick" (adK 1) U ∧ vk_R RX5 122 "heavy" (adK 2) U ∧ vk_R RX5 124 "stiff" (adK 3) U ∧ vk_R RX5 63 "signs" (adK 4) U ∧ vk_R RX5 72 "every" (adK 5) U)
def PS (D : va_G) (T : List (ClassId × FieldType)) (adK adV : Nat → Nat) (ws : va_W) (sz : Nat) (av : List Value) : Array Value → State → Prop :=
  va_Pc av (fun U => U.heap.size = sz ∧ va_P D vwCl ws U.heap ∧ KK D T U ∧ va_D (fun _ => True) ws ∧ SQ adK adV (va_A ws sz) U U.heap)
def MIS (l : Launch) (y : MethodName) (b : ByteArray) (n : Nat) (rt : FieldType) (rm : Room) (D : va_G) (T : List (ClassId × FieldType)) (adK adV : Nat → Nat) (av : List Value) (ws ws' : va_W) (r : Int32) : Prop :=
  ∀ sz, Met l y (WS y b n (some rt)) rm (PS D T adK adV ws sz av) (va_Qi (fun x (_ : Unit) => x = r) (BW D (va_A ws sz) ws') (va_A ws sz)) 0 0 (va_A ws sz)
def MVS (l : Launch) (y : MethodName) (b : ByteArray) (n : Nat) (rm : Room) (D : va_G) (T : List (ClassId × FieldType)) (adK adV : Nat → Nat) (av : List Value) (ws ws' : va_W) : Prop :=
  ∀ sz, Met l y (WS y b n none) rm (PS D T adK adV ws sz av) (va_Qv (fun (_ : Unit) => True) (BW D (va_A ws sz) ws') (va_A ws sz)) 0 0 (va_A ws sz)
section
variable {p : Program} {l : Launch} {e : Env} {R : Room} {s : State} {m : MethodId} {args : Array Value} {below : List Frame} {meth : Method} {c : Code} {H : Heap} {locs : List Loc} {Q : State → Prop} {D : va_G} {T : List (ClassId × FieldType)} {ws ws' wc wc' : va_W} {A : Nat → Prop} {cc b : ByteArray} {nL n pc cells slots idx : Nat} {ls : Array Slot} {rest st As : List Value} {own C0 : String} {y : MethodName} {rm : Room} {rt : FieldType} {adK adV : Nat → Nat}
theorem SQ.at (hQ : SQ adK adV A s s.heap) (hS : va_S A s.heap H locs) {B : Nat → Prop} (hB : ∀ q, B q → A q) {U : State} (hU : U.heap = H) (hW : s.WarmedH U.vm) : SQ adK adV B U U.heap := by
  obtain ⟨h1, h2, h3, r0, r1, r2, r3, r4, r5⟩ := hQ
  have hk : ∀ a : Nat, a < s.heap.size → ¬ A a → U.heap[a]? = s.heap[a]? := fun a h1 h2 => by rw [hU]; exact hS.2.1 a h1 h2
  exact ⟨((h1.moved hW.alike).kept hk).narrow hB, ((h2.moved hW.alike).kept hk).narrow hB, ((h3.moved hW.alike).kept hk).narrow hB, r0.warm hW, r1.warm hW, r2.warm hW, r3.warm hW, r4.warm hW, r5.warm hW⟩
theorem PS.blind {sz : Nat} {av : List Value} : FrameBlind (PS D T adK adV ws sz av) := by
  intro a U g mk q
  obtain ⟨q0, q1, qP, qK, qD, h1, h2, h3, r0, r1, r2, r3, r4, r5⟩ := q
  have hv : U.vm.Alike (U.calling g mk a).vm := Vm.Alike.refl U.vm
  exact ⟨q0, q1, qP, KK.moved (u := U) (U := U.calling g mk a) hv qK, qD, h1.moved hv, h2.moved hv, h3.moved hv, r0.same rfl, r1.same rfl, r2.same rfl, r3.same rfl, r4.same rfl, r5.same rfl⟩
theorem pre_okS {sz : Nat} {av : List Value} (hK : KK D T s) (hQ : SQ adK adV A s s.heap) (hS : va_S A s.heap H locs) (hB : ∀ q, va_A wc H.size q → A q) (hPc : va_P D vwCl wc H) (hDc : va_D A wc) (hz : H.size = sz) : ∀ U : State, U.heap = H → s.WarmedH U.vm → PS D T adK adV wc sz av av.toArray U :=
  fun U hU hW => ⟨rfl, by rw [hU]; exact hz, by rw [hU]; exact hPc, hK.moved hW.alike, hDc.weaken (fun _ _ _ _ => trivial), hQ.at hS (fun q h => hB q (by rw [hz]; exact h)) hU hW⟩
theorem callVIS {r : Int32} {a : Nat} {C0 : String} (C : CX p m c cc nL s args own) (hK : KK D T s) (hQ : SQ adK adV A s s.heap) (hA : ∀ q, s.heap.size ≤ q → A q) (hP : va_P D vwCl ws H) (hD : va_D A ws) (hS : va_S A s.heap H locs)
    (ps : List Nat) (hM : MIS l y b n rt rm D T adK adV (.ref a :: As) wc wc' r) (cv : CV y b n (some rt) rm C0 As.length) (k1 : Cond.methodLink own idx y ∈ TB) (hrec : ∃ cell : Cell, H[a]? = some cell ∧ cell.vm.isStatics = false ∧ s.vm.findClass C0 = some cell.cls)
    (hC : ps.map (fun i => ws[i]?) = wc.map some) (hn : va_nd ps = true) (hf : wc'.map Prod.fst = wc.map Prod.fst)
    (hR : rm.frames + 1 ≤ R.frames ∧ 8 + (n + 11) + rm.locals ≤ R.locals) (hcs : cells ≤ R.cells ∧ slots ≤ R.slots) (hls : ls.size = nL) (hst : st = As.reverse ++ .ref a :: rest) (hW : (rest.map fun v => v.category).sum ≤ 8) (hdg : decode cc pc = .ok (.invokevirtual idx, 3))
    (kk : ∀ (H1 : Heap) (locs1 : List Loc), va_P D vwCl (setL ws ps wc') H1 → va_D A (setL ws ps wc') → va_S A s.heap H1 locs1 → W p l e R s m args below meth c H1 locs1 cells slots Q (F0 m (pc + 3) ls (.int r :: rest))) : W p l e R s m args below meth c H locs cells slots Q (F0 m pc ls st) := by
  have hPc := hP.sub (ws' := wc) ps (sub_of hC)
  have hDc := hD.sub (ws' := wc) ps hn hC
  have hFc := va_free (wc := wc) hD hS hA ps hC
  obtain ⟨c2, c3, c4, c5, hd, hrc, hrs⟩ := cv
  refine va_calli (va_runV (As := As) (rest := rest) C (hM H.size) (cwV As.length C.2.2.2.2 (gdV k1 c2 c3 c4 c5) rfl hrc hrs hd hR) ⟨PS.blind, hrec, pre_okS hK hQ hS hFc hPc hDc rfl⟩ rfl rfl hls hst (lv_room hW) hdg ⟨hcs.1, hcs.2⟩) hS (fun q _ h => hFc q h) hFc (fun r' u t H1 locs ht hvm hw hB hz1 hk1 hS => ?_)
  obtain ⟨hP1, hD1⟩ := hB
  rw [ht] at hP1
  obtain ⟨hP2, hD2⟩ := joinS hP hD ps hC hf hk1 hP1
  subst hw
  exact kk H1 locs hP2 hD2 hS
theorem callSIS {r : Int32} (C : CX p m c cc nL s args own) (hK : KK D T s) (hQ : SQ adK adV A s s.heap) (hA : ∀ q, s.heap.size ≤ q → A q) (hP : va_P D vwCl ws H) (hD : va_D A ws) (hS : va_S A s.heap H locs)
    (hM : MIS l y b n rt rm D T adK adV As [] [] r) (cv : CS y b n (some rt) rm C0 As.length) (k1 : Cond.methodLink own idx y ∈ TB)
    (hR : rm.frames + 1 ≤ R.frames ∧ 8 + (n + 11) + rm.locals ≤ R.locals) (hcs : cells ≤ R.cells ∧ slots ≤ R.slots) (hls : ls.size = nL) (hst : st = As.reverse ++ rest) (hW : (rest.map fun v => v.category).sum ≤ 8) (hdg : decode cc pc = .ok (.invokestatic idx, 3))
    (kk : ∀ (H1 : Heap) (locs1 : List Loc), va_P D vwCl ws H1 → va_D A ws → va_S A s.heap H1 locs1 → W p l e R s m args below meth c H1 locs1 cells slots Q (F0 m (pc + 3) ls (.int r :: rest))) : W p l e R s m args below meth c H locs cells slots Q (F0 m pc ls st) := by
  have hPc := hP.sub (ws' := []) [] rfl
  have hDc := hD.sub (ws' := []) [] (by decide) rfl
  have hFc := va_free (wc := []) hD hS hA [] rfl
  obtain ⟨c2, c4, c5, hd, hrc, hrs⟩ := cv
  refine va_calli (va_runS (As := As) (rest := rest) C (hM H.size) (va_cwS As.length C.2.2.2.2 (gdX k1 c2 (by rw [hd.1]; exact c4) c5) rfl hrc hrs hd.2 hR) ⟨PS.blind, pre_okS hK hQ hS hFc hPc hDc rfl⟩ rfl rfl hls hst (lv_room hW) hdg ⟨hcs.1, hcs.2⟩) hS (fun q _ h => hFc q h) hFc (fun r' u t H1 locs ht hvm hw hB hz1 hk1 hS => ?_)
  obtain ⟨hP1, hD1⟩ := hB
  rw [ht] at hP1
  obtain ⟨hP2, hD2⟩ := joinN hP hD hk1 hP1
  subst hw
  exact kk H1 locs hP2 hD2 hS
theorem callSVS (C : CX p m c cc nL s args own) (hK : KK D T s) (hQ : SQ adK adV A s s.heap) (hA : ∀ q, s.heap.size ≤ q → A q) (hP : va_P D vwCl ws H) (hD : va_D A ws) (hS : va_S A s.heap H locs)
    (hM : MVS l y b n rm D T adK adV As [] []) (cv : CS y b n none rm C0 As.length) (k1 : Cond.methodLink own idx y ∈ TB)
    (hR : rm.frames + 1 ≤ R.frames ∧ 8 + (n + 11) + rm.locals ≤ R.locals) (hcs : cells ≤ R.cells ∧ slots ≤ R.slots) (hls : ls.size = nL) (hst : st = As.reverse ++ rest) (hW : (rest.map fun v => v.category).sum ≤ 8) (hdg : decode cc pc = .ok (.invokestatic idx, 3))
    (kk : ∀ (H1 : Heap) (locs1 : List Loc), va_P D vwCl ws H1 → va_D A ws → va_S A s.heap H1 locs1 → W p l e R s m args below meth c H1 locs1 cells slots Q (F0 m (pc + 3) ls rest)) : W p l e R s m args below meth c H locs cells slots Q (F0 m pc ls st) := by
  have hPc := hP.sub (ws' := []) [] rfl
  have hDc := hD.sub (ws' := []) [] (by decide) rfl
  have hFc := va_free (wc := []) hD hS hA [] rfl
  obtain ⟨c2, c4, c5, hd, hrc, hrs⟩ := cv
  refine va_callv (va_runS (As := As) (rest := rest) C (hM H.size) (va_cwS As.length C.2.2.2.2 (gdX k1 c2 (by rw [hd.1]; exact c4) c5) rfl hrc hrs hd.2 hR) ⟨PS.blind, pre_okS hK hQ hS hFc hPc hDc rfl⟩ rfl rfl hls hst (lv_room hW) hdg ⟨hcs.1, hcs.2⟩) hS (fun q _ h => hFc q h) hFc (fun u t H1 locs ht hvm hw hB hz1 hk1 hS => ?_)
  obtain ⟨hP1, hD1⟩ := hB
  rw [ht] at hP1
  obtain ⟨hP2, hD2⟩ := joinN hP hD hk1 hP1
  exact kk H1 locs hP2 hD2 hS
theorem MIS_of {r : Int32} {av : List Value} (hy : plainFor y = true) (hlen : (lg_sl av).length ≤ n)
    (body : ∀ (p : Program) (e : Env) (s : State) (m : MethodId) (args : Array Value) (below : List Frame) (meth : Method) (c : Code) (A : Nat → Prop) (ls : Array Slot), CX p m c b n s args y.cls → meth.sig.returnType = some rt → meth.locks = false → KK D T s → SQ adK adV A s s.heap → (∀ q, s.heap.size ≤ q → A q) → va_P D vwCl ws s.heap → va_D A ws → va_S A s.heap s.heap [] → lv_has ls n (lv_args 0 av) →
      W p l e rm s m args below meth c s.heap [] 0 0 (MQ below (va_Qi (fun x (_ : Unit) => x = r) (BW D A ws') A) args s 0 0 A) (F0 m 0 ls [])) : MIS l y b n rt rm D T adK adV av ws ws' r := by
  intro sz
  refine va_MetF (cc := b) (maxL := n) (ret := some rt) hy rfl ?_
  intro p e s m args below meth c s₁ B hml hv
  obtain ⟨rfl, hsz, hP, hK, hD0, hQ⟩ := hv
  subst hsz
  rw [lg_entry_eq]
  exact body p e s m _ below meth c _ _ ⟨B.exec, B.bytes, hml, findClass_of_methodNamed B.named, fun w h => atoms_spec (ws := WS y b n (some rt)) B.pre w (List.mem_cons_of_mem _ h)⟩ B.returns B.notSynchronized hK hQ (fun q h => Or.inr h) hP hD0.self va_S.rf (lv_entry av hlen)
theorem MVS_of {av : List Value} (hy : plainFor y = true) (hlen : (lg_sl av).length ≤ n)
    (body : ∀ (p : Program) (e : Env) (s : State) (m : MethodId) (args : Array Value) (below : List Frame) (meth : Method) (c : Code) (A : Nat → Prop) (ls : Array Slot), CX p m c b n s args y.cls → meth.sig.returnType = none → meth.locks = false → KK D T s → SQ adK adV A s s.heap → (∀ q, s.heap.size ≤ q → A q) → va_P D vwCl ws s.heap → va_D A ws → va_S A s.heap s.heap [] → lv_has ls n (lv_args 0 av) →
      W p l e rm s m args below meth c s.heap [] 0 0 (MQ below (va_Qv (fun (_ : Unit) => True) (BW D A ws') A) args s 0 0 A) (F0 m 0 ls [])) : MVS l y b n rm D T adK adV av ws ws' := by
  intro sz
  refine va_MetF (cc := b) (maxL := n) (ret := none) hy rfl ?_
  intro p e s m args below meth c s₁ B hml hv
  obtain ⟨rfl, hsz, hP, hK, hD0, hQ⟩ := hv
  subst hsz
  rw [lg_entry_eq]
  exact body p e s m _ below meth c _ _ ⟨B.exec, B.bytes, hml, findClass_of_methodNamed B.named, fun w h => atoms_spec (ws := WS y b n none) B.pre w (List.mem_cons_of_mem _ h)⟩ B.returns B.notSynchronized hK hQ (fun q h => Or.inr h) hP hD0.self va_S.rf (lv_entry av hlen)
end
/-! Preconditions.checkIndex, String.checkIndex, StringLatin1.charAt, String.isLatin1, coder, length, charAt -/
def rm_J3c : Room := { frames := 0, cells := 0, slots := 0, locals := 0 }
theorem cs_J3c : CS yJ3_checkIndex_8e157 cJ3_checkIndex_8e157 3 (some .int) rm_J3c RJ3 3 := ⟨kw2_62, kw1_11, kw2_63, by decide +kernel, rfl, rfl⟩
section
variable {l : Launch} {D : va_G} {T : List (ClassId × FieldType)} {adK adV : Nat → Nat}
set_option maxRecDepth 100000 in
theorem c_J3c {x n : Int32} {v : Value} (h0 : ¬ x < 0) (h1 : x < n) (hv : v = .null ∨ ∃ t, v = .ref t) : MI l yJ3_checkIndex_8e157 cJ3_checkIndex_8e157 3 .int rm_J3c D T [.int x, .int n, v] [] [] x := by
  rcases hv with rfl | ⟨t, rfl⟩
  · refine MI_of (by decide +kernel) (Nat.le_of_ble_eq_true rfl) (fun p e s m args below meth c A ls C hr hlk hK hA hP hD hS hl => ?_)
    have C : CX p m c cJ3_checkIndex_8e157 3 s args RJ3 := C
    have hl : lv_has ls 3 [(0, .int x), (1, .int n), (2, .null)] := hl
    refine lv_iload_n C.1 C.2.1 dJ3_checkIndex_8e157_0 rfl (lv_at hl 0 rfl) ?_
    refine lv_if_lt (tgt := 9) C.1 C.2.1 dJ3_checkIndex_8e157_1 (by decide) (fun c1 => absurd c1 h0) (fun c1 => ?_)
    refine lv_iload_n C.1 C.2.1 dJ3_checkIndex_8e157_4 rfl (lv_at hl 0 rfl) ?_
    refine lv_iload_n C.1 C.2.1 dJ3_checkIndex_8e157_5 rfl (lv_at hl 1 rfl) ?_
    refine lv_icmp_lt (tgt := 16) C.1 C.2.1 dJ3_checkIndex_8e157_6 (by decide) (fun c2 => ?_) (fun c2 => absurd h1 c2)
    refine lv_iload_n C.1 C.2.1 dJ3_checkIndex_8e157_16 rfl (lv_at hl 0 rfl) ?_
    exact retI C hr hlk hP hD hS dJ3_checkIndex_8e157_17
  · refine MI_of (by decide +kernel) (Nat.le_of_ble_eq_true rfl) (fun p e s m args below meth c A ls C hr hlk hK hA hP hD hS hl => ?_)
    have C : CX p m c cJ3_checkIndex_8e157 3 s args RJ3 := C
    have hl : lv_has ls 3 [(0, .int x), (1, .int n), (2, .ref t)] := hl
    refine lv_iload_n C.1 C.2.1 dJ3_checkIndex_8e157_0 rfl (lv_at hl 0 rfl) ?_
    refine lv_if_lt (tgt := 9) C.1 C.2.1 dJ3_checkIndex_8e157_1 (by decide) (fun c1 => absurd c1 h0) (fun c1 => ?_)
    refine lv_iload_n C.1 C.2.1 dJ3_checkIndex_8e157_4 rfl (lv_at hl 0 rfl) ?_
    refine lv_iload_n C.1 C.2.1 dJ3_checkIndex_8e157_5 rfl (lv_at hl 1 rfl) ?_
    refine lv_icmp_lt (tgt := 16) C.1 C.2.1 dJ3_checkIndex_8e157_6 (by decide) (fun c2 => ?_) (fun c2 => absurd h1 c2)
    refine lv_iload_n C.1 C.2.1 dJ3_checkIndex_8e157_16 rfl (lv_at hl 0 rfl) ?_
    exact retI C hr hlk hP hD hS dJ3_checkIndex_8e157_17
def rm_J0k : Room := { frames := 1, cells := 0, slots := 0, locals := 22 }
theorem cs_J0k : CS yJ0_checkIndex_df160 cJ0_checkIndex_df160 2 none rm_J0k RJ0 2 := ⟨kw2_57, kw1_9, kw2_58, by decide +kernel, rfl, rfl⟩
set_option maxRecDepth 100000 in
theorem c_J0k {x n : Int32} (h0 : ¬ x < 0) (h1 : x < n) : MVS l yJ0_checkIndex_df160 cJ0_checkIndex_df160 2 rm_J0k D T adK adV [.int x, .int n] [] [] := by
  refine MVS_of (by decide +kernel) (Nat.le_of_ble_eq_true rfl) (fun p e s m args below meth c A ls C hr hlk hK hQ hA hP hD hS hl => ?_)
  have C : CX p m c cJ0_checkIndex_df160 2 s args RJ0 := C
  have hl : lv_has ls 2 [(0, .int x), (1, .int n)] := hl
  refine lv_iload_n C.1 C.2.1 dJ0_checkIndex_df160_0 rfl (lv_at hl 0 rfl) ?_
  refine lv_iload_n C.1 C.2.1 dJ0_checkIndex_df160_1 rfl (lv_at hl 1 rfl) ?_
  rcases hQ.2.2.1 with hZ | ⟨t, hZ⟩
  · refine va_gets C.1 C.2.1 hZ hS C.2.2.2.1 (C.2.2.2.2 _ kw2_59) (fun _ h => h) dJ0_checkIndex_df160_2 ?_
    refine callSX C hK hA hP hD hS (c_J3c (v := .null) h0 h1 (Or.inl rfl)) cs_J3c kw2_61 ⟨Nat.le_of_ble_eq_true rfl, Nat.le_of_ble_eq_true rfl⟩ ⟨Nat.zero_le _, Nat.zero_le _⟩ hl.1 rfl (Nat.le_of_ble_eq_true rfl) dJ0_checkIndex_df160_5 (fun H locs hP hD hS => ?_)
    refine lv_pop C.1 C.2.1 dJ0_checkIndex_df160_8 rfl ?_
    exact retV C hr hlk hP hD hS dJ0_checkIndex_df160_9
  · refine va_gets C.1 C.2.1 hZ hS C.2.2.2.1 (C.2.2.2.2 _ kw2_59) (fun _ h => h) dJ0_checkIndex_df160_2 ?_
    refine callSX C hK hA hP hD hS (c_J3c (v := .ref t) h0 h1 (Or.inr ⟨t, rfl⟩)) cs_J3c kw2_61 ⟨Nat.le_of_ble_eq_true rfl, Nat.le_of_ble_eq_true rfl⟩ ⟨Nat.zero_le _, Nat.zero_le _⟩ hl.1 rfl (Nat.le_of_ble_eq_true rfl) dJ0_checkIndex_df160_5 (fun H locs hP hD hS => ?_)
    refine lv_pop C.1 C.2.1 dJ0_checkIndex_df160_8 rfl ?_
    exact retV C hr hlk hP hD hS dJ0_checkIndex_df160_9
def rm_J1c : Room := { frames := 2, cells := 0, slots := 0, locals := 43 }
theorem cs_J1c : CS yJ1_charAt_3b067 cJ1_charAt_3b067 2 (some .char) rm_J1c RJ1 2 := ⟨kw2_54, kw1_10, kw2_55, by decide +kernel, rfl, rfl⟩
set_option maxRecDepth 100000 in
theorem c_J1c {j : Nat} (hj : j < 6) {x : Int32} (h0 : ¬ x < 0) (h1 : x < Int32.ofNat (sLen.getD j 0)) (h2 : vp_in x (sLen.getD j 0)) : MIS l yJ1_charAt_3b067 cJ1_charAt_3b067 2 .char rm_J1c D T adK adV [.ref (adV j), .int x] [] [] (sCh j x) := by
  refine MIS_of (by decide +kernel) (Nat.le_of_ble_eq_true rfl) (fun p e s m args below meth c A ls C hr hlk hK hQ hA hP hD hS hl => ?_)
  have C : CX p m c cJ1_charAt_3b067 2 s args RJ1 := C
  have hl : lv_has ls 2 [(0, .ref (adV j)), (1, .int x)] := hl
  have hT := (hQ.1.1 j hj).2.2.2
  refine lv_iload_n C.1 C.2.1 dJ1_charAt_3b067_0 rfl (lv_at hl 1 rfl) ?_
  refine lv_aload_n C.1 C.2.1 dJ1_charAt_3b067_1 rfl (lv_at hl 0 rfl) ?_
  refine va_tlen (v := Int32.ofNat (sLen.getD j 0)) C.1 C.2.1 hT hS rfl dJ1_charAt_3b067_2 ?_
  refine callSVS C hK hQ hA hP hD hS (c_J0k h0 h1) cs_J0k kw2_56 ⟨Nat.le_of_ble_eq_true rfl, Nat.le_of_ble_eq_true rfl⟩ ⟨Nat.zero_le _, Nat.zero_le _⟩ hl.1 rfl (Nat.le_of_ble_eq_true rfl) dJ1_charAt_3b067_3 (fun H locs hP hD hS => ?_)
  refine lv_aload_n C.1 C.2.1 dJ1_charAt_3b067_6 rfl (lv_at hl 0 rfl) ?_
  refine lv_iload_n C.1 C.2.1 dJ1_charAt_3b067_7 rfl (lv_at hl 1 rfl) ?_
  refine va_tb (v := .int ((sByt.getD j []).getD x.toNatClampNeg 0)) C.1 C.2.1 hT hS h2 rfl dJ1_charAt_3b067_8 ?_
  refine lv_sipush (v := 255) C.1 C.2.1 dJ1_charAt_3b067_9 (by decide) ?_
  refine lv_iand C.1 C.2.1 dJ1_charAt_3b067_12 ?_
  refine lv_i2c (v := sCh j x) C.1 C.2.1 dJ1_charAt_3b067_13 rfl ?_
  exact retZ C hr hlk (pk_nc _) hP hD hS dJ1_charAt_3b067_14
def rm_J0i : Room := { frames := 0, cells := 0, slots := 0, locals := 0 }
theorem cv_J0i : CV yJ0_isLatin1_aae02 cJ0_isLatin1_aae02 1 (some .boolean) rm_J0i RJ0 0 := ⟨kw2_50, kw2_51, kw1_9, kw2_52, by decide +kernel, rfl, rfl⟩
set_option maxRecDepth 100000 in
theorem c_J0i {j : Nat} (hj : j < 6) : MIS l yJ0_isLatin1_aae02 cJ0_isLatin1_aae02 1 .boolean rm_J0i D T adK adV [.ref (adK j)] [] [] 1 := by
  refine MIS_of (by decide +kernel) (Nat.le_of_ble_eq_true rfl) (fun p e s m args below meth c A ls C hr hlk hK hQ hA hP hD hS hl => ?_)
  have C : CX p m c cJ0_isLatin1_aae02 1 s args RJ0 := C
  have hl : lv_has ls 1 [(0, .ref (adK j))] := hl
  refine va_gets C.1 C.2.1 hQ.2.1 hS C.2.2.2.1 (C.2.2.2.2 _ kw2_43) (fun _ h => h) dJ0_isLatin1_aae02_0 ?_
  refine lv_if_eq (tgt := 17) C.1 C.2.1 dJ0_isLatin1_aae02_3 (by decide) (fun c1 => absurd c1 (by decide)) (fun c1 => ?_)
  refine lv_aload_n C.1 C.2.1 dJ0_isLatin1_aae02_6 rfl (lv_at hl 0 rfl) ?_
  refine vk_getf C.1 C.2.1 (hQ.1.1 j hj).2.1 hS C.2.2.2.1 (C.2.2.2.2 _ kw5_179) (fun _ h => h) dJ0_isLatin1_aae02_7 ?_
  refine lv_if_ne (tgt := 17) C.1 C.2.1 dJ0_isLatin1_aae02_10 (by decide) (fun c1 => absurd rfl c1) (fun c1 => ?_)
  refine lv_iconst (v := 1) C.1 C.2.1 dJ0_isLatin1_aae02_13 (by decide) ?_
  refine lv_goto (tgt := 18) C.1 C.2.1 dJ0_isLatin1_aae02_14 (by decide) ?_
  exact retZ (v := 1) C hr hlk (by decide) hP hD hS dJ0_isLatin1_aae02_18
def rm_J0o : Room := { frames := 0, cells := 0, slots := 0, locals := 0 }
theorem cv_J0o : CV yJ0_coder_7d493 cJ0_coder_7d493 1 (some .byte) rm_J0o RJ0 0 := ⟨kw2_40, kw2_41, kw1_9, kw2_42, by decide +kernel, rfl, rfl⟩
set_option maxRecDepth 100000 in
theorem c_J0o {j : Nat} (hj : j < 6) : MIS l yJ0_coder_7d493 cJ0_coder_7d493 1 .byte rm_J0o D T adK adV [.ref (adK j)] [] [] 0 := by
  refine MIS_of (by decide +kernel) (Nat.le_of_ble_eq_true rfl) (fun p e s m args below meth c A ls C hr hlk hK hQ hA hP hD hS hl => ?_)
  have C : CX p m c cJ0_coder_7d493 1 s args RJ0 := C
  have hl : lv_has ls 1 [(0, .ref (adK j))] := hl
  refine va_gets C.1 C.2.1 hQ.2.1 hS C.2.2.2.1 (C.2.2.2.2 _ kw2_43) (fun _ h => h) dJ0_coder_7d493_0 ?_
  refine lv_if_eq (tgt := 13) C.1 C.2.1 dJ0_coder_7d493_3 (by decide) (fun c1 => absurd c1 (by decide)) (fun c1 => ?_)
  refine lv_aload_n C.1 C.2.1 dJ0_coder_7d493_6 rfl (lv_at hl 0 rfl) ?_
  refine vk_getf C.1 C.2.1 (hQ.1.1 j hj).2.1 hS C.2.2.2.1 (C.2.2.2.2 _ kw5_179) (fun _ h => h) dJ0_coder_7d493_7 ?_
  refine lv_goto (tgt := 14) C.1 C.2.1 dJ0_coder_7d493_10 (by decide) ?_
  exact retZ (v := 0) C hr hlk (by decide) hP hD hS dJ0_coder_7d493_14
def rm_J0l : Room := { frames := 1, cells := 0, slots := 0, locals := 20 }
theorem cv_J0l : CV yJ0_length_8abf5 cJ0_length_8abf5 1 (some .int) rm_J0l RJ0 0 := ⟨kw2_36, kw2_37, kw1_9, kw2_38, by decide +kernel, rfl, rfl⟩
set_option maxRecDepth 100000 in
theorem c_J0l {j : Nat} (hj : j < 6) : MIS l yJ0_length_8abf5 cJ0_length_8abf5 1 .int rm_J0l D T adK adV [.ref (adK j)] [] [] (sLn j) := by
  refine MIS_of (by decide +kernel) (Nat.le_of_ble_eq_true rfl) (fun p e s m args below meth c A ls C hr hlk hK hQ hA hP hD hS hl => ?_)
  have C : CX p m c cJ0_length_8abf5 1 s args RJ0 := C
  have hl : lv_has ls 1 [(0, .ref (adK j))] := hl
  refine lv_aload_n C.1 C.2.1 dJ0_length_8abf5_0 rfl (lv_at hl 0 rfl) ?_
  refine vk_getf C.1 C.2.1 (hQ.1.1 j hj).2.2.1 hS C.2.2.2.1 (C.2.2.2.2 _ kw5_178) (fun _ h => h) dJ0_length_8abf5_1 ?_
  refine va_tlen (v := Int32.ofNat (sLen.getD j 0)) C.1 C.2.1 (hQ.1.1 j hj).2.2.2 hS rfl dJ0_length_8abf5_4 ?_
  refine lv_aload_n C.1 C.2.1 dJ0_length_8abf5_5 rfl (lv_at hl 0 rfl) ?_
  refine callVIS C hK hQ hA hP hD hS [] (c_J0o hj) cv_J0o kw2_39 (vk_recv hQ.1 hj hS) rfl rfl rfl ⟨Nat.le_of_ble_eq_true rfl, Nat.le_of_ble_eq_true rfl⟩ ⟨Nat.zero_le _, Nat.zero_le _⟩ hl.1 rfl (Nat.le_of_ble_eq_true rfl) dJ0_length_8abf5_6 (fun H locs hP hD hS => ?_)
  have hP := va_Pe setL0 hP
  have hD := va_De setL0 hD
  refine lv_ishr C.1 C.2.1 dJ0_length_8abf5_9 ?_
  exact retI (v := sLn j) C hr hlk hP hD hS dJ0_length_8abf5_10
def rm_J0c : Room := { frames := 3, cells := 0, slots := 0, locals := 64 }
theorem cv_J0c : CV yJ0_charAt_5068e cJ0_charAt_5068e 2 (some .char) rm_J0c RJ0 1 := ⟨kw2_46, kw2_47, kw1_9, kw2_48, by decide +kernel, rfl, rfl⟩
set_option maxRecDepth 100000 in
theorem c_J0c {j : Nat} (hj : j < 6) {x : Int32} (h0 : ¬ x < 0) (h1 : x < Int32.ofNat (sLen.getD j 0)) (h2 : vp_in x (sLen.getD j 0)) : MIS l yJ0_charAt_5068e cJ0_charAt_5068e 2 .char rm_J0c D T adK adV [.ref (adK j), .int x] [] [] (sCh j x) := by
  refine MIS_of (by decide +kernel) (Nat.le_of_ble_eq_true rfl) (fun p e s m args below meth c A ls C hr hlk hK hQ hA hP hD hS hl => ?_)
  have C : CX p m c cJ0_charAt_5068e 2 s args RJ0 := C
  have hl : lv_has ls 2 [(0, .ref (adK j)), (1, .int x)] := hl
  refine lv_aload_n C.1 C.2.1 dJ0_charAt_5068e_0 rfl (lv_at hl 0 rfl) ?_
  refine callVIS C hK hQ hA hP hD hS [] (c_J0i hj) cv_J0i kw2_49 (vk_recv hQ.1 hj hS) rfl rfl rfl ⟨Nat.le_of_ble_eq_true rfl, Nat.le_of_ble_eq_true rfl⟩ ⟨Nat.zero_le _, Nat.zero_le _⟩ hl.1 rfl (Nat.le_of_ble_eq_true rfl) dJ0_charAt_5068e_1 (fun H locs hP hD hS => ?_)
  have hP := va_Pe setL0 hP
  have hD := va_De setL0 hD
  refine lv_if_eq (tgt := 16) C.1 C.2.1 dJ0_charAt_5068e_4 (by decide) (fun c1 => absurd c1 (by decide)) (fun c1 => ?_)
  refine lv_aload_n C.1 C.2.1 dJ0_charAt_5068e_7 rfl (lv_at hl 0 rfl) ?_
  refine vk_getf C.1 C.2.1 (hQ.1.1 j hj).2.2.1 hS C.2.2.2.1 (C.2.2.2.2 _ kw5_178) (fun _ h => h) dJ0_charAt_5068e_8 ?_
  refine lv_iload_n C.1 C.2.1 dJ0_charAt_5068e_11 rfl (lv_at hl 1 rfl) ?_
  refine callSIS C hK hQ hA hP hD hS (c_J1c hj h0 h1 h2) cs_J1c kw2_53 ⟨Nat.le_of_ble_eq_true rfl, Nat.le_of_ble_eq_true rfl⟩ ⟨Nat.zero_le _, Nat.zero_le _⟩ hl.1 rfl (Nat.le_of_ble_eq_true rfl) dJ0_charAt_5068e_12 (fun H locs hP hD hS => ?_)
  exact retZ C hr hlk (pk_nc _) hP hD hS dJ0_charAt_5068e_15
end
