def rm_X7_isRotor : Room := { frames := 1, cells := 0, slots := 0, locals := 25 }
theorem cv_X7_isRotor : CV yX7_isRotor cX7_isRotor 2 (some .boolean) rm_X7_isRotor RX7 1 := ⟨kw4_179, kwp_42, kw1_8, kw4_180, by decide +kernel, rfl, rfl⟩
set_option maxHeartbeats 4000000 in
set_option maxRecDepth 100000 in
theorem c_X7_isRotor {l : Launch} {D : va_G} {cI cB cZ cR cM cS : ClassId} {a_this : Nat} {a_st : Nat} {a_now : Nat} {a_isKept : Nat} {a_draft : Nat} {a_tape : Nat} {a_wereAt : Nat} {a_byPlace : Nat} {a_lanes : Nat} {a_sizes : Nat} {a_cells : Nat} {a_before : Nat} {v_hasSigns : Int32} {v_hasEvery : Int32} {v_taped : Int32} {v_pos : Int32} {v_begun : Int32} {v_sort : Int32} {v_value : Int32} {v_fault : Int32} {v_wrongAt : Int32} {v_moved : Int32} {v_slipTicks : Int32} {v_bestCode : Int32} {v_bestMuch : Int32} {v_straightSum : Int64} {v_movedSum : Int64} {v_allWays : Int64} {v_torn : Int32} {v_st : Nat → Int32} {x1 : Int32} {res : Int32} (hF : F_X7_isRotor v_st x1 = some res) : MI l yX7_isRotor cX7_isRotor 2 .boolean rm_X7_isRotor D (TS cI cB cZ cR cM cS) [.ref a_this, .int x1] [(a_this, .inr (7, [.ref a_st, .ref a_now, .ref a_isKept, .ref a_draft, .int v_hasSigns, .int v_hasEvery, .ref a_tape, .int v_taped, .int v_pos, .int v_begun, .int v_sort, .int v_value, .int v_fault, .int v_wrongAt, .int v_moved, .int v_slipTicks, .int v_bestCode, .int v_bestMuch, .long v_straightSum, .long v_movedSum, .long v_allWays, .ref a_wereAt, .ref a_byPlace, .ref a_lanes, .ref a_sizes, .ref a_cells, .int v_torn, .ref a_before])), (a_st, .inl (cI, 168, .inl v_st))] [(a_this, .inr (7, [.ref a_st, .ref a_now, .ref a_isKept, .ref a_draft, .int v_hasSigns, .int v_hasEvery, .ref a_tape, .int v_taped, .int v_pos, .int v_begun, .int v_sort, .int v_value, .int v_fault, .int v_wrongAt, .int v_moved, .int v_slipTicks, .int v_bestCode, .int v_bestMuch, .long v_straightSum, .long v_movedSum, .long v_allWays, .ref a_wereAt, .ref a_byPlace, .ref a_lanes, .ref a_sizes, .ref a_cells, .int v_torn, .ref a_before])), (a_st, .inl (cI, 168, .inl v_st))] res :=
  MI_of (by decide) (Nat.le_of_ble_eq_true rfl) (fun p e s m args below meth c A ls C hr hlk hK hA hP hD hS hl => by
    have C : CX p m c cX7_isRotor 2 s args RX7 := C
    have hl : lv_has ls 2 [(0, .ref a_this), (1, .int x1)] := hl
    unfold F_X7_isRotor at hF
    refine lv_iload_n C.1 C.2.1 dX7_isRotor_0 rfl (lv_at hl 1 rfl) ?_
    refine lv_i2l (v := x1.toInt64) C.1 C.2.1 dX7_isRotor_1 rfl ?_
    refine lv_lconst (v := 0) C.1 C.2.1 dX7_isRotor_2 rfl ?_
    refine lv_aload_n C.1 C.2.1 dX7_isRotor_3 rfl (lv_at hl 0 rfl) ?_
    refine gf_7_7_st C hK hP 0 rfl rfl dX7_isRotor_4 ?_
    refine lv_bipush (v := 36) C.1 C.2.1 dX7_isRotor_7 (by decide) ?_
    obtain ⟨h1, hF⟩ := fk hF
    refine va_iald C.1 C.2.1 hK.1 hP 1 0 rfl rfl h1 dX7_isRotor_9 ?_
    refine lv_iconst (v := 1) C.1 C.2.1 dX7_isRotor_10 (by decide) ?_
    refine lv_isub C.1 C.2.1 dX7_isRotor_11 ?_
    refine lv_i2l (v := ((v_st (36 : Int32).toNatClampNeg) - (1 : Int32)).toInt64) C.1 C.2.1 dX7_isRotor_12 rfl ?_
    obtain ⟨r2, h3, hF⟩ := fb hF
    refine callSI C hK hA hP hD hS (c_X7_in  h3) cs_X7_in kw4_76 ⟨Nat.le_of_ble_eq_true rfl, Nat.le_of_ble_eq_true rfl⟩ ⟨Nat.zero_le _, Nat.zero_le _⟩ hl.1 rfl (Nat.le_of_ble_eq_true rfl) dX7_isRotor_13 (fun H locs hP hD hS => ?_)
    obtain ⟨h4, hF⟩ := fk hF
    have hF := Option.some.inj hF
    subst hF
    exact retZ C hr hlk (narZ h4) hP hD hS dX7_isRotor_16)
def rm_X7_isSign : Room := { frames := 1, cells := 0, slots := 0, locals := 25 }
theorem cv_X7_isSign : CV yX7_isSign cX7_isSign 2 (some .boolean) rm_X7_isSign RX7 1 := ⟨kw4_187, kwp_43, kw1_8, kw4_188, by decide +kernel, rfl, rfl⟩
set_option maxHeartbeats 4000000 in
set_option maxRecDepth 100000 in
theorem c_X7_isSign {l : Launch} {D : va_G} {cI cB cZ cR cM cS : ClassId} {a_this : Nat} {a_st : Nat} {a_now : Nat} {a_isKept : Nat} {a_draft : Nat} {a_tape : Nat} {a_wereAt : Nat} {a_byPlace : Nat} {a_lanes : Nat} {a_sizes : Nat} {a_cells : Nat} {a_before : Nat} {v_hasSigns : Int32} {v_hasEvery : Int32} {v_taped : Int32} {v_pos : Int32} {v_begun : Int32} {v_sort : Int32} {v_value : Int32} {v_fault : Int32} {v_wrongAt : Int32} {v_moved : Int32} {v_slipTicks : Int32} {v_bestCode : Int32} {v_bestMuch : Int32} {v_straightSum : Int64} {v_movedSum : Int64} {v_allWays : Int64} {v_torn : Int32} {v_st : Nat → Int32} {x1 : Int32} {res : Int32} (hF : F_X7_isSign v_st x1 = some res) : MI l yX7_isSign cX7_isSign 2 .boolean rm_X7_isSign D (TS cI cB cZ cR cM cS) [.ref a_this, .int x1] [(a_this, .inr (7, [.ref a_st, .ref a_now, .ref a_isKept, .ref a_draft, .int v_hasSigns, .int v_hasEvery, .ref a_tape, .int v_taped, .int v_pos, .int v_begun, .int v_sort, .int v_value, .int v_fault, .int v_wrongAt, .int v_moved, .int v_slipTicks, .int v_bestCode, .int v_bestMuch, .long v_straightSum, .long v_movedSum, .long v_allWays, .ref a_wereAt, .ref a_byPlace, .ref a_lanes, .ref a_sizes, .ref a_cells, .int v_torn, .ref a_before])), (a_st, .inl (cI, 168, .inl v_st))] [(a_this, .inr (7, [.ref a_st, .ref a_now, .ref a_isKept, .ref a_draft, .int v_hasSigns, .int v_hasEvery, .ref a_tape, .int v_taped, .int v_pos, .int v_begun, .int v_sort, .int v_value, .int v_fault, .int v_wrongAt, .int v_moved, .int v_slipTicks, .int v_bestCode, .int v_bestMuch, .long v_straightSum, .long v_movedSum, .long v_allWays, .ref a_wereAt, .ref a_byPlace, .ref a_lanes, .ref a_sizes, .ref a_cells, .int v_torn, .ref a_before])), (a_st, .inl (cI, 168, .inl v_st))] res :=
  MI_of (by decide) (Nat.le_of_ble_eq_true rfl) (fun p e s m args below meth c A ls C hr hlk hK hA hP hD hS hl => by
    have C : CX p m c cX7_isSign 2 s args RX7 := C
    have hl : lv_has ls 2 [(0, .ref a_this), (1, .int x1)] := hl
    unfold F_X7_isSign at hF
    refine lv_iload_n C.1 C.2.1 dX7_isSign_0 rfl (lv_at hl 1 rfl) ?_
    refine lv_i2l (v := x1.toInt64) C.1 C.2.1 dX7_isSign_1 rfl ?_
    refine lv_lconst (v := 0) C.1 C.2.1 dX7_isSign_2 rfl ?_
    refine lv_aload_n C.1 C.2.1 dX7_isSign_3 rfl (lv_at hl 0 rfl) ?_
    refine gf_7_7_st C hK hP 0 rfl rfl dX7_isSign_4 ?_
    refine lv_bipush (v := 17) C.1 C.2.1 dX7_isSign_7 (by decide) ?_
    obtain ⟨h1, hF⟩ := fk hF
    refine va_iald C.1 C.2.1 hK.1 hP 1 0 rfl rfl h1 dX7_isSign_9 ?_
    refine lv_iconst (v := 1) C.1 C.2.1 dX7_isSign_10 (by decide) ?_
    refine lv_isub C.1 C.2.1 dX7_isSign_11 ?_
    refine lv_i2l (v := ((v_st (17 : Int32).toNatClampNeg) - (1 : Int32)).toInt64) C.1 C.2.1 dX7_isSign_12 rfl ?_
    obtain ⟨r2, h3, hF⟩ := fb hF
    refine callSI C hK hA hP hD hS (c_X7_in  h3) cs_X7_in kw4_76 ⟨Nat.le_of_ble_eq_true rfl, Nat.le_of_ble_eq_true rfl⟩ ⟨Nat.zero_le _, Nat.zero_le _⟩ hl.1 rfl (Nat.le_of_ble_eq_true rfl) dX7_isSign_13 (fun H locs hP hD hS => ?_)
    obtain ⟨h4, hF⟩ := fk hF
    have hF := Option.some.inj hF
    subst hF
    exact retZ C hr hlk (narZ h4) hP hD hS dX7_isSign_16)
def rm_X7_isPart : Room := { frames := 1, cells := 0, slots := 0, locals := 25 }
theorem cs_X7_isPart : CS yX7_isPart cX7_isPart 1 (some .boolean) rm_X7_isPart RX7 1 := ⟨kw5_29, kw1_8, kw5_30, by decide +kernel, rfl, rfl⟩
set_option maxHeartbeats 4000000 in
set_option maxRecDepth 100000 in
theorem c_X7_isPart {l : Launch} {D : va_G} {cI cB cZ cR cM cS : ClassId} {x0 : Int32} {res : Int32} (hF : F_X7_isPart x0 = some res) : MI l yX7_isPart cX7_isPart 1 .boolean rm_X7_isPart D (TS cI cB cZ cR cM cS) [.int x0] [] [] res :=
  MI_of (by decide) (Nat.le_of_ble_eq_true rfl) (fun p e s m args below meth c A ls C hr hlk hK hA hP hD hS hl => by
    have C : CX p m c cX7_isPart 1 s args RX7 := C
    have hl : lv_has ls 1 [(0, .int x0)] := hl
    unfold F_X7_isPart at hF
    refine lv_iload_n C.1 C.2.1 dX7_isPart_0 rfl (lv_at hl 0 rfl) ?_
    refine lv_i2l (v := x0.toInt64) C.1 C.2.1 dX7_isPart_1 rfl ?_
    refine lv_lconst (v := 0) C.1 C.2.1 dX7_isPart_2 rfl ?_
    refine lv_lconst (v := 1) C.1 C.2.1 dX7_isPart_3 rfl ?_
    obtain ⟨r1, h2, hF⟩ := fb hF
    refine callSI C hK hA hP hD hS (c_X7_in  h2) cs_X7_in kw4_76 ⟨Nat.le_of_ble_eq_true rfl, Nat.le_of_ble_eq_true rfl⟩ ⟨Nat.zero_le _, Nat.zero_le _⟩ hl.1 rfl (Nat.le_of_ble_eq_true rfl) dX7_isPart_4 (fun H locs hP hD hS => ?_)
    obtain ⟨h3, hF⟩ := fk hF
    have hF := Option.some.inj hF
    subst hF
    exact retZ C hr hlk (narZ h3) hP hD hS dX7_isPart_7)
def rm_X7_takesAll : Room := { frames := 0, cells := 0, slots := 0, locals := 0 }
theorem cv_X7_takesAll : CV yX7_takesAll cX7_takesAll 2 none rm_X7_takesAll RX7 0 := ⟨kw4_137, kwp_35, kw1_8, kw4_138, by decide +kernel, rfl, rfl⟩
set_option maxHeartbeats 4000000 in
set_option maxRecDepth 100000 in
theorem b_X7_takesAll_2 {l : Launch} {D : va_G} {cI cB cZ cR cM cS : ClassId} {a_this : Nat} {a_st : Nat} {a_now : Nat} {a_isKept : Nat} {a_draft : Nat} {a_tape : Nat} {a_wereAt : Nat} {a_byPlace : Nat} {a_lanes : Nat} {a_sizes : Nat} {a_cells : Nat} {a_before : Nat} {v_hasSigns : Int32} {v_hasEvery : Int32} {v_taped : Int32} {v_pos : Int32} {v_begun : Int32} {v_sort : Int32} {v_value : Int32} {v_fault : Int32} {v_wrongAt : Int32} {v_bestCode : Int32} {v_bestMuch : Int32} {v_straightSum : Int64} {v_movedSum : Int64} {v_allWays : Int64} {v_torn : Int32} {p : Program} {e : Env} {s : State} {m : MethodId} {args : Array Value} {below : List Frame} {meth : Method} {c : Code} {A : Nat → Prop} {res : Int32 × Int32 × (Nat → Int32)} (C : CX p m c cX7_takesAll 2 s args RX7) (hr : meth.sig.returnType = none) (hlk : meth.locks = false) (hK : KK D (TS cI cB cZ cR cM cS) s) (hA : ∀ q, s.heap.size ≤ q → A q) : ∀ (fu : Nat) (v_moved : Int32) (v_slipTicks : Int32) (v_st : Nat → Int32) (v_now : Nat → Int32) (x1 : Int32) (H : Heap) (locs : List Loc) (ls : Array Slot), F_X7_takesAll_2 fu v_moved v_slipTicks v_st v_now x1 = some res → va_P D vwCl [(a_this, .inr (7, [.ref a_st, .ref a_now, .ref a_isKept, .ref a_draft, .int v_hasSigns, .int v_hasEvery, .ref a_tape, .int v_taped, .int v_pos, .int v_begun, .int v_sort, .int v_value, .int v_fault, .int v_wrongAt, .int v_moved, .int v_slipTicks, .int v_bestCode, .int v_bestMuch, .long v_straightSum, .long v_movedSum, .long v_allWays, .ref a_wereAt, .ref a_byPlace, .ref a_lanes, .ref a_sizes, .ref a_cells, .int v_torn, .ref a_before])), (a_st, .inl (cI, 168, .inl v_st)), (a_now, .inl (cI, 56, .inl v_now))] H → va_D A [(a_this, .inr (7, [.ref a_st, .ref a_now, .ref a_isKept, .ref a_draft, .int v_hasSigns, .int v_hasEvery, .ref a_tape, .int v_taped, .int v_pos, .int v_begun, .int v_sort, .int v_value, .int v_fault, .int v_wrongAt, .int v_moved, .int v_slipTicks, .int v_bestCode, .int v_bestMuch, .long v_straightSum, .long v_movedSum, .long v_allWays, .ref a_wereAt, .ref a_byPlace, .ref a_lanes, .ref a_sizes, .ref a_cells, .int v_torn, .ref a_before])), (a_st, .inl (cI, 168, .inl v_st)), (a_now, .inl (cI, 56, .inl v_now))] → va_S A s.heap H locs → lv_has ls 2 [(0, .ref a_this), (1, .int x1)] → W p l e rm_X7_takesAll s m args below meth c H locs 0 0 (MQ below (va_Qv (fun (_ : Unit) => True) (BW D A [(a_this, .inr (7, [.ref a_st, .ref a_now, .ref a_isKept, .ref a_draft, .int v_hasSigns, .int v_hasEvery, .ref a_tape, .int v_taped, .int v_pos, .int v_begun, .int v_sort, .int v_value, .int v_fault, .int v_wrongAt, .int res.1, .int res.2.1, .int v_bestCode, .int v_bestMuch, .long v_straightSum, .long v_movedSum, .long v_allWays, .ref a_wereAt, .ref a_byPlace, .ref a_lanes, .ref a_sizes, .ref a_cells, .int v_torn, .ref a_before])), (a_st, .inl (cI, 168, .inl v_st)), (a_now, .inl (cI, 56, .inl res.2.2))]) A) args s 0 0 A) (F0 m 2 ls []) := by
  intro fu
  induction fu with
  | zero => intro v_moved v_slipTicks v_st v_now x1 H locs ls hF; cases hF
  | succ fu ih =>
    intro v_moved v_slipTicks v_st v_now x1 H locs ls hF  hP hD hS hl
    unfold F_X7_takesAll_2 at hF
    refine lv_iload_n C.1 C.2.1 dX7_takesAll_2 rfl (lv_at hl 1 rfl) ?_
    refine lv_bipush (v := 56) C.1 C.2.1 dX7_takesAll_3 (by decide) ?_
    refine lv_icmp_ge (tgt := 26) C.1 C.2.1 dX7_takesAll_5 (by decide) (fun c1 => ?_) (fun c1 => ?_)
    · have hF := fp hF c1
      refine lv_aload_n C.1 C.2.1 dX7_takesAll_26 rfl (lv_at hl 0 rfl) ?_
      refine lv_iconst (v := 0) C.1 C.2.1 dX7_takesAll_27 (by decide) ?_
      refine pf_7_7_moved C hK hP hD hS 0 rfl rfl dX7_takesAll_28 (fun H locs hP hD hS => ?_)
      have hP : va_P D vwCl [(a_this, .inr (7, [.ref a_st, .ref a_now, .ref a_isKept, .ref a_draft, .int v_hasSigns, .int v_hasEvery, .ref a_tape, .int v_taped, .int v_pos, .int v_begun, .int v_sort, .int v_value, .int v_fault, .int v_wrongAt, .int (0 : Int32), .int v_slipTicks, .int v_bestCode, .int v_bestMuch, .long v_straightSum, .long v_movedSum, .long v_allWays, .ref a_wereAt, .ref a_byPlace, .ref a_lanes, .ref a_sizes, .ref a_cells, .int v_torn, .ref a_before])), (a_st, .inl (cI, 168, .inl v_st)), (a_now, .inl (cI, 56, .inl v_now))] H := hP
      have hD : va_D A [(a_this, .inr (7, [.ref a_st, .ref a_now, .ref a_isKept, .ref a_draft, .int v_hasSigns, .int v_hasEvery, .ref a_tape, .int v_taped, .int v_pos, .int v_begun, .int v_sort, .int v_value, .int v_fault, .int v_wrongAt, .int (0 : Int32), .int v_slipTicks, .int v_bestCode, .int v_bestMuch, .long v_straightSum, .long v_movedSum, .long v_allWays, .ref a_wereAt, .ref a_byPlace, .ref a_lanes, .ref a_sizes, .ref a_cells, .int v_torn, .ref a_before])), (a_st, .inl (cI, 168, .inl v_st)), (a_now, .inl (cI, 56, .inl v_now))] := hD
      refine lv_aload_n C.1 C.2.1 dX7_takesAll_31 rfl (lv_at hl 0 rfl) ?_
      refine lv_iconst (v := 0) C.1 C.2.1 dX7_takesAll_32 (by decide) ?_
      refine pf_7_7_slipTicks C hK hP hD hS 0 rfl rfl dX7_takesAll_33 (fun H locs hP hD hS => ?_)
      have hP : va_P D vwCl [(a_this, .inr (7, [.ref a_st, .ref a_now, .ref a_isKept, .ref a_draft, .int v_hasSigns, .int v_hasEvery, .ref a_tape, .int v_taped, .int v_pos, .int v_begun, .int v_sort, .int v_value, .int v_fault, .int v_wrongAt, .int (0 : Int32), .int (0 : Int32), .int v_bestCode, .int v_bestMuch, .long v_straightSum, .long v_movedSum, .long v_allWays, .ref a_wereAt, .ref a_byPlace, .ref a_lanes, .ref a_sizes, .ref a_cells, .int v_torn, .ref a_before])), (a_st, .inl (cI, 168, .inl v_st)), (a_now, .inl (cI, 56, .inl v_now))] H := hP
      have hD : va_D A [(a_this, .inr (7, [.ref a_st, .ref a_now, .ref a_isKept, .ref a_draft, .int v_hasSigns, .int v_hasEvery, .ref a_tape, .int v_taped, .int v_pos, .int v_begun, .int v_sort, .int v_value, .int v_fault, .int v_wrongAt, .int (0 : Int32), .int (0 : Int32), .int v_bestCode, .int v_bestMuch, .long v_straightSum, .long v_movedSum, .long v_allWays, .ref a_wereAt, .ref a_byPlace, .ref a_lanes, .ref a_sizes, .ref a_cells, .int v_torn, .ref a_before])), (a_st, .inl (cI, 168, .inl v_st)), (a_now, .inl (cI, 56, .inl v_now))] := hD
      have hF := Option.some.inj hF
      subst hF
      exact retV C hr hlk hP hD hS dX7_takesAll_36
    · have hF := fn hF c1
      refine lv_aload_n C.1 C.2.1 dX7_takesAll_8 rfl (lv_at hl 0 rfl) ?_
      refine gf_7_7_now C hK hP 0 rfl rfl dX7_takesAll_9 ?_
      refine lv_iload_n C.1 C.2.1 dX7_takesAll_12 rfl (lv_at hl 1 rfl) ?_
      refine lv_aload_n C.1 C.2.1 dX7_takesAll_13 rfl (lv_at hl 0 rfl) ?_
      refine gf_7_7_st C hK hP 0 rfl rfl dX7_takesAll_14 ?_
      refine lv_iload_n C.1 C.2.1 dX7_takesAll_17 rfl (lv_at hl 1 rfl) ?_
      obtain ⟨h2, hF⟩ := fk hF
      refine va_iald C.1 C.2.1 hK.1 hP 1 0 rfl rfl h2 dX7_takesAll_18 ?_
      obtain ⟨h3, hF⟩ := fk hF
      refine va_iast C.1 C.2.1 hK.1 hP hD hS 2 0 rfl rfl h3 dX7_takesAll_19 (fun H locs hP hD hS => ?_)
      have hP : va_P D vwCl [(a_this, .inr (7, [.ref a_st, .ref a_now, .ref a_isKept, .ref a_draft, .int v_hasSigns, .int v_hasEvery, .ref a_tape, .int v_taped, .int v_pos, .int v_begun, .int v_sort, .int v_value, .int v_fault, .int v_wrongAt, .int v_moved, .int v_slipTicks, .int v_bestCode, .int v_bestMuch, .long v_straightSum, .long v_movedSum, .long v_allWays, .ref a_wereAt, .ref a_byPlace, .ref a_lanes, .ref a_sizes, .ref a_cells, .int v_torn, .ref a_before])), (a_st, .inl (cI, 168, .inl v_st)), (a_now, .inl (cI, 56, .inl (upd v_now x1.toNatClampNeg (v_st x1.toNatClampNeg))))] H := hP
      have hD : va_D A [(a_this, .inr (7, [.ref a_st, .ref a_now, .ref a_isKept, .ref a_draft, .int v_hasSigns, .int v_hasEvery, .ref a_tape, .int v_taped, .int v_pos, .int v_begun, .int v_sort, .int v_value, .int v_fault, .int v_wrongAt, .int v_moved, .int v_slipTicks, .int v_bestCode, .int v_bestMuch, .long v_straightSum, .long v_movedSum, .long v_allWays, .ref a_wereAt, .ref a_byPlace, .ref a_lanes, .ref a_sizes, .ref a_cells, .int v_torn, .ref a_before])), (a_st, .inl (cI, 168, .inl v_st)), (a_now, .inl (cI, 56, .inl (upd v_now x1.toNatClampNeg (v_st x1.toNatClampNeg))))] := hD
      refine lv_iinc (v := x1 + 1) (lv' := [(1, .int (x1 + 1)), (0, .ref a_this)]) C.1 C.2.1 dX7_takesAll_20 hl (k := 1) rfl rfl (by decide) rfl (fun ls hl => ?_)
      refine lv_goto (tgt := 2) C.1 C.2.1 dX7_takesAll_23 (by decide) ?_
      exact ih v_moved v_slipTicks v_st (upd v_now x1.toNatClampNeg (v_st x1.toNatClampNeg)) (x1 + 1) _ _ _ hF hP hD hS (lv_sub hl [1, 0] rfl)
set_option maxHeartbeats 4000000 in
set_option maxRecDepth 100000 in
theorem c0_X7_takesAll {l : Launch} {D : va_G} {cI cB cZ cR cM cS : ClassId} {a_this : Nat} {a_st : Nat} {a_now : Nat} {a_isKept : Nat} {a_draft : Nat} {a_tape : Nat} {a_wereAt : Nat} {a_byPlace : Nat} {a_lanes : Nat} {a_sizes : Nat} {a_cells : Nat} {a_before : Nat} {v_hasSigns : Int32} {v_hasEvery : Int32} {v_taped : Int32} {v_pos : Int32} {v_begun : Int32} {v_sort : Int32} {v_value : Int32} {v_fault : Int32} {v_wrongAt : Int32} {v_moved : Int32} {v_slipTicks : Int32} {v_bestCode : Int32} {v_bestMuch : Int32} {v_straightSum : Int64} {v_movedSum : Int64} {v_allWays : Int64} {v_torn : Int32} {v_st : Nat → Int32} {v_now : Nat → Int32} {res : Int32 × Int32 × (Nat → Int32)} (hF : F_X7_takesAll v_moved v_slipTicks v_st v_now = some res) : MV l yX7_takesAll cX7_takesAll 2 rm_X7_takesAll D (TS cI cB cZ cR cM cS) [.ref a_this] [(a_this, .inr (7, [.ref a_st, .ref a_now, .ref a_isKept, .ref a_draft, .int v_hasSigns, .int v_hasEvery, .ref a_tape, .int v_taped, .int v_pos, .int v_begun, .int v_sort, .int v_value, .int v_fault, .int v_wrongAt, .int v_moved, .int v_slipTicks, .int v_bestCode, .int v_bestMuch, .long v_straightSum, .long v_movedSum, .long v_allWays, .ref a_wereAt, .ref a_byPlace, .ref a_lanes, .ref a_sizes, .ref a_cells, .int v_torn, .ref a_before])), (a_st, .inl (cI, 168, .inl v_st)), (a_now, .inl (cI, 56, .inl v_now))] [(a_this, .inr (7, [.ref a_st, .ref a_now, .ref a_isKept, .ref a_draft, .int v_hasSigns, .int v_hasEvery, .ref a_tape, .int v_taped, .int v_pos, .int v_begun, .int v_sort, .int v_value, .int v_fault, .int v_wrongAt, .int res.1, .int res.2.1, .int v_bestCode, .int v_bestMuch, .long v_straightSum, .long v_movedSum, .long v_allWays, .ref a_wereAt, .ref a_byPlace, .ref a_lanes, .ref a_sizes, .ref a_cells, .int v_torn, .ref a_before])), (a_st, .inl (cI, 168, .inl v_st)), (a_now, .inl (cI, 56, .inl res.2.2))] :=
  MV_of (by decide) (Nat.le_of_ble_eq_true rfl) (fun p e s m args below meth c A ls C hr hlk hK hA hP hD hS hl => by
    have C : CX p m c cX7_takesAll 2 s args RX7 := C
    have hl : lv_has ls 2 [(0, .ref a_this)] := hl
    unfold F_X7_takesAll at hF
    refine lv_iconst (v := 0) C.1 C.2.1 dX7_takesAll_0 (by decide) ?_
    refine lv_istore_n (lv' := [(1, .int (0 : Int32)), (0, .ref a_this)]) C.1 C.2.1 dX7_takesAll_1 rfl hl (by decide) rfl (fun ls hl => ?_)
    exact b_X7_takesAll_2 C hr hlk hK hA FU v_moved v_slipTicks v_st v_now (0 : Int32) _ _ _ hF hP hD hS (lv_sub hl [1, 0] rfl))
theorem c_X7_takesAll {l : Launch} {D : va_G} {cI cB cZ cR cM cS : ClassId} {a_this : Nat} {a_st : Nat} {a_now : Nat} {a_isKept : Nat} {a_draft : Nat} {a_tape : Nat} {a_wereAt : Nat} {a_byPlace : Nat} {a_lanes : Nat} {a_sizes : Nat} {a_cells : Nat} {a_before : Nat} {v_hasSigns : Int32} {v_hasEvery : Int32} {v_taped : Int32} {v_pos : Int32} {v_begun : Int32} {v_sort : Int32} {v_value : Int32} {v_fault : Int32} {v_wrongAt : Int32} {v_moved : Int32} {v_slipTicks : Int32} {v_bestCode : Int32} {v_bestMuch : Int32} {v_straightSum : Int64} {v_movedSum : Int64} {v_allWays : Int64} {v_torn : Int32} {v_st : Nat → Int32} {v_now : Nat → Int32} {v_moved' : Int32} {v_slipTicks' : Int32} {v_now' : Nat → Int32} (hF : F_X7_takesAll v_moved v_slipTicks v_st v_now = some (v_moved', v_slipTicks', v_now')) : MV l yX7_takesAll cX7_takesAll 2 rm_X7_takesAll D (TS cI cB cZ cR cM cS) [.ref a_this] [(a_this, .inr (7, [.ref a_st, .ref a_now, .ref a_isKept, .ref a_draft, .int v_hasSigns, .int v_hasEvery, .ref a_tape, .int v_taped, .int v_pos, .int v_begun, .int v_sort, .int v_value, .int v_fault, .int v_wrongAt, .int v_moved, .int v_slipTicks, .int v_bestCode, .int v_bestMuch, .long v_straightSum, .long v_movedSum, .long v_allWays, .ref a_wereAt, .ref a_byPlace, .ref a_lanes, .ref a_sizes, .ref a_cells, .int v_torn, .ref a_before])), (a_st, .inl (cI, 168, .inl v_st)), (a_now, .inl (cI, 56, .inl v_now))] [(a_this, .inr (7, [.ref a_st, .ref a_now, .ref a_isKept, .ref a_draft, .int v_hasSigns, .int v_hasEvery, .ref a_tape, .int v_taped, .int v_pos, .int v_begun, .int v_sort, .int v_value, .int v_fault, .int v_wrongAt, .int v_moved', .int v_slipTicks', .int v_bestCode, .int v_bestMuch, .long v_straightSum, .long v_movedSum, .long v_allWays, .ref a_wereAt, .ref a_byPlace, .ref a_lanes, .ref a_sizes, .ref a_cells, .int v_torn, .ref a_before])), (a_st, .inl (cI, 168, .inl v_st)), (a_now, .inl (cI, 56, .inl v_now'))] :=
  c0_X7_takesAll (res := (v_moved', v_slipTicks', v_now')) hF
def rm_X7_settles : Room := { frames := 0, cells := 0, slots := 0, locals := 0 }
theorem cv_X7_settles : CV yX7_settles cX7_settles 2 none rm_X7_settles RX7 0 := ⟨kw5_14, kwp_51, kw1_8, kw5_15, by decide +kernel, rfl, rfl⟩
set_option maxHeartbeats 4000000 in
set_option maxRecDepth 100000 in
theorem b_X7_settles_2 {l : Launch} {D : va_G} {cI cB cZ cR cM cS : ClassId} {a_this : Nat} {a_st : Nat} {a_now : Nat} {a_isKept : Nat} {a_draft : Nat} {a_tape : Nat} {a_wereAt : Nat} {a_byPlace : Nat} {a_lanes : Nat} {a_sizes : Nat} {a_cells : Nat} {a_before : Nat} {v_hasSigns : Int32} {v_hasEvery : Int32} {v_taped : Int32} {v_pos : Int32} {v_begun : Int32} {v_sort : Int32} {v_value : Int32} {v_fault : Int32} {v_wrongAt : Int32} {v_moved : Int32} {v_slipTicks : Int32} {v_bestCode : Int32} {v_bestMuch : Int32} {v_straightSum : Int64} {v_movedSum : Int64} {v_allWays : Int64} {v_torn : Int32} {p : Program} {e : Env} {s : State} {m : MethodId} {args : Array Value} {below : List Frame} {meth : Method} {c : Code} {A : Nat → Prop} {res : (Nat → Int32)} (C : CX p m c cX7_settles 2 s args RX7) (hr : meth.sig.returnType = none) (hlk : meth.locks = false) (hK : KK D (TS cI cB cZ cR cM cS) s) (hA : ∀ q, s.heap.size ≤ q → A q) : ∀ (fu : Nat) (v_st : Nat → Int32) (v_now : Nat → Int32) (x1 : Int32) (H : Heap) (locs : List Loc) (ls : Array Slot), F_X7_settles_2 fu v_st v_now x1 = some res → va_P D vwCl [(a_this, .inr (7, [.ref a_st, .ref a_now, .ref a_isKept, .ref a_draft, .int v_hasSigns, .int v_hasEvery, .ref a_tape, .int v_taped, .int v_pos, .int v_begun, .int v_sort, .int v_value, .int v_fault, .int v_wrongAt, .int v_moved, .int v_slipTicks, .int v_bestCode, .int v_bestMuch, .long v_straightSum, .long v_movedSum, .long v_allWays, .ref a_wereAt, .ref a_byPlace, .ref a_lanes, .ref a_sizes, .ref a_cells, .int v_torn, .ref a_before])), (a_st, .inl (cI, 168, .inl v_st)), (a_now, .inl (cI, 56, .inl v_now))] H → va_D A [(a_this, .inr (7, [.ref a_st, .ref a_now, .ref a_isKept, .ref a_draft, .int v_hasSigns, .int v_hasEvery, .ref a_tape, .int v_taped, .int v_pos, .int v_begun, .int v_sort, .int v_value, .int v_fault, .int v_wrongAt, .int v_moved, .int v_slipTicks, .int v_bestCode, .int v_bestMuch, .long v_straightSum, .long v_movedSum, .long v_allWays, .ref a_wereAt, .ref a_byPlace, .ref a_lanes, .ref a_sizes, .ref a_cells, .int v_torn, .ref a_before])), (a_st, .inl (cI, 168, .inl v_st)), (a_now, .inl (cI, 56, .inl v_now))] → va_S A s.heap H locs → lv_has ls 2 [(0, .ref a_this), (1, .int x1)] → W p l e rm_X7_settles s m args below meth c H locs 0 0 (MQ below (va_Qv (fun (_ : Unit) => True) (BW D A [(a_this, .inr (7, [.ref a_st, .ref a_now, .ref a_isKept, .ref a_draft, .int v_hasSigns, .int v_hasEvery, .ref a_tape, .int v_taped, .int v_pos, .int v_begun, .int v_sort, .int v_value, .int v_fault, .int v_wrongAt, .int v_moved, .int v_slipTicks, .int v_bestCode, .int v_bestMuch, .long v_straightSum, .long v_movedSum, .long v_allWays, .ref a_wereAt, .ref a_byPlace, .ref a_lanes, .ref a_sizes, .ref a_cells, .int v_torn, .ref a_before])), (a_st, .inl (cI, 168, .inl res)), (a_now, .inl (cI, 56, .inl v_now))]) A) args s 0 0 A) (F0 m 2 ls []) := by
  intro fu
  induction fu with
  | zero => intro v_st v_now x1 H locs ls hF; cases hF
  | succ fu ih =>
    intro v_st v_now x1 H locs ls hF  hP hD hS hl
    unfold F_X7_settles_2 at hF
    refine lv_iload_n C.1 C.2.1 dX7_settles_2 rfl (lv_at hl 1 rfl) ?_
    refine lv_bipush (v := 56) C.1 C.2.1 dX7_settles_3 (by decide) ?_
    refine lv_icmp_ge (tgt := 26) C.1 C.2.1 dX7_settles_5 (by decide) (fun c1 => ?_) (fun c1 => ?_)
    · have hF := fp hF c1
      have hF := Option.some.inj hF
      subst hF
      exact retV C hr hlk hP hD hS dX7_settles_26
    · have hF := fn hF c1
      refine lv_aload_n C.1 C.2.1 dX7_settles_8 rfl (lv_at hl 0 rfl) ?_
      refine gf_7_7_st C hK hP 0 rfl rfl dX7_settles_9 ?_
      refine lv_iload_n C.1 C.2.1 dX7_settles_12 rfl (lv_at hl 1 rfl) ?_
      refine lv_aload_n C.1 C.2.1 dX7_settles_13 rfl (lv_at hl 0 rfl) ?_
      refine gf_7_7_now C hK hP 0 rfl rfl dX7_settles_14 ?_
      refine lv_iload_n C.1 C.2.1 dX7_settles_17 rfl (lv_at hl 1 rfl) ?_
      obtain ⟨h2, hF⟩ := fk hF
      refine va_iald C.1 C.2.1 hK.1 hP 2 0 rfl rfl h2 dX7_settles_18 ?_
      obtain ⟨h3, hF⟩ := fk hF
      refine va_iast C.1 C.2.1 hK.1 hP hD hS 1 0 rfl rfl h3 dX7_settles_19 (fun H locs hP hD hS => ?_)
      have hP : va_P D vwCl [(a_this, .inr (7, [.ref a_st, .ref a_now, .ref a_isKept, .ref a_draft, .int v_hasSigns, .int v_hasEvery, .ref a_tape, .int v_taped, .int v_pos, .int v_begun, .int v_sort, .int v_value, .int v_fault, .int v_wrongAt, .int v_moved, .int v_slipTicks, .int v_bestCode, .int v_bestMuch, .long v_straightSum, .long v_movedSum, .long v_allWays, .ref a_wereAt, .ref a_byPlace, .ref a_lanes, .ref a_sizes, .ref a_cells, .int v_torn, .ref a_before])), (a_st, .inl (cI, 168, .inl (upd v_st x1.toNatClampNeg (v_now x1.toNatClampNeg)))), (a_now, .inl (cI, 56, .inl v_now))] H := hP
      have hD : va_D A [(a_this, .inr (7, [.ref a_st, .ref a_now, .ref a_isKept, .ref a_draft, .int v_hasSigns, .int v_hasEvery, .ref a_tape, .int v_taped, .int v_pos, .int v_begun, .int v_sort, .int v_value, .int v_fault, .int v_wrongAt, .int v_moved, .int v_slipTicks, .int v_bestCode, .int v_bestMuch, .long v_straightSum, .long v_movedSum, .long v_allWays, .ref a_wereAt, .ref a_byPlace, .ref a_lanes, .ref a_sizes, .ref a_cells, .int v_torn, .ref a_before])), (a_st, .inl (cI, 168, .inl (upd v_st x1.toNatClampNeg (v_now x1.toNatClampNeg)))), (a_now, .inl (cI, 56, .inl v_now))] := hD
      refine lv_iinc (v := x1 + 1) (lv' := [(1, .int (x1 + 1)), (0, .ref a_this)]) C.1 C.2.1 dX7_settles_20 hl (k := 1) rfl rfl (by decide) rfl (fun ls hl => ?_)
      refine lv_goto (tgt := 2) C.1 C.2.1 dX7_settles_23 (by decide) ?_
      exact ih (upd v_st x1.toNatClampNeg (v_now x1.toNatClampNeg)) v_now (x1 + 1) _ _ _ hF hP hD hS (lv_sub hl [1, 0] rfl)
set_option maxHeartbeats 4000000 in
set_option maxRecDepth 100000 in
theorem c_X7_settles {l : Launch} {D : va_G} {cI cB cZ cR cM cS : ClassId} {a_this : Nat} {a_st : Nat} {a_now : Nat} {a_isKept : Nat} {a_draft : Nat} {a_tape : Nat} {a_wereAt : Nat} {a_byPlace : Nat} {a_lanes : Nat} {a_sizes : Nat} {a_cells : Nat} {a_before : Nat} {v_hasSigns : Int32} {v_hasEvery : Int32} {v_taped : Int32} {v_pos : Int32} {v_begun : Int32} {v_sort : Int32} {v_value : Int32} {v_fault : Int32} {v_wrongAt : Int32} {v_moved : Int32} {v_slipTicks : Int32} {v_bestCode : Int32} {v_bestMuch : Int32} {v_straightSum : Int64} {v_movedSum : Int64} {v_allWays : Int64} {v_torn : Int32} {v_st : Nat → Int32} {v_now : Nat → Int32} {res : (Nat → Int32)} (hF : F_X7_settles v_st v_now = some res) : MV l yX7_settles cX7_settles 2 rm_X7_settles D (TS cI cB cZ cR cM cS) [.ref a_this] [(a_this, .inr (7, [.ref a_st, .ref a_now, .ref a_isKept, .ref a_draft, .int v_hasSigns, .int v_hasEvery, .ref a_tape, .int v_taped, .int v_pos, .int v_begun, .int v_sort, .int v_value, .int v_fault, .int v_wrongAt, .int v_moved, .int v_slipTicks, .int v_bestCode, .int v_bestMuch, .long v_straightSum, .long v_movedSum, .long v_allWays, .ref a_wereAt, .ref a_byPlace, .ref a_lanes, .ref a_sizes, .ref a_cells, .int v_torn, .ref a_before])), (a_st, .inl (cI, 168, .inl v_st)), (a_now, .inl (cI, 56, .inl v_now))] [(a_this, .inr (7, [.ref a_st, .ref a_now, .ref a_isKept, .ref a_draft, .int v_hasSigns, .int v_hasEvery, .ref a_tape, .int v_taped, .int v_pos, .int v_begun, .int v_sort, .int v_value, .int v_fault, .int v_wrongAt, .int v_moved, .int v_slipTicks, .int v_bestCode, .int v_bestMuch, .long v_straightSum, .long v_movedSum, .long v_allWays, .ref a_wereAt, .ref a_byPlace, .ref a_lanes, .ref a_sizes, .ref a_cells, .int v_torn, .ref a_before])), (a_st, .inl (cI, 168, .inl res)), (a_now, .inl (cI, 56, .inl v_now))] :=
  MV_of (by decide) (Nat.le_of_ble_eq_true rfl) (fun p e s m args below meth c A ls C hr hlk hK hA hP hD hS hl => by
    have C : CX p m c cX7_settles 2 s args RX7 := C
    have hl : lv_has ls 2 [(0, .ref a_this)] := hl
    unfold F_X7_settles at hF
    refine lv_iconst (v := 0) C.1 C.2.1 dX7_settles_0 (by decide) ?_
    refine lv_istore_n (lv' := [(1, .int (0 : Int32)), (0, .ref a_this)]) C.1 C.2.1 dX7_settles_1 rfl hl (by decide) rfl (fun ls hl => ?_)
    exact b_X7_settles_2 C hr hlk hK hA FU v_st v_now (0 : Int32) _ _ _ hF hP hD hS (lv_sub hl [1, 0] rfl))
def rm_X7_of : Room := { frames := 0, cells := 0, slots := 0, locals := 0 }
theorem cv_X7_of : CV yX7_of cX7_of 3 (some .int) rm_X7_of RX7 2 := ⟨kw4_154, kwp_39, kw1_8, kw4_155, by decide +kernel, rfl, rfl⟩
set_option maxHeartbeats 4000000 in
set_option maxRecDepth 100000 in
theorem c_X7_of {l : Launch} {D : va_G} {cI cB cZ cR cM cS : ClassId} {a_this : Nat} {a_st : Nat} {a_now : Nat} {a_isKept : Nat} {a_draft : Nat} {a_tape : Nat} {a_wereAt : Nat} {a_byPlace : Nat} {a_lanes : Nat} {a_sizes : Nat} {a_cells : Nat} {a_before : Nat} {v_hasSigns : Int32} {v_hasEvery : Int32} {v_taped : Int32} {v_pos : Int32} {v_begun : Int32} {v_sort : Int32} {v_value : Int32} {v_fault : Int32} {v_wrongAt : Int32} {v_moved : Int32} {v_slipTicks : Int32} {v_bestCode : Int32} {v_bestMuch : Int32} {v_straightSum : Int64} {v_movedSum : Int64} {v_allWays : Int64} {v_torn : Int32} {v_now : Nat → Int32} {x1 : Int32} {x2 : Int32} {res : Int32} (hF : F_X7_of v_now x1 x2 = some res) : MI l yX7_of cX7_of 3 .int rm_X7_of D (TS cI cB cZ cR cM cS) [.ref a_this, .int x1, .int x2] [(a_this, .inr (7, [.ref a_st, .ref a_now, .ref a_isKept, .ref a_draft, .int v_hasSigns, .int v_hasEvery, .ref a_tape, .int v_taped, .int v_pos, .int v_begun, .int v_sort, .int v_value, .int v_fault, .int v_wrongAt, .int v_moved, .int v_slipTicks, .int v_bestCode, .int v_bestMuch, .long v_straightSum, .long v_movedSum, .long v_allWays, .ref a_wereAt, .ref a_byPlace, .ref a_lanes, .ref a_sizes, .ref a_cells, .int v_torn, .ref a_before])), (a_now, .inl (cI, 56, .inl v_now))] [(a_this, .inr (7, [.ref a_st, .ref a_now, .ref a_isKept, .ref a_draft, .int v_hasSigns, .int v_hasEvery, .ref a_tape, .int v_taped, .int v_pos, .int v_begun, .int v_sort, .int v_value, .int v_fault, .int v_wrongAt, .int v_moved, .int v_slipTicks, .int v_bestCode, .int v_bestMuch, .long v_straightSum, .long v_movedSum, .long v_allWays, .ref a_wereAt, .ref a_byPlace, .ref a_lanes, .ref a_sizes, .ref a_cells, .int v_torn, .ref a_before])), (a_now, .inl (cI, 56, .inl v_now))] res :=
  MI_of (by decide) (Nat.le_of_ble_eq_true rfl) (fun p e s m args below meth c A ls C hr hlk hK hA hP hD hS hl => by
    have C : CX p m c cX7_of 3 s args RX7 := C
    have hl : lv_has ls 3 [(0, .ref a_this), (1, .int x1), (2, .int x2)] := hl
    unfold F_X7_of at hF
    refine lv_aload_n C.1 C.2.1 dX7_of_0 rfl (lv_at hl 0 rfl) ?_
    refine gf_7_7_now C hK hP 0 rfl rfl dX7_of_1 ?_
    refine lv_bipush (v := 20) C.1 C.2.1 dX7_of_4 (by decide) ?_
    refine lv_iconst (v := 4) C.1 C.2.1 dX7_of_6 (by decide) ?_
    refine lv_iload_n C.1 C.2.1 dX7_of_7 rfl (lv_at hl 1 rfl) ?_
    refine lv_imul C.1 C.2.1 dX7_of_8 ?_
    refine lv_iadd C.1 C.2.1 dX7_of_9 ?_
    refine lv_iload_n C.1 C.2.1 dX7_of_10 rfl (lv_at hl 2 rfl) ?_
    refine lv_iadd C.1 C.2.1 dX7_of_11 ?_
    obtain ⟨h1, hF⟩ := fk hF
    refine va_iald C.1 C.2.1 hK.1 hP 1 0 rfl rfl h1 dX7_of_12 ?_
    have hF := Option.some.inj hF
    subst hF
    exact retI C hr hlk hP hD hS dX7_of_13)
def rm_X7_becomesOf : Room := { frames := 0, cells := 0, slots := 0, locals := 0 }
theorem cv_X7_becomesOf : CV yX7_becomesOf cX7_becomesOf 4 none rm_X7_becomesOf RX7 3 := ⟨kw5_2, kwp_48, kw1_8, kw5_3, by decide +kernel, rfl, rfl⟩
set_option maxHeartbeats 4000000 in
set_option maxRecDepth 100000 in
theorem c_X7_becomesOf {l : Launch} {D : va_G} {cI cB cZ cR cM cS : ClassId} {a_this : Nat} {a_st : Nat} {a_now : Nat} {a_isKept : Nat} {a_draft : Nat} {a_tape : Nat} {a_wereAt : Nat} {a_byPlace : Nat} {a_lanes : Nat} {a_sizes : Nat} {a_cells : Nat} {a_before : Nat} {v_hasSigns : Int32} {v_hasEvery : Int32} {v_taped : Int32} {v_pos : Int32} {v_begun : Int32} {v_sort : Int32} {v_value : Int32} {v_fault : Int32} {v_wrongAt : Int32} {v_moved : Int32} {v_slipTicks : Int32} {v_bestCode : Int32} {v_bestMuch : Int32} {v_straightSum : Int64} {v_movedSum : Int64} {v_allWays : Int64} {v_torn : Int32} {v_now : Nat → Int32} {x1 : Int32} {x2 : Int32} {x3 : Int32} {res : (Nat → Int32)} (hF : F_X7_becomesOf v_now x1 x2 x3 = some res) : MV l yX7_becomesOf cX7_becomesOf 4 rm_X7_becomesOf D (TS cI cB cZ cR cM cS) [.ref a_this, .int x1, .int x2, .int x3] [(a_this, .inr (7, [.ref a_st, .ref a_now, .ref a_isKept, .ref a_draft, .int v_hasSigns, .int v_hasEvery, .ref a_tape, .int v_taped, .int v_pos, .int v_begun, .int v_sort, .int v_value, .int v_fault, .int v_wrongAt, .int v_moved, .int v_slipTicks, .int v_bestCode, .int v_bestMuch, .long v_straightSum, .long v_movedSum, .long v_allWays, .ref a_wereAt, .ref a_byPlace, .ref a_lanes, .ref a_sizes, .ref a_cells, .int v_torn, .ref a_before])), (a_now, .inl (cI, 56, .inl v_now))] [(a_this, .inr (7, [.ref a_st, .ref a_now, .ref a_isKept, .ref a_draft, .int v_hasSigns, .int v_hasEvery, .ref a_tape, .int v_taped, .int v_pos, .int v_begun, .int v_sort, .int v_value, .int v_fault, .int v_wrongAt, .int v_moved, .int v_slipTicks, .int v_bestCode, .int v_bestMuch, .long v_straightSum, .long v_movedSum, .long v_allWays, .ref a_wereAt, .ref a_byPlace, .ref a_lanes, .ref a_sizes, .ref a_cells, .int v_torn, .ref a_before])), (a_now, .inl (cI, 56, .inl res))] :=
  MV_of (by decide) (Nat.le_of_ble_eq_true rfl) (fun p e s m args below meth c A ls C hr hlk hK hA hP hD hS hl => by
    have C : CX p m c cX7_becomesOf 4 s args RX7 := C
    have hl : lv_has ls 4 [(0, .ref a_this), (1, .int x1), (2, .int x2), (3, .int x3)] := hl
    unfold F_X7_becomesOf at hF
    refine lv_aload_n C.1 C.2.1 dX7_becomesOf_0 rfl (lv_at hl 0 rfl) ?_
    refine gf_7_7_now C hK hP 0 rfl rfl dX7_becomesOf_1 ?_
    refine lv_bipush (v := 20) C.1 C.2.1 dX7_becomesOf_4 (by decide) ?_
    refine lv_iconst (v := 4) C.1 C.2.1 dX7_becomesOf_6 (by decide) ?_
    refine lv_iload_n C.1 C.2.1 dX7_becomesOf_7 rfl (lv_at hl 1 rfl) ?_
    refine lv_imul C.1 C.2.1 dX7_becomesOf_8 ?_
    refine lv_iadd C.1 C.2.1 dX7_becomesOf_9 ?_
    refine lv_iload_n C.1 C.2.1 dX7_becomesOf_10 rfl (lv_at hl 2 rfl) ?_
    refine lv_iadd C.1 C.2.1 dX7_becomesOf_11 ?_
    refine lv_iload_n C.1 C.2.1 dX7_becomesOf_12 rfl (lv_at hl 3 rfl) ?_
    obtain ⟨h1, hF⟩ := fk hF
    refine va_iast C.1 C.2.1 hK.1 hP hD hS 1 0 rfl rfl h1 dX7_becomesOf_13 (fun H locs hP hD hS => ?_)
    have hP : va_P D vwCl [(a_this, .inr (7, [.ref a_st, .ref a_now, .ref a_isKept, .ref a_draft, .int v_hasSigns, .int v_hasEvery, .ref a_tape, .int v_taped, .int v_pos, .int v_begun, .int v_sort, .int v_value, .int v_fault, .int v_wrongAt, .int v_moved, .int v_slipTicks, .int v_bestCode, .int v_bestMuch, .long v_straightSum, .long v_movedSum, .long v_allWays, .ref a_wereAt, .ref a_byPlace, .ref a_lanes, .ref a_sizes, .ref a_cells, .int v_torn, .ref a_before])), (a_now, .inl (cI, 56, .inl (upd v_now (((20 : Int32) + ((4 : Int32) * x1)) + x2).toNatClampNeg x3)))] H := hP
    have hD : va_D A [(a_this, .inr (7, [.ref a_st, .ref a_now, .ref a_isKept, .ref a_draft, .int v_hasSigns, .int v_hasEvery, .ref a_tape, .int v_taped, .int v_pos, .int v_begun, .int v_sort, .int v_value, .int v_fault, .int v_wrongAt, .int v_moved, .int v_slipTicks, .int v_bestCode, .int v_bestMuch, .long v_straightSum, .long v_movedSum, .long v_allWays, .ref a_wereAt, .ref a_byPlace, .ref a_lanes, .ref a_sizes, .ref a_cells, .int v_torn, .ref a_before])), (a_now, .inl (cI, 56, .inl (upd v_now (((20 : Int32) + ((4 : Int32) * x1)) + x2).toNatClampNeg x3)))] := hD
    have hF := Option.some.inj hF
    subst hF
    exact retV C hr hlk hP hD hS dX7_becomesOf_14)
def rm_X7_off : Room := { frames := 1, cells := 0, slots := 0, locals := 22 }
theorem cv_X7_off : CV yX7_off cX7_off 3 (some .int) rm_X7_off RX7 1 := ⟨kw4_150, kwp_38, kw1_8, kw4_151, by decide +kernel, rfl, rfl⟩
set_option maxHeartbeats 4000000 in
set_option maxRecDepth 100000 in
theorem c_X7_off {l : Launch} {D : va_G} {cI cB cZ cR cM cS : ClassId} {a_this : Nat} {a_st : Nat} {a_now : Nat} {a_isKept : Nat} {a_draft : Nat} {a_tape : Nat} {a_wereAt : Nat} {a_byPlace : Nat} {a_lanes : Nat} {a_sizes : Nat} {a_cells : Nat} {a_before : Nat} {v_hasSigns : Int32} {v_hasEvery : Int32} {v_taped : Int32} {v_pos : Int32} {v_begun : Int32} {v_sort : Int32} {v_value : Int32} {v_fault : Int32} {v_wrongAt : Int32} {v_moved : Int32} {v_slipTicks : Int32} {v_bestCode : Int32} {v_bestMuch : Int32} {v_straightSum : Int64} {v_movedSum : Int64} {v_allWays : Int64} {v_torn : Int32} {v_now : Nat → Int32} {x1 : Int32} {res : Int32} (hF : F_X7_off v_now x1 = some res) : MI l yX7_off cX7_off 3 .int rm_X7_off D (TS cI cB cZ cR cM cS) [.ref a_this, .int x1] [(a_this, .inr (7, [.ref a_st, .ref a_now, .ref a_isKept, .ref a_draft, .int v_hasSigns, .int v_hasEvery, .ref a_tape, .int v_taped, .int v_pos, .int v_begun, .int v_sort, .int v_value, .int v_fault, .int v_wrongAt, .int v_moved, .int v_slipTicks, .int v_bestCode, .int v_bestMuch, .long v_straightSum, .long v_movedSum, .long v_allWays, .ref a_wereAt, .ref a_byPlace, .ref a_lanes, .ref a_sizes, .ref a_cells, .int v_torn, .ref a_before])), (a_now, .inl (cI, 56, .inl v_now))] [(a_this, .inr (7, [.ref a_st, .ref a_now, .ref a_isKept, .ref a_draft, .int v_hasSigns, .int v_hasEvery, .ref a_tape, .int v_taped, .int v_pos, .int v_begun, .int v_sort, .int v_value, .int v_fault, .int v_wrongAt, .int v_moved, .int v_slipTicks, .int v_bestCode, .int v_bestMuch, .long v_straightSum, .long v_movedSum, .long v_allWays, .ref a_wereAt, .ref a_byPlace, .ref a_lanes, .ref a_sizes, .ref a_cells, .int v_torn, .ref a_before])), (a_now, .inl (cI, 56, .inl v_now))] res :=
  MI_of (by decide) (Nat.le_of_ble_eq_true rfl) (fun p e s m args below meth c A ls C hr hlk hK hA hP hD hS hl => by
    have C : CX p m c cX7_off 3 s args RX7 := C
    have hl : lv_has ls 3 [(0, .ref a_this), (1, .int x1)] := hl
    unfold F_X7_off at hF
    refine lv_aload_n C.1 C.2.1 dX7_off_0 rfl (lv_at hl 0 rfl) ?_
    refine gf_7_7_now C hK hP 0 rfl rfl dX7_off_1 ?_
    refine lv_iconst (v := 0) C.1 C.2.1 dX7_off_4 (by decide) ?_
    obtain ⟨h1, hF⟩ := fk hF
    refine va_iald C.1 C.2.1 hK.1 hP 1 0 rfl rfl h1 dX7_off_5 ?_
    refine lv_aload_n C.1 C.2.1 dX7_off_6 rfl (lv_at hl 0 rfl) ?_
    refine lv_iload_n C.1 C.2.1 dX7_off_7 rfl (lv_at hl 1 rfl) ?_
    refine lv_iconst (v := 2) C.1 C.2.1 dX7_off_8 (by decide) ?_
    obtain ⟨r2, h3, hF⟩ := fb hF
    refine callVI C hK hA hP hD hS [0, 1] (c_X7_of (a_this := a_this) (a_st := a_st) (a_now := a_now) (a_isKept := a_isKept) (a_draft := a_draft) (a_tape := a_tape) (a_wereAt := a_wereAt) (a_byPlace := a_byPlace) (a_lanes := a_lanes) (a_sizes := a_sizes) (a_cells := a_cells) (a_before := a_before) (v_hasSigns := v_hasSigns) (v_hasEvery := v_hasEvery) (v_taped := v_taped) (v_pos := v_pos) (v_begun := v_begun) (v_sort := v_sort) (v_value := v_value) (v_fault := v_fault) (v_wrongAt := v_wrongAt) (v_moved := v_moved) (v_slipTicks := v_slipTicks) (v_bestCode := v_bestCode) (v_bestMuch := v_bestMuch) (v_straightSum := v_straightSum) (v_movedSum := v_movedSum) (v_allWays := v_allWays) (v_torn := v_torn) (v_now := v_now) h3) cv_X7_of kw4_152 rfl (by decide) rfl rfl rfl ⟨Nat.le_of_ble_eq_true rfl, Nat.le_of_ble_eq_true rfl⟩ ⟨Nat.zero_le _, Nat.zero_le _⟩ hl.1 rfl (Nat.le_of_ble_eq_true rfl) dX7_off_9 (fun H locs hP hD hS => ?_)
    have hP : va_P D vwCl [(a_this, .inr (7, [.ref a_st, .ref a_now, .ref a_isKept, .ref a_draft, .int v_hasSigns, .int v_hasEvery, .ref a_tape, .int v_taped, .int v_pos, .int v_begun, .int v_sort, .int v_value, .int v_fault, .int v_wrongAt, .int v_moved, .int v_slipTicks, .int v_bestCode, .int v_bestMuch, .long v_straightSum, .long v_movedSum, .long v_allWays, .ref a_wereAt, .ref a_byPlace, .ref a_lanes, .ref a_sizes, .ref a_cells, .int v_torn, .ref a_before])), (a_now, .inl (cI, 56, .inl v_now))] H := hP
    have hD : va_D A [(a_this, .inr (7, [.ref a_st, .ref a_now, .ref a_isKept, .ref a_draft, .int v_hasSigns, .int v_hasEvery, .ref a_tape, .int v_taped, .int v_pos, .int v_begun, .int v_sort, .int v_value, .int v_fault, .int v_wrongAt, .int v_moved, .int v_slipTicks, .int v_bestCode, .int v_bestMuch, .long v_straightSum, .long v_movedSum, .long v_allWays, .ref a_wereAt, .ref a_byPlace, .ref a_lanes, .ref a_sizes, .ref a_cells, .int v_torn, .ref a_before])), (a_now, .inl (cI, 56, .inl v_now))] := hD
    refine lv_isub C.1 C.2.1 dX7_off_12 ?_
    obtain ⟨r4, h5, hF⟩ := fb hF
    refine callSI C hK hA hP hD hS (c_X7_byEight  h5) cs_X7_byEight kw4_156 ⟨Nat.le_of_ble_eq_true rfl, Nat.le_of_ble_eq_true rfl⟩ ⟨Nat.zero_le _, Nat.zero_le _⟩ hl.1 rfl (Nat.le_of_ble_eq_true rfl) dX7_off_13 (fun H locs hP hD hS => ?_)
    refine lv_istore_n (lv' := [(2, .int r4), (0, .ref a_this), (1, .int x1)]) C.1 C.2.1 dX7_off_16 rfl hl (by decide) rfl (fun ls hl => ?_)
    refine lv_iload_n C.1 C.2.1 dX7_off_17 rfl (lv_at hl 0 rfl) ?_
    refine lv_iconst (v := 4) C.1 C.2.1 dX7_off_18 (by decide) ?_
    refine lv_icmp_le (tgt := 29) C.1 C.2.1 dX7_off_19 (by decide) (fun c6 => ?_) (fun c6 => ?_)
    · have hF := fp hF c6
      refine lv_iload_n C.1 C.2.1 dX7_off_29 rfl (lv_at hl 0 rfl) ?_
      have hF := Option.some.inj hF
      subst hF
      exact retI C hr hlk hP hD hS dX7_off_30
    · have hF := fn hF c6
      refine lv_iload_n C.1 C.2.1 dX7_off_22 rfl (lv_at hl 0 rfl) ?_
      refine lv_bipush (v := 8) C.1 C.2.1 dX7_off_23 (by decide) ?_
      refine lv_isub C.1 C.2.1 dX7_off_25 ?_
      refine lv_goto (tgt := 30) C.1 C.2.1 dX7_off_26 (by decide) ?_
      have hF := Option.some.inj hF
      subst hF
      exact retI C hr hlk hP hD hS dX7_off_30)
def rm_X7_lostBy : Room := { frames := 2, cells := 0, slots := 0, locals := 44 }
theorem cv_X7_lostBy : CV yX7_lostBy cX7_lostBy 2 (some .int) rm_X7_lostBy RX7 1 := ⟨kw4_171, kwp_41, kw1_8, kw4_172, by decide +kernel, rfl, rfl⟩
set_option maxHeartbeats 4000000 in
set_option maxRecDepth 100000 in
theorem c_X7_lostBy {l : Launch} {D : va_G} {cI cB cZ cR cM cS : ClassId} {a_this : Nat} {a_st : Nat} {a_now : Nat} {a_isKept : Nat} {a_draft : Nat} {a_tape : Nat} {a_wereAt : Nat} {a_byPlace : Nat} {a_lanes : Nat} {a_sizes : Nat} {a_cells : Nat} {a_before : Nat} {v_hasSigns : Int32} {v_hasEvery : Int32} {v_taped : Int32} {v_pos : Int32} {v_begun : Int32} {v_sort : Int32} {v_value : Int32} {v_fault : Int32} {v_wrongAt : Int32} {v_moved : Int32} {v_slipTicks : Int32} {v_bestCode : Int32} {v_bestMuch : Int32} {v_straightSum : Int64} {v_movedSum : Int64} {v_allWays : Int64} {v_torn : Int32} {v_now : Nat → Int32} {x1 : Int32} {res : Int32} (hF : F_X7_lostBy v_now x1 = some res) : MI l yX7_lostBy cX7_lostBy 2 .int rm_X7_lostBy D (TS cI cB cZ cR cM cS) [.ref a_this, .int x1] [(a_this, .inr (7, [.ref a_st, .ref a_now, .ref a_isKept, .ref a_draft, .int v_hasSigns, .int v_hasEvery, .ref a_tape, .int v_taped, .int v_pos, .int v_begun, .int v_sort, .int v_value, .int v_fault, .int v_wrongAt, .int v_moved, .int v_slipTicks, .int v_bestCode, .int v_bestMuch, .long v_straightSum, .long v_movedSum, .long v_allWays, .ref a_wereAt, .ref a_byPlace, .ref a_lanes, .ref a_sizes, .ref a_cells, .int v_torn, .ref a_before])), (a_now, .inl (cI, 56, .inl v_now))] [(a_this, .inr (7, [.ref a_st, .ref a_now, .ref a_isKept, .ref a_draft, .int v_hasSigns, .int v_hasEvery, .ref a_tape, .int v_taped, .int v_pos, .int v_begun, .int v_sort, .int v_value, .int v_fault, .int v_wrongAt, .int v_moved, .int v_slipTicks, .int v_bestCode, .int v_bestMuch, .long v_straightSum, .long v_movedSum, .long v_allWays, .ref a_wereAt, .ref a_byPlace, .ref a_lanes, .ref a_sizes, .ref a_cells, .int v_torn, .ref a_before])), (a_now, .inl (cI, 56, .inl v_now))] res :=
  MI_of (by decide) (Nat.le_of_ble_eq_true rfl) (fun p e s m args below meth c A ls C hr hlk hK hA hP hD hS hl => by
    have C : CX p m c cX7_lostBy 2 s args RX7 := C
    have hl : lv_has ls 2 [(0, .ref a_this), (1, .int x1)] := hl
    unfold F_X7_lostBy at hF
    refine lv_aload_n C.1 C.2.1 dX7_lostBy_0 rfl (lv_at hl 0 rfl) ?_
    refine gf_7_7_now C hK hP 0 rfl rfl dX7_lostBy_1 ?_
    refine lv_iconst (v := 0) C.1 C.2.1 dX7_lostBy_4 (by decide) ?_
    obtain ⟨h1, hF⟩ := fk hF
    refine va_iald C.1 C.2.1 hK.1 hP 1 0 rfl rfl h1 dX7_lostBy_5 ?_
    refine lv_aload_n C.1 C.2.1 dX7_lostBy_6 rfl (lv_at hl 0 rfl) ?_
    refine lv_iload_n C.1 C.2.1 dX7_lostBy_7 rfl (lv_at hl 1 rfl) ?_
    refine lv_iconst (v := 2) C.1 C.2.1 dX7_lostBy_8 (by decide) ?_
    obtain ⟨r2, h3, hF⟩ := fb hF
    refine callVI C hK hA hP hD hS [0, 1] (c_X7_of (a_this := a_this) (a_st := a_st) (a_now := a_now) (a_isKept := a_isKept) (a_draft := a_draft) (a_tape := a_tape) (a_wereAt := a_wereAt) (a_byPlace := a_byPlace) (a_lanes := a_lanes) (a_sizes := a_sizes) (a_cells := a_cells) (a_before := a_before) (v_hasSigns := v_hasSigns) (v_hasEvery := v_hasEvery) (v_taped := v_taped) (v_pos := v_pos) (v_begun := v_begun) (v_sort := v_sort) (v_value := v_value) (v_fault := v_fault) (v_wrongAt := v_wrongAt) (v_moved := v_moved) (v_slipTicks := v_slipTicks) (v_bestCode := v_bestCode) (v_bestMuch := v_bestMuch) (v_straightSum := v_straightSum) (v_movedSum := v_movedSum) (v_allWays := v_allWays) (v_torn := v_torn) (v_now := v_now) h3) cv_X7_of kw4_152 rfl (by decide) rfl rfl rfl ⟨Nat.le_of_ble_eq_true rfl, Nat.le_of_ble_eq_true rfl⟩ ⟨Nat.zero_le _, Nat.zero_le _⟩ hl.1 rfl (Nat.le_of_ble_eq_true rfl) dX7_lostBy_9 (fun H locs hP hD hS => ?_)
    have hP : va_P D vwCl [(a_this, .inr (7, [.ref a_st, .ref a_now, .ref a_isKept, .ref a_draft, .int v_hasSigns, .int v_hasEvery, .ref a_tape, .int v_taped, .int v_pos, .int v_begun, .int v_sort, .int v_value, .int v_fault, .int v_wrongAt, .int v_moved, .int v_slipTicks, .int v_bestCode, .int v_bestMuch, .long v_straightSum, .long v_movedSum, .long v_allWays, .ref a_wereAt, .ref a_byPlace, .ref a_lanes, .ref a_sizes, .ref a_cells, .int v_torn, .ref a_before])), (a_now, .inl (cI, 56, .inl v_now))] H := hP
    have hD : va_D A [(a_this, .inr (7, [.ref a_st, .ref a_now, .ref a_isKept, .ref a_draft, .int v_hasSigns, .int v_hasEvery, .ref a_tape, .int v_taped, .int v_pos, .int v_begun, .int v_sort, .int v_value, .int v_fault, .int v_wrongAt, .int v_moved, .int v_slipTicks, .int v_bestCode, .int v_bestMuch, .long v_straightSum, .long v_movedSum, .long v_allWays, .ref a_wereAt, .ref a_byPlace, .ref a_lanes, .ref a_sizes, .ref a_cells, .int v_torn, .ref a_before])), (a_now, .inl (cI, 56, .inl v_now))] := hD
    refine lv_isub C.1 C.2.1 dX7_lostBy_12 ?_
    refine lv_aload_n C.1 C.2.1 dX7_lostBy_13 rfl (lv_at hl 0 rfl) ?_
    refine lv_iload_n C.1 C.2.1 dX7_lostBy_14 rfl (lv_at hl 1 rfl) ?_
    obtain ⟨r4, h5, hF⟩ := fb hF
    refine callVI C hK hA hP hD hS [0, 1] (c_X7_off (a_this := a_this) (a_st := a_st) (a_now := a_now) (a_isKept := a_isKept) (a_draft := a_draft) (a_tape := a_tape) (a_wereAt := a_wereAt) (a_byPlace := a_byPlace) (a_lanes := a_lanes) (a_sizes := a_sizes) (a_cells := a_cells) (a_before := a_before) (v_hasSigns := v_hasSigns) (v_hasEvery := v_hasEvery) (v_taped := v_taped) (v_pos := v_pos) (v_begun := v_begun) (v_sort := v_sort) (v_value := v_value) (v_fault := v_fault) (v_wrongAt := v_wrongAt) (v_moved := v_moved) (v_slipTicks := v_slipTicks) (v_bestCode := v_bestCode) (v_bestMuch := v_bestMuch) (v_straightSum := v_straightSum) (v_movedSum := v_movedSum) (v_allWays := v_allWays) (v_torn := v_torn) (v_now := v_now) h5) cv_X7_off kw4_148 rfl (by decide) rfl rfl rfl ⟨Nat.le_of_ble_eq_true rfl, Nat.le_of_ble_eq_true rfl⟩ ⟨Nat.zero_le _, Nat.zero_le _⟩ hl.1 rfl (Nat.le_of_ble_eq_true rfl) dX7_lostBy_15 (fun H locs hP hD hS => ?_)
    have hP : va_P D vwCl [(a_this, .inr (7, [.ref a_st, .ref a_now, .ref a_isKept, .ref a_draft, .int v_hasSigns, .int v_hasEvery, .ref a_tape, .int v_taped, .int v_pos, .int v_begun, .int v_sort, .int v_value, .int v_fault, .int v_wrongAt, .int v_moved, .int v_slipTicks, .int v_bestCode, .int v_bestMuch, .long v_straightSum, .long v_movedSum, .long v_allWays, .ref a_wereAt, .ref a_byPlace, .ref a_lanes, .ref a_sizes, .ref a_cells, .int v_torn, .ref a_before])), (a_now, .inl (cI, 56, .inl v_now))] H := hP
    have hD : va_D A [(a_this, .inr (7, [.ref a_st, .ref a_now, .ref a_isKept, .ref a_draft, .int v_hasSigns, .int v_hasEvery, .ref a_tape, .int v_taped, .int v_pos, .int v_begun, .int v_sort, .int v_value, .int v_fault, .int v_wrongAt, .int v_moved, .int v_slipTicks, .int v_bestCode, .int v_bestMuch, .long v_straightSum, .long v_movedSum, .long v_allWays, .ref a_wereAt, .ref a_byPlace, .ref a_lanes, .ref a_sizes, .ref a_cells, .int v_torn, .ref a_before])), (a_now, .inl (cI, 56, .inl v_now))] := hD
    refine lv_isub C.1 C.2.1 dX7_lostBy_18 ?_
    refine lv_bipush (v := 8) C.1 C.2.1 dX7_lostBy_19 (by decide) ?_
    refine lv_idiv C.1 C.2.1 dX7_lostBy_21 (by decide) ?_
    have hF := Option.some.inj hF
    subst hF
    exact retI C hr hlk hP hD hS dX7_lostBy_22)
def rm_X7_slipsNow : Room := { frames := 2, cells := 0, slots := 0, locals := 44 }
theorem cv_X7_slipsNow : CV yX7_slipsNow cX7_slipsNow 2 (some .boolean) rm_X7_slipsNow RX7 1 := ⟨kw4_146, kwp_37, kw1_8, kw4_147, by decide +kernel, rfl, rfl⟩
set_option maxHeartbeats 4000000 in
set_option maxRecDepth 100000 in
theorem c_X7_slipsNow {l : Launch} {D : va_G} {cI cB cZ cR cM cS : ClassId} {a_this : Nat} {a_st : Nat} {a_now : Nat} {a_isKept : Nat} {a_draft : Nat} {a_tape : Nat} {a_wereAt : Nat} {a_byPlace : Nat} {a_lanes : Nat} {a_sizes : Nat} {a_cells : Nat} {a_before : Nat} {v_hasSigns : Int32} {v_hasEvery : Int32} {v_taped : Int32} {v_pos : Int32} {v_begun : Int32} {v_sort : Int32} {v_value : Int32} {v_fault : Int32} {v_wrongAt : Int32} {v_moved : Int32} {v_slipTicks : Int32} {v_bestCode : Int32} {v_bestMuch : Int32} {v_straightSum : Int64} {v_movedSum : Int64} {v_allWays : Int64} {v_torn : Int32} {v_now : Nat → Int32} {x1 : Int32} {res : Int32} (hF : F_X7_slipsNow v_now x1 = some res) : MI l yX7_slipsNow cX7_slipsNow 2 .boolean rm_X7_slipsNow D (TS cI cB cZ cR cM cS) [.ref a_this, .int x1] [(a_this, .inr (7, [.ref a_st, .ref a_now, .ref a_isKept, .ref a_draft, .int v_hasSigns, .int v_hasEvery, .ref a_tape, .int v_taped, .int v_pos, .int v_begun, .int v_sort, .int v_value, .int v_fault, .int v_wrongAt, .int v_moved, .int v_slipTicks, .int v_bestCode, .int v_bestMuch, .long v_straightSum, .long v_movedSum, .long v_allWays, .ref a_wereAt, .ref a_byPlace, .ref a_lanes, .ref a_sizes, .ref a_cells, .int v_torn, .ref a_before])), (a_now, .inl (cI, 56, .inl v_now))] [(a_this, .inr (7, [.ref a_st, .ref a_now, .ref a_isKept, .ref a_draft, .int v_hasSigns, .int v_hasEvery, .ref a_tape, .int v_taped, .int v_pos, .int v_begun, .int v_sort, .int v_value, .int v_fault, .int v_wrongAt, .int v_moved, .int v_slipTicks, .int v_bestCode, .int v_bestMuch, .long v_straightSum, .long v_movedSum, .long v_allWays, .ref a_wereAt, .ref a_byPlace, .ref a_lanes, .ref a_sizes, .ref a_cells, .int v_torn, .ref a_before])), (a_now, .inl (cI, 56, .inl v_now))] res :=
  MI_of (by decide) (Nat.le_of_ble_eq_true rfl) (fun p e s m args below meth c A ls C hr hlk hK hA hP hD hS hl => by
    have C : CX p m c cX7_slipsNow 2 s args RX7 := C
    have hl : lv_has ls 2 [(0, .ref a_this), (1, .int x1)] := hl
    unfold F_X7_slipsNow at hF
    refine lv_aload_n C.1 C.2.1 dX7_slipsNow_0 rfl (lv_at hl 0 rfl) ?_
    refine lv_iload_n C.1 C.2.1 dX7_slipsNow_1 rfl (lv_at hl 1 rfl) ?_
    obtain ⟨r1, h2, hF⟩ := fb hF
    refine callVI C hK hA hP hD hS [0, 1] (c_X7_off (a_this := a_this) (a_st := a_st) (a_now := a_now) (a_isKept := a_isKept) (a_draft := a_draft) (a_tape := a_tape) (a_wereAt := a_wereAt) (a_byPlace := a_byPlace) (a_lanes := a_lanes) (a_sizes := a_sizes) (a_cells := a_cells) (a_before := a_before) (v_hasSigns := v_hasSigns) (v_hasEvery := v_hasEvery) (v_taped := v_taped) (v_pos := v_pos) (v_begun := v_begun) (v_sort := v_sort) (v_value := v_value) (v_fault := v_fault) (v_wrongAt := v_wrongAt) (v_moved := v_moved) (v_slipTicks := v_slipTicks) (v_bestCode := v_bestCode) (v_bestMuch := v_bestMuch) (v_straightSum := v_straightSum) (v_movedSum := v_movedSum) (v_allWays := v_allWays) (v_torn := v_torn) (v_now := v_now) h2) cv_X7_off kw4_148 rfl (by decide) rfl rfl rfl ⟨Nat.le_of_ble_eq_true rfl, Nat.le_of_ble_eq_true rfl⟩ ⟨Nat.zero_le _, Nat.zero_le _⟩ hl.1 rfl (Nat.le_of_ble_eq_true rfl) dX7_slipsNow_2 (fun H locs hP hD hS => ?_)
    have hP : va_P D vwCl [(a_this, .inr (7, [.ref a_st, .ref a_now, .ref a_isKept, .ref a_draft, .int v_hasSigns, .int v_hasEvery, .ref a_tape, .int v_taped, .int v_pos, .int v_begun, .int v_sort, .int v_value, .int v_fault, .int v_wrongAt, .int v_moved, .int v_slipTicks, .int v_bestCode, .int v_bestMuch, .long v_straightSum, .long v_movedSum, .long v_allWays, .ref a_wereAt, .ref a_byPlace, .ref a_lanes, .ref a_sizes, .ref a_cells, .int v_torn, .ref a_before])), (a_now, .inl (cI, 56, .inl v_now))] H := hP
    have hD : va_D A [(a_this, .inr (7, [.ref a_st, .ref a_now, .ref a_isKept, .ref a_draft, .int v_hasSigns, .int v_hasEvery, .ref a_tape, .int v_taped, .int v_pos, .int v_begun, .int v_sort, .int v_value, .int v_fault, .int v_wrongAt, .int v_moved, .int v_slipTicks, .int v_bestCode, .int v_bestMuch, .long v_straightSum, .long v_movedSum, .long v_allWays, .ref a_wereAt, .ref a_byPlace, .ref a_lanes, .ref a_sizes, .ref a_cells, .int v_torn, .ref a_before])), (a_now, .inl (cI, 56, .inl v_now))] := hD
    obtain ⟨r3, h4, hF⟩ := fb hF
    refine callSI C hK hA hP hD hS (c_X7_amount  h4) cs_X7_amount kw4_159 ⟨Nat.le_of_ble_eq_true rfl, Nat.le_of_ble_eq_true rfl⟩ ⟨Nat.zero_le _, Nat.zero_le _⟩ hl.1 rfl (Nat.le_of_ble_eq_true rfl) dX7_slipsNow_5 (fun H locs hP hD hS => ?_)
    refine lv_aload_n C.1 C.2.1 dX7_slipsNow_8 rfl (lv_at hl 0 rfl) ?_
    refine lv_iload_n C.1 C.2.1 dX7_slipsNow_9 rfl (lv_at hl 1 rfl) ?_
    refine lv_iconst (v := 1) C.1 C.2.1 dX7_slipsNow_10 (by decide) ?_
    obtain ⟨r5, h6, hF⟩ := fb hF
    refine callVI C hK hA hP hD hS [0, 1] (c_X7_of (a_this := a_this) (a_st := a_st) (a_now := a_now) (a_isKept := a_isKept) (a_draft := a_draft) (a_tape := a_tape) (a_wereAt := a_wereAt) (a_byPlace := a_byPlace) (a_lanes := a_lanes) (a_sizes := a_sizes) (a_cells := a_cells) (a_before := a_before) (v_hasSigns := v_hasSigns) (v_hasEvery := v_hasEvery) (v_taped := v_taped) (v_pos := v_pos) (v_begun := v_begun) (v_sort := v_sort) (v_value := v_value) (v_fault := v_fault) (v_wrongAt := v_wrongAt) (v_moved := v_moved) (v_slipTicks := v_slipTicks) (v_bestCode := v_bestCode) (v_bestMuch := v_bestMuch) (v_straightSum := v_straightSum) (v_movedSum := v_movedSum) (v_allWays := v_allWays) (v_torn := v_torn) (v_now := v_now) h6) cv_X7_of kw4_152 rfl (by decide) rfl rfl rfl ⟨Nat.le_of_ble_eq_true rfl, Nat.le_of_ble_eq_true rfl⟩ ⟨Nat.zero_le _, Nat.zero_le _⟩ hl.1 rfl (Nat.le_of_ble_eq_true rfl) dX7_slipsNow_11 (fun H locs hP hD hS => ?_)
    have hP : va_P D vwCl [(a_this, .inr (7, [.ref a_st, .ref a_now, .ref a_isKept, .ref a_draft, .int v_hasSigns, .int v_hasEvery, .ref a_tape, .int v_taped, .int v_pos, .int v_begun, .int v_sort, .int v_value, .int v_fault, .int v_wrongAt, .int v_moved, .int v_slipTicks, .int v_bestCode, .int v_bestMuch, .long v_straightSum, .long v_movedSum, .long v_allWays, .ref a_wereAt, .ref a_byPlace, .ref a_lanes, .ref a_sizes, .ref a_cells, .int v_torn, .ref a_before])), (a_now, .inl (cI, 56, .inl v_now))] H := hP
    have hD : va_D A [(a_this, .inr (7, [.ref a_st, .ref a_now, .ref a_isKept, .ref a_draft, .int v_hasSigns, .int v_hasEvery, .ref a_tape, .int v_taped, .int v_pos, .int v_begun, .int v_sort, .int v_value, .int v_fault, .int v_wrongAt, .int v_moved, .int v_slipTicks, .int v_bestCode, .int v_bestMuch, .long v_straightSum, .long v_movedSum, .long v_allWays, .ref a_wereAt, .ref a_byPlace, .ref a_lanes, .ref a_sizes, .ref a_cells, .int v_torn, .ref a_before])), (a_now, .inl (cI, 56, .inl v_now))] := hD
    refine lv_icmp_le (tgt := 21) C.1 C.2.1 dX7_slipsNow_14 (by decide) (fun c7 => ?_) (fun c7 => ?_)
    · have hF := fp hF c7
      refine lv_iconst (v := 0) C.1 C.2.1 dX7_slipsNow_21 (by decide) ?_
      have hF := Option.some.inj hF
      subst hF
      exact retZ (v := 0) C hr hlk (by decide) hP hD hS dX7_slipsNow_22
    · have hF := fn hF c7
      refine lv_iconst (v := 1) C.1 C.2.1 dX7_slipsNow_17 (by decide) ?_
      refine lv_goto (tgt := 22) C.1 C.2.1 dX7_slipsNow_18 (by decide) ?_
      have hF := Option.some.inj hF
      subst hF
      exact retZ (v := 1) C hr hlk (by decide) hP hD hS dX7_slipsNow_22)
def rm_X7_slipping : Room := { frames := 3, cells := 0, slots := 0, locals := 65 }
theorem cv_X7_slipping : CV yX7_slipping cX7_slipping 3 (some .int) rm_X7_slipping RX7 0 := ⟨kw4_142, kwp_36, kw1_8, kw4_143, by decide +kernel, rfl, rfl⟩
set_option maxHeartbeats 4000000 in
set_option maxRecDepth 100000 in
theorem b_X7_slipping_4 {l : Launch} {D : va_G} {cI cB cZ cR cM cS : ClassId} {a_this : Nat} {a_st : Nat} {a_now : Nat} {a_isKept : Nat} {a_draft : Nat} {a_tape : Nat} {a_wereAt : Nat} {a_byPlace : Nat} {a_lanes : Nat} {a_sizes : Nat} {a_cells : Nat} {a_before : Nat} {v_hasSigns : Int32} {v_hasEvery : Int32} {v_taped : Int32} {v_pos : Int32} {v_begun : Int32} {v_sort : Int32} {v_value : Int32} {v_fault : Int32} {v_wrongAt : Int32} {v_moved : Int32} {v_slipTicks : Int32} {v_bestCode : Int32} {v_bestMuch : Int32} {v_straightSum : Int64} {v_movedSum : Int64} {v_allWays : Int64} {v_torn : Int32} {p : Program} {e : Env} {s : State} {m : MethodId} {args : Array Value} {below : List Frame} {meth : Method} {c : Code} {A : Nat → Prop} {res : Int32} (C : CX p m c cX7_slipping 3 s args RX7) (hr : meth.sig.returnType = (some .int)) (hlk : meth.locks = false) (hK : KK D (TS cI cB cZ cR cM cS) s) (hA : ∀ q, s.heap.size ≤ q → A q) : ∀ (fu : Nat) (v_now : Nat → Int32) (x1 : Int32) (x2 : Int32) (H : Heap) (locs : List Loc) (ls : Array Slot), F_X7_slipping_4 fu v_now x1 x2 = some res → va_P D vwCl [(a_this, .inr (7, [.ref a_st, .ref a_now, .ref a_isKept, .ref a_draft, .int v_hasSigns, .int v_hasEvery, .ref a_tape, .int v_taped, .int v_pos, .int v_begun, .int v_sort, .int v_value, .int v_fault, .int v_wrongAt, .int v_moved, .int v_slipTicks, .int v_bestCode, .int v_bestMuch, .long v_straightSum, .long v_movedSum, .long v_allWays, .ref a_wereAt, .ref a_byPlace, .ref a_lanes, .ref a_sizes, .ref a_cells, .int v_torn, .ref a_before])), (a_now, .inl (cI, 56, .inl v_now))] H → va_D A [(a_this, .inr (7, [.ref a_st, .ref a_now, .ref a_isKept, .ref a_draft, .int v_hasSigns, .int v_hasEvery, .ref a_tape, .int v_taped, .int v_pos, .int v_begun, .int v_sort, .int v_value, .int v_fault, .int v_wrongAt, .int v_moved, .int v_slipTicks, .int v_bestCode, .int v_bestMuch, .long v_straightSum, .long v_movedSum, .long v_allWays, .ref a_wereAt, .ref a_byPlace, .ref a_lanes, .ref a_sizes, .ref a_cells, .int v_torn, .ref a_before])), (a_now, .inl (cI, 56, .inl v_now))] → va_S A s.heap H locs → lv_has ls 3 [(0, .ref a_this), (1, .int x1), (2, .int x2)] → W p l e rm_X7_slipping s m args below meth c H locs 0 0 (MQ below (va_Qi (fun x (_ : Unit) => x = res) (BW D A [(a_this, .inr (7, [.ref a_st, .ref a_now, .ref a_isKept, .ref a_draft, .int v_hasSigns, .int v_hasEvery, .ref a_tape, .int v_taped, .int v_pos, .int v_begun, .int v_sort, .int v_value, .int v_fault, .int v_wrongAt, .int v_moved, .int v_slipTicks, .int v_bestCode, .int v_bestMuch, .long v_straightSum, .long v_movedSum, .long v_allWays, .ref a_wereAt, .ref a_byPlace, .ref a_lanes, .ref a_sizes, .ref a_cells, .int v_torn, .ref a_before])), (a_now, .inl (cI, 56, .inl v_now))]) A) args s 0 0 A) (F0 m 4 ls []) := by
  intro fu
  induction fu with
  | zero => intro v_now x1 x2 H locs ls hF; cases hF
  | succ fu ih =>
    intro v_now x1 x2 H locs ls hF  hP hD hS hl
    unfold F_X7_slipping_4 at hF
    refine lv_iload_n C.1 C.2.1 dX7_slipping_4 rfl (lv_at hl 2 rfl) ?_
    refine lv_aload_n C.1 C.2.1 dX7_slipping_5 rfl (lv_at hl 0 rfl) ?_
    refine gf_7_7_now C hK hP 0 rfl rfl dX7_slipping_6 ?_
    refine lv_bipush (v := 36) C.1 C.2.1 dX7_slipping_9 (by decide) ?_
    obtain ⟨h1, hF⟩ := fk hF
    refine va_iald C.1 C.2.1 hK.1 hP 1 0 rfl rfl h1 dX7_slipping_11 ?_
    refine lv_icmp_ge (tgt := 34) C.1 C.2.1 dX7_slipping_12 (by decide) (fun c2 => ?_) (fun c2 => ?_)
    · have hF := fp hF c2
      refine lv_iload_n C.1 C.2.1 dX7_slipping_34 rfl (lv_at hl 1 rfl) ?_
      have hF := Option.some.inj hF
      subst hF
      exact retI C hr hlk hP hD hS dX7_slipping_35
    · have hF := fn hF c2
      refine lv_iload_n C.1 C.2.1 dX7_slipping_15 rfl (lv_at hl 1 rfl) ?_
      refine lv_aload_n C.1 C.2.1 dX7_slipping_16 rfl (lv_at hl 0 rfl) ?_
      refine lv_iload_n C.1 C.2.1 dX7_slipping_17 rfl (lv_at hl 2 rfl) ?_
      obtain ⟨r3, h4, hF⟩ := fb hF
      refine callVI C hK hA hP hD hS [0, 1] (c_X7_slipsNow (a_this := a_this) (a_st := a_st) (a_now := a_now) (a_isKept := a_isKept) (a_draft := a_draft) (a_tape := a_tape) (a_wereAt := a_wereAt) (a_byPlace := a_byPlace) (a_lanes := a_lanes) (a_sizes := a_sizes) (a_cells := a_cells) (a_before := a_before) (v_hasSigns := v_hasSigns) (v_hasEvery := v_hasEvery) (v_taped := v_taped) (v_pos := v_pos) (v_begun := v_begun) (v_sort := v_sort) (v_value := v_value) (v_fault := v_fault) (v_wrongAt := v_wrongAt) (v_moved := v_moved) (v_slipTicks := v_slipTicks) (v_bestCode := v_bestCode) (v_bestMuch := v_bestMuch) (v_straightSum := v_straightSum) (v_movedSum := v_movedSum) (v_allWays := v_allWays) (v_torn := v_torn) (v_now := v_now) h4) cv_X7_slipsNow kw4_144 rfl (by decide) rfl rfl rfl ⟨Nat.le_of_ble_eq_true rfl, Nat.le_of_ble_eq_true rfl⟩ ⟨Nat.zero_le _, Nat.zero_le _⟩ hl.1 rfl (Nat.le_of_ble_eq_true rfl) dX7_slipping_18 (fun H locs hP hD hS => ?_)
      have hP : va_P D vwCl [(a_this, .inr (7, [.ref a_st, .ref a_now, .ref a_isKept, .ref a_draft, .int v_hasSigns, .int v_hasEvery, .ref a_tape, .int v_taped, .int v_pos, .int v_begun, .int v_sort, .int v_value, .int v_fault, .int v_wrongAt, .int v_moved, .int v_slipTicks, .int v_bestCode, .int v_bestMuch, .long v_straightSum, .long v_movedSum, .long v_allWays, .ref a_wereAt, .ref a_byPlace, .ref a_lanes, .ref a_sizes, .ref a_cells, .int v_torn, .ref a_before])), (a_now, .inl (cI, 56, .inl v_now))] H := hP
      have hD : va_D A [(a_this, .inr (7, [.ref a_st, .ref a_now, .ref a_isKept, .ref a_draft, .int v_hasSigns, .int v_hasEvery, .ref a_tape, .int v_taped, .int v_pos, .int v_begun, .int v_sort, .int v_value, .int v_fault, .int v_wrongAt, .int v_moved, .int v_slipTicks, .int v_bestCode, .int v_bestMuch, .long v_straightSum, .long v_movedSum, .long v_allWays, .ref a_wereAt, .ref a_byPlace, .ref a_lanes, .ref a_sizes, .ref a_cells, .int v_torn, .ref a_before])), (a_now, .inl (cI, 56, .inl v_now))] := hD
      obtain ⟨r5, h6, hF⟩ := fb hF
      refine callSI C hK hA hP hD hS (c_X7_flag  h6) cs_X7_flag kw4_162 ⟨Nat.le_of_ble_eq_true rfl, Nat.le_of_ble_eq_true rfl⟩ ⟨Nat.zero_le _, Nat.zero_le _⟩ hl.1 rfl (Nat.le_of_ble_eq_true rfl) dX7_slipping_21 (fun H locs hP hD hS => ?_)
      refine lv_iload_n C.1 C.2.1 dX7_slipping_24 rfl (lv_at hl 2 rfl) ?_
      refine lv_ishl C.1 C.2.1 dX7_slipping_25 ?_
      refine lv_ior C.1 C.2.1 dX7_slipping_26 ?_
      refine lv_istore_n (lv' := [(1, .int (x1 ||| (ishl r5 x2))), (0, .ref a_this), (2, .int x2)]) C.1 C.2.1 dX7_slipping_27 rfl hl (by decide) rfl (fun ls hl => ?_)
      refine lv_iinc (v := x2 + 1) (lv' := [(2, .int (x2 + 1)), (1, .int (x1 ||| (ishl r5 x2))), (0, .ref a_this)]) C.1 C.2.1 dX7_slipping_28 hl (k := 2) rfl rfl (by decide) rfl (fun ls hl => ?_)
      refine lv_goto (tgt := 4) C.1 C.2.1 dX7_slipping_31 (by decide) ?_
      exact ih v_now (x1 ||| (ishl r5 x2)) (x2 + 1) _ _ _ hF hP hD hS (lv_sub hl [2, 1, 0] rfl)
set_option maxHeartbeats 4000000 in
set_option maxRecDepth 100000 in
theorem c_X7_slipping {l : Launch} {D : va_G} {cI cB cZ cR cM cS : ClassId} {a_this : Nat} {a_st : Nat} {a_now : Nat} {a_isKept : Nat} {a_draft : Nat} {a_tape : Nat} {a_wereAt : Nat} {a_byPlace : Nat} {a_lanes : Nat} {a_sizes : Nat} {a_cells : Nat} {a_before : Nat} {v_hasSigns : Int32} {v_hasEvery : Int32} {v_taped : Int32} {v_pos : Int32} {v_begun : Int32} {v_sort : Int32} {v_value : Int32} {v_fault : Int32} {v_wrongAt : Int32} {v_moved : Int32} {v_slipTicks : Int32} {v_bestCode : Int32} {v_bestMuch : Int32} {v_straightSum : Int64} {v_movedSum : Int64} {v_allWays : Int64} {v_torn : Int32} {v_now : Nat → Int32} {res : Int32} (hF : F_X7_slipping v_now = some res) : MI l yX7_slipping cX7_slipping 3 .int rm_X7_slipping D (TS cI cB cZ cR cM cS) [.ref a_this] [(a_this, .inr (7, [.ref a_st, .ref a_now, .ref a_isKept, .ref a_draft, .int v_hasSigns, .int v_hasEvery, .ref a_tape, .int v_taped, .int v_pos, .int v_begun, .int v_sort, .int v_value, .int v_fault, .int v_wrongAt, .int v_moved, .int v_slipTicks, .int v_bestCode, .int v_bestMuch, .long v_straightSum, .long v_movedSum, .long v_allWays, .ref a_wereAt, .ref a_byPlace, .ref a_lanes, .ref a_sizes, .ref a_cells, .int v_torn, .ref a_before])), (a_now, .inl (cI, 56, .inl v_now))] [(a_this, .inr (7, [.ref a_st, .ref a_now, .ref a_isKept, .ref a_draft, .int v_hasSigns, .int v_hasEvery, .ref a_tape, .int v_taped, .int v_pos, .int v_begun, .int v_sort, .int v_value, .int v_fault, .int v_wrongAt, .int v_moved, .int v_slipTicks, .int v_bestCode, .int v_bestMuch, .long v_straightSum, .long v_movedSum, .long v_allWays, .ref a_wereAt, .ref a_byPlace, .ref a_lanes, .ref a_sizes, .ref a_cells, .int v_torn, .ref a_before])), (a_now, .inl (cI, 56, .inl v_now))] res :=
  MI_of (by decide) (Nat.le_of_ble_eq_true rfl) (fun p e s m args below meth c A ls C hr hlk hK hA hP hD hS hl => by
    have C : CX p m c cX7_slipping 3 s args RX7 := C
    have hl : lv_has ls 3 [(0, .ref a_this)] := hl
    unfold F_X7_slipping at hF
    refine lv_iconst (v := 0) C.1 C.2.1 dX7_slipping_0 (by decide) ?_
    refine lv_istore_n (lv' := [(1, .int (0 : Int32)), (0, .ref a_this)]) C.1 C.2.1 dX7_slipping_1 rfl hl (by decide) rfl (fun ls hl => ?_)
    refine lv_iconst (v := 0) C.1 C.2.1 dX7_slipping_2 (by decide) ?_
    refine lv_istore_n (lv' := [(2, .int (0 : Int32)), (1, .int (0 : Int32)), (0, .ref a_this)]) C.1 C.2.1 dX7_slipping_3 rfl hl (by decide) rfl (fun ls hl => ?_)
    exact b_X7_slipping_4 C hr hlk hK hA FU v_now (0 : Int32) (0 : Int32) _ _ _ hF hP hD hS (lv_sub hl [2, 1, 0] rfl))
def rm_X7_allLost : Room := { frames := 3, cells := 0, slots := 0, locals := 65 }
theorem cv_X7_allLost : CV yX7_allLost cX7_allLost 3 (some .int) rm_X7_allLost RX7 0 := ⟨kw4_167, kwp_40, kw1_8, kw4_168, by decide +kernel, rfl, rfl⟩
set_option maxHeartbeats 4000000 in
set_option maxRecDepth 100000 in
theorem b_X7_allLost_4 {l : Launch} {D : va_G} {cI cB cZ cR cM cS : ClassId} {a_this : Nat} {a_st : Nat} {a_now : Nat} {a_isKept : Nat} {a_draft : Nat} {a_tape : Nat} {a_wereAt : Nat} {a_byPlace : Nat} {a_lanes : Nat} {a_sizes : Nat} {a_cells : Nat} {a_before : Nat} {v_hasSigns : Int32} {v_hasEvery : Int32} {v_taped : Int32} {v_pos : Int32} {v_begun : Int32} {v_sort : Int32} {v_value : Int32} {v_fault : Int32} {v_wrongAt : Int32} {v_moved : Int32} {v_slipTicks : Int32} {v_bestCode : Int32} {v_bestMuch : Int32} {v_straightSum : Int64} {v_movedSum : Int64} {v_allWays : Int64} {v_torn : Int32} {p : Program} {e : Env} {s : State} {m : MethodId} {args : Array Value} {below : List Frame} {meth : Method} {c : Code} {A : Nat → Prop} {res : Int32} (C : CX p m c cX7_allLost 3 s args RX7) (hr : meth.sig.returnType = (some .int)) (hlk : meth.locks = false) (hK : KK D (TS cI cB cZ cR cM cS) s) (hA : ∀ q, s.heap.size ≤ q → A q) : ∀ (fu : Nat) (v_now : Nat → Int32) (x1 : Int32) (x2 : Int32) (H : Heap) (locs : List Loc) (ls : Array Slot), F_X7_allLost_4 fu v_now x1 x2 = some res → va_P D vwCl [(a_this, .inr (7, [.ref a_st, .ref a_now, .ref a_isKept, .ref a_draft, .int v_hasSigns, .int v_hasEvery, .ref a_tape, .int v_taped, .int v_pos, .int v_begun, .int v_sort, .int v_value, .int v_fault, .int v_wrongAt, .int v_moved, .int v_slipTicks, .int v_bestCode, .int v_bestMuch, .long v_straightSum, .long v_movedSum, .long v_allWays, .ref a_wereAt, .ref a_byPlace, .ref a_lanes, .ref a_sizes, .ref a_cells, .int v_torn, .ref a_before])), (a_now, .inl (cI, 56, .inl v_now))] H → va_D A [(a_this, .inr (7, [.ref a_st, .ref a_now, .ref a_isKept, .ref a_draft, .int v_hasSigns, .int v_hasEvery, .ref a_tape, .int v_taped, .int v_pos, .int v_begun, .int v_sort, .int v_value, .int v_fault, .int v_wrongAt, .int v_moved, .int v_slipTicks, .int v_bestCode, .int v_bestMuch, .long v_straightSum, .long v_movedSum, .long v_allWays, .ref a_wereAt, .ref a_byPlace, .ref a_lanes, .ref a_sizes, .ref a_cells, .int v_torn, .ref a_before])), (a_now, .inl (cI, 56, .inl v_now))] → va_S A s.heap H locs → lv_has ls 3 [(0, .ref a_this), (1, .int x1), (2, .int x2)] → W p l e rm_X7_allLost s m args below meth c H locs 0 0 (MQ below (va_Qi (fun x (_ : Unit) => x = res) (BW D A [(a_this, .inr (7, [.ref a_st, .ref a_now, .ref a_isKept, .ref a_draft, .int v_hasSigns, .int v_hasEvery, .ref a_tape, .int v_taped, .int v_pos, .int v_begun, .int v_sort, .int v_value, .int v_fault, .int v_wrongAt, .int v_moved, .int v_slipTicks, .int v_bestCode, .int v_bestMuch, .long v_straightSum, .long v_movedSum, .long v_allWays, .ref a_wereAt, .ref a_byPlace, .ref a_lanes, .ref a_sizes, .ref a_cells, .int v_torn, .ref a_before])), (a_now, .inl (cI, 56, .inl v_now))]) A) args s 0 0 A) (F0 m 4 ls []) := by
  intro fu
  induction fu with
  | zero => intro v_now x1 x2 H locs ls hF; cases hF
  | succ fu ih =>
    intro v_now x1 x2 H locs ls hF  hP hD hS hl
    unfold F_X7_allLost_4 at hF
    refine lv_iload_n C.1 C.2.1 dX7_allLost_4 rfl (lv_at hl 2 rfl) ?_
    refine lv_aload_n C.1 C.2.1 dX7_allLost_5 rfl (lv_at hl 0 rfl) ?_
    refine gf_7_7_now C hK hP 0 rfl rfl dX7_allLost_6 ?_
    refine lv_bipush (v := 36) C.1 C.2.1 dX7_allLost_9 (by decide) ?_
    obtain ⟨h1, hF⟩ := fk hF
    refine va_iald C.1 C.2.1 hK.1 hP 1 0 rfl rfl h1 dX7_allLost_11 ?_
    refine lv_icmp_ge (tgt := 32) C.1 C.2.1 dX7_allLost_12 (by decide) (fun c2 => ?_) (fun c2 => ?_)
    · have hF := fp hF c2
      refine lv_iload_n C.1 C.2.1 dX7_allLost_32 rfl (lv_at hl 1 rfl) ?_
      have hF := Option.some.inj hF
      subst hF
      exact retI C hr hlk hP hD hS dX7_allLost_33
    · have hF := fn hF c2
      refine lv_iload_n C.1 C.2.1 dX7_allLost_15 rfl (lv_at hl 1 rfl) ?_
      refine lv_aload_n C.1 C.2.1 dX7_allLost_16 rfl (lv_at hl 0 rfl) ?_
      refine lv_iload_n C.1 C.2.1 dX7_allLost_17 rfl (lv_at hl 2 rfl) ?_
      obtain ⟨r3, h4, hF⟩ := fb hF
      refine callVI C hK hA hP hD hS [0, 1] (c_X7_lostBy (a_this := a_this) (a_st := a_st) (a_now := a_now) (a_isKept := a_isKept) (a_draft := a_draft) (a_tape := a_tape) (a_wereAt := a_wereAt) (a_byPlace := a_byPlace) (a_lanes := a_lanes) (a_sizes := a_sizes) (a_cells := a_cells) (a_before := a_before) (v_hasSigns := v_hasSigns) (v_hasEvery := v_hasEvery) (v_taped := v_taped) (v_pos := v_pos) (v_begun := v_begun) (v_sort := v_sort) (v_value := v_value) (v_fault := v_fault) (v_wrongAt := v_wrongAt) (v_moved := v_moved) (v_slipTicks := v_slipTicks) (v_bestCode := v_bestCode) (v_bestMuch := v_bestMuch) (v_straightSum := v_straightSum) (v_movedSum := v_movedSum) (v_allWays := v_allWays) (v_torn := v_torn) (v_now := v_now) h4) cv_X7_lostBy kw4_169 rfl (by decide) rfl rfl rfl ⟨Nat.le_of_ble_eq_true rfl, Nat.le_of_ble_eq_true rfl⟩ ⟨Nat.zero_le _, Nat.zero_le _⟩ hl.1 rfl (Nat.le_of_ble_eq_true rfl) dX7_allLost_18 (fun H locs hP hD hS => ?_)
      have hP : va_P D vwCl [(a_this, .inr (7, [.ref a_st, .ref a_now, .ref a_isKept, .ref a_draft, .int v_hasSigns, .int v_hasEvery, .ref a_tape, .int v_taped, .int v_pos, .int v_begun, .int v_sort, .int v_value, .int v_fault, .int v_wrongAt, .int v_moved, .int v_slipTicks, .int v_bestCode, .int v_bestMuch, .long v_straightSum, .long v_movedSum, .long v_allWays, .ref a_wereAt, .ref a_byPlace, .ref a_lanes, .ref a_sizes, .ref a_cells, .int v_torn, .ref a_before])), (a_now, .inl (cI, 56, .inl v_now))] H := hP
      have hD : va_D A [(a_this, .inr (7, [.ref a_st, .ref a_now, .ref a_isKept, .ref a_draft, .int v_hasSigns, .int v_hasEvery, .ref a_tape, .int v_taped, .int v_pos, .int v_begun, .int v_sort, .int v_value, .int v_fault, .int v_wrongAt, .int v_moved, .int v_slipTicks, .int v_bestCode, .int v_bestMuch, .long v_straightSum, .long v_movedSum, .long v_allWays, .ref a_wereAt, .ref a_byPlace, .ref a_lanes, .ref a_sizes, .ref a_cells, .int v_torn, .ref a_before])), (a_now, .inl (cI, 56, .inl v_now))] := hD
      obtain ⟨r5, h6, hF⟩ := fb hF
      refine callSI C hK hA hP hD hS (c_X7_amount  h6) cs_X7_amount kw4_159 ⟨Nat.le_of_ble_eq_true rfl, Nat.le_of_ble_eq_true rfl⟩ ⟨Nat.zero_le _, Nat.zero_le _⟩ hl.1 rfl (Nat.le_of_ble_eq_true rfl) dX7_allLost_21 (fun H locs hP hD hS => ?_)
      refine lv_iadd C.1 C.2.1 dX7_allLost_24 ?_
      refine lv_istore_n (lv' := [(1, .int (x1 + r5)), (0, .ref a_this), (2, .int x2)]) C.1 C.2.1 dX7_allLost_25 rfl hl (by decide) rfl (fun ls hl => ?_)
      refine lv_iinc (v := x2 + 1) (lv' := [(2, .int (x2 + 1)), (1, .int (x1 + r5)), (0, .ref a_this)]) C.1 C.2.1 dX7_allLost_26 hl (k := 2) rfl rfl (by decide) rfl (fun ls hl => ?_)
      refine lv_goto (tgt := 4) C.1 C.2.1 dX7_allLost_29 (by decide) ?_
      exact ih v_now (x1 + r5) (x2 + 1) _ _ _ hF hP hD hS (lv_sub hl [2, 1, 0] rfl)
set_option maxHeartbeats 4000000 in
set_option maxRecDepth 100000 in
theorem c_X7_allLost {l : Launch} {D : va_G} {cI cB cZ cR cM cS : ClassId} {a_this : Nat} {a_st : Nat} {a_now : Nat} {a_isKept : Nat} {a_draft : Nat} {a_tape : Nat} {a_wereAt : Nat} {a_byPlace : Nat} {a_lanes : Nat} {a_sizes : Nat} {a_cells : Nat} {a_before : Nat} {v_hasSigns : Int32} {v_hasEvery : Int32} {v_taped : Int32} {v_pos : Int32} {v_begun : Int32} {v_sort : Int32} {v_value : Int32} {v_fault : Int32} {v_wrongAt : Int32} {v_moved : Int32} {v_slipTicks : Int32} {v_bestCode : Int32} {v_bestMuch : Int32} {v_straightSum : Int64} {v_movedSum : Int64} {v_allWays : Int64} {v_torn : Int32} {v_now : Nat → Int32} {res : Int32} (hF : F_X7_allLost v_now = some res) : MI l yX7_allLost cX7_allLost 3 .int rm_X7_allLost D (TS cI cB cZ cR cM cS) [.ref a_this] [(a_this, .inr (7, [.ref a_st, .ref a_now, .ref a_isKept, .ref a_draft, .int v_hasSigns, .int v_hasEvery, .ref a_tape, .int v_taped, .int v_pos, .int v_begun, .int v_sort, .int v_value, .int v_fault, .int v_wrongAt, .int v_moved, .int v_slipTicks, .int v_bestCode, .int v_bestMuch, .long v_straightSum, .long v_movedSum, .long v_allWays, .ref a_wereAt, .ref a_byPlace, .ref a_lanes, .ref a_sizes, .ref a_cells, .int v_torn, .ref a_before])), (a_now, .inl (cI, 56, .inl v_now))] [(a_this, .inr (7, [.ref a_st, .ref a_now, .ref a_isKept, .ref a_draft, .int v_hasSigns, .int v_hasEvery, .ref a_tape, .int v_taped, .int v_pos, .int v_begun, .int v_sort, .int v_value, .int v_fault, .int v_wrongAt, .int v_moved, .int v_slipTicks, .int v_bestCode, .int v_bestMuch, .long v_straightSum, .long v_movedSum, .long v_allWays, .ref a_wereAt, .ref a_byPlace, .ref a_lanes, .ref a_sizes, .ref a_cells, .int v_torn, .ref a_before])), (a_now, .inl (cI, 56, .inl v_now))] res :=
  MI_of (by decide) (Nat.le_of_ble_eq_true rfl) (fun p e s m args below meth c A ls C hr hlk hK hA hP hD hS hl => by
    have C : CX p m c cX7_allLost 3 s args RX7 := C
    have hl : lv_has ls 3 [(0, .ref a_this)] := hl
    unfold F_X7_allLost at hF
    refine lv_iconst (v := 0) C.1 C.2.1 dX7_allLost_0 (by decide) ?_
    refine lv_istore_n (lv' := [(1, .int (0 : Int32)), (0, .ref a_this)]) C.1 C.2.1 dX7_allLost_1 rfl hl (by decide) rfl (fun ls hl => ?_)
    refine lv_iconst (v := 0) C.1 C.2.1 dX7_allLost_2 (by decide) ?_
    refine lv_istore_n (lv' := [(2, .int (0 : Int32)), (1, .int (0 : Int32)), (0, .ref a_this)]) C.1 C.2.1 dX7_allLost_3 rfl hl (by decide) rfl (fun ls hl => ?_)
    exact b_X7_allLost_4 C hr hlk hK hA FU v_now (0 : Int32) (0 : Int32) _ _ _ hF hP hD hS (lv_sub hl [2, 1, 0] rfl))
def rm_X7_byOf : Room := { frames := 0, cells := 0, slots := 0, locals := 0 }
theorem cs_X7_byOf : CS yX7_byOf cX7_byOf 1 (some .int) rm_X7_byOf RX7 1 := ⟨kw4_234, kw1_8, kw4_235, by decide +kernel, rfl, rfl⟩
set_option maxHeartbeats 4000000 in
set_option maxRecDepth 100000 in
theorem c_X7_byOf {l : Launch} {D : va_G} {cI cB cZ cR cM cS : ClassId} {x0 : Int32} {res : Int32} (hF : F_X7_byOf x0 = some res) : MI l yX7_byOf cX7_byOf 1 .int rm_X7_byOf D (TS cI cB cZ cR cM cS) [.int x0] [] [] res :=
  MI_of (by decide) (Nat.le_of_ble_eq_true rfl) (fun p e s m args below meth c A ls C hr hlk hK hA hP hD hS hl => by
    have C : CX p m c cX7_byOf 1 s args RX7 := C
    have hl : lv_has ls 1 [(0, .int x0)] := hl
    unfold F_X7_byOf at hF
    refine lv_iload_n C.1 C.2.1 dX7_byOf_0 rfl (lv_at hl 0 rfl) ?_
    refine lv_iconst (v := 3) C.1 C.2.1 dX7_byOf_1 (by decide) ?_
    refine lv_icmp_ne (tgt := 9) C.1 C.2.1 dX7_byOf_2 (by decide) (fun c1 => ?_) (fun c1 => ?_)
    · have hF := fn hF c1
      refine lv_iload_n C.1 C.2.1 dX7_byOf_9 rfl (lv_at hl 0 rfl) ?_
      refine lv_iconst (v := 2) C.1 C.2.1 dX7_byOf_10 (by decide) ?_
      refine lv_icmp_ne (tgt := 18) C.1 C.2.1 dX7_byOf_11 (by decide) (fun c2 => ?_) (fun c2 => ?_)
      · have hF := fn hF c2
        refine lv_iload_n C.1 C.2.1 dX7_byOf_18 rfl (lv_at hl 0 rfl) ?_
        have hF := Option.some.inj hF
        subst hF
        exact retI C hr hlk hP hD hS dX7_byOf_19
      · have hF := fp hF c2
        refine lv_iconst (v := (-1)) C.1 C.2.1 dX7_byOf_14 (by decide) ?_
        refine lv_goto (tgt := 19) C.1 C.2.1 dX7_byOf_15 (by decide) ?_
        have hF := Option.some.inj hF
        subst hF
        exact retI C hr hlk hP hD hS dX7_byOf_19
    · have hF := fp hF c1
      refine lv_iconst (v := 2) C.1 C.2.1 dX7_byOf_5 (by decide) ?_
      refine lv_goto (tgt := 19) C.1 C.2.1 dX7_byOf_6 (by decide) ?_
      have hF := Option.some.inj hF
      subst hF
      exact retI C hr hlk hP hD hS dX7_byOf_19)
def rm_X7_movesBy : Room := { frames := 1, cells := 0, slots := 0, locals := 22 }
theorem cv_X7_movesBy : CV yX7_movesBy cX7_movesBy 5 (some .int) rm_X7_movesBy RX7 2 := ⟨kw5_10, kwp_50, kw1_8, kw5_11, by decide +kernel, rfl, rfl⟩
set_option maxHeartbeats 4000000 in
set_option maxRecDepth 100000 in
theorem b_X7_movesBy_9 {l : Launch} {D : va_G} {cI cB cZ cR cM cS : ClassId} {a_this : Nat} {a_st : Nat} {a_now : Nat} {a_isKept : Nat} {a_draft : Nat} {a_tape : Nat} {a_wereAt : Nat} {a_byPlace : Nat} {a_lanes : Nat} {a_sizes : Nat} {a_cells : Nat} {a_before : Nat} {v_hasSigns : Int32} {v_hasEvery : Int32} {v_taped : Int32} {v_pos : Int32} {v_begun : Int32} {v_sort : Int32} {v_value : Int32} {v_fault : Int32} {v_wrongAt : Int32} {v_moved : Int32} {v_slipTicks : Int32} {v_bestCode : Int32} {v_bestMuch : Int32} {v_straightSum : Int64} {v_movedSum : Int64} {v_allWays : Int64} {v_torn : Int32} {p : Program} {e : Env} {s : State} {m : MethodId} {args : Array Value} {below : List Frame} {meth : Method} {c : Code} {A : Nat → Prop} {res : Int32} (C : CX p m c cX7_movesBy 5 s args RX7) (hr : meth.sig.returnType = (some .int)) (hlk : meth.locks = false) (hK : KK D (TS cI cB cZ cR cM cS) s) (hA : ∀ q, s.heap.size ≤ q → A q) : ∀ (v_now : Nat → Int32) (x1 : Int32) (x2 : Int32) (s0 : Int32) (H : Heap) (locs : List Loc) (ls : Array Slot), F_X7_movesBy_9 v_now x1 x2 s0 = some res → va_P D vwCl [(a_this, .inr (7, [.ref a_st, .ref a_now, .ref a_isKept, .ref a_draft, .int v_hasSigns, .int v_hasEvery, .ref a_tape, .int v_taped, .int v_pos, .int v_begun, .int v_sort, .int v_value, .int v_fault, .int v_wrongAt, .int v_moved, .int v_slipTicks, .int v_bestCode, .int v_bestMuch, .long v_straightSum, .long v_movedSum, .long v_allWays, .ref a_wereAt, .ref a_byPlace, .ref a_lanes, .ref a_sizes, .ref a_cells, .int v_torn, .ref a_before])), (a_now, .inl (cI, 56, .inl v_now))] H → va_D A [(a_this, .inr (7, [.ref a_st, .ref a_now, .ref a_isKept, .ref a_draft, .int v_hasSigns, .int v_hasEvery, .ref a_tape, .int v_taped, .int v_pos, .int v_begun, .int v_sort, .int v_value, .int v_fault, .int v_wrongAt, .int v_moved, .int v_slipTicks, .int v_bestCode, .int v_bestMuch, .long v_straightSum, .long v_movedSum, .long v_allWays, .ref a_wereAt, .ref a_byPlace, .ref a_lanes, .ref a_sizes, .ref a_cells, .int v_torn, .ref a_before])), (a_now, .inl (cI, 56, .inl v_now))] → va_S A s.heap H locs → lv_has ls 5 [(0, .ref a_this), (1, .int x1), (2, .int x2)] → W p l e rm_X7_movesBy s m args below meth c H locs 0 0 (MQ below (va_Qi (fun x (_ : Unit) => x = res) (BW D A [(a_this, .inr (7, [.ref a_st, .ref a_now, .ref a_isKept, .ref a_draft, .int v_hasSigns, .int v_hasEvery, .ref a_tape, .int v_taped, .int v_pos, .int v_begun, .int v_sort, .int v_value, .int v_fault, .int v_wrongAt, .int v_moved, .int v_slipTicks, .int v_bestCode, .int v_bestMuch, .long v_straightSum, .long v_movedSum, .long v_allWays, .ref a_wereAt, .ref a_byPlace, .ref a_lanes, .ref a_sizes, .ref a_cells, .int v_torn, .ref a_before])), (a_now, .inl (cI, 56, .inl v_now))]) A) args s 0 0 A) (F0 m 9 ls [.int s0]) := by
  intro v_now x1 x2 s0 H locs ls hF  hP hD hS hl
  unfold F_X7_movesBy_9 at hF
  refine lv_istore_n (lv' := [(3, .int s0), (0, .ref a_this), (1, .int x1), (2, .int x2)]) C.1 C.2.1 dX7_movesBy_9 rfl hl (by decide) rfl (fun ls hl => ?_)
  refine lv_iload_n C.1 C.2.1 dX7_movesBy_10 rfl (lv_at hl 3 rfl) ?_
  obtain ⟨r1, h2, hF⟩ := fb hF
  refine callSI C hK hA hP hD hS (c_X7_amount  h2) cs_X7_amount kw4_159 ⟨Nat.le_of_ble_eq_true rfl, Nat.le_of_ble_eq_true rfl⟩ ⟨Nat.zero_le _, Nat.zero_le _⟩ hl.1 rfl (Nat.le_of_ble_eq_true rfl) dX7_movesBy_11 (fun H locs hP hD hS => ?_)
  refine lv_istore (lv' := [(4, .int r1), (3, .int s0), (0, .ref a_this), (1, .int x1), (2, .int x2)]) C.1 C.2.1 dX7_movesBy_14 hl (by decide) rfl (fun ls hl => ?_)
  refine lv_aload_n C.1 C.2.1 dX7_movesBy_16 rfl (lv_at hl 2 rfl) ?_
  refine lv_iload_n C.1 C.2.1 dX7_movesBy_17 rfl (lv_at hl 3 rfl) ?_
  refine lv_iconst (v := 0) C.1 C.2.1 dX7_movesBy_18 (by decide) ?_
  obtain ⟨r3, h4, hF⟩ := fb hF
  refine callVI C hK hA hP hD hS [0, 1] (c_X7_of (a_this := a_this) (a_st := a_st) (a_now := a_now) (a_isKept := a_isKept) (a_draft := a_draft) (a_tape := a_tape) (a_wereAt := a_wereAt) (a_byPlace := a_byPlace) (a_lanes := a_lanes) (a_sizes := a_sizes) (a_cells := a_cells) (a_before := a_before) (v_hasSigns := v_hasSigns) (v_hasEvery := v_hasEvery) (v_taped := v_taped) (v_pos := v_pos) (v_begun := v_begun) (v_sort := v_sort) (v_value := v_value) (v_fault := v_fault) (v_wrongAt := v_wrongAt) (v_moved := v_moved) (v_slipTicks := v_slipTicks) (v_bestCode := v_bestCode) (v_bestMuch := v_bestMuch) (v_straightSum := v_straightSum) (v_movedSum := v_movedSum) (v_allWays := v_allWays) (v_torn := v_torn) (v_now := v_now) h4) cv_X7_of kw4_152 rfl (by decide) rfl rfl rfl ⟨Nat.le_of_ble_eq_true rfl, Nat.le_of_ble_eq_true rfl⟩ ⟨Nat.zero_le _, Nat.zero_le _⟩ hl.1 rfl (Nat.le_of_ble_eq_true rfl) dX7_movesBy_19 (fun H locs hP hD hS => ?_)
  have hP : va_P D vwCl [(a_this, .inr (7, [.ref a_st, .ref a_now, .ref a_isKept, .ref a_draft, .int v_hasSigns, .int v_hasEvery, .ref a_tape, .int v_taped, .int v_pos, .int v_begun, .int v_sort, .int v_value, .int v_fault, .int v_wrongAt, .int v_moved, .int v_slipTicks, .int v_bestCode, .int v_bestMuch, .long v_straightSum, .long v_movedSum, .long v_allWays, .ref a_wereAt, .ref a_byPlace, .ref a_lanes, .ref a_sizes, .ref a_cells, .int v_torn, .ref a_before])), (a_now, .inl (cI, 56, .inl v_now))] H := hP
  have hD : va_D A [(a_this, .inr (7, [.ref a_st, .ref a_now, .ref a_isKept, .ref a_draft, .int v_hasSigns, .int v_hasEvery, .ref a_tape, .int v_taped, .int v_pos, .int v_begun, .int v_sort, .int v_value, .int v_fault, .int v_wrongAt, .int v_moved, .int v_slipTicks, .int v_bestCode, .int v_bestMuch, .long v_straightSum, .long v_movedSum, .long v_allWays, .ref a_wereAt, .ref a_byPlace, .ref a_lanes, .ref a_sizes, .ref a_cells, .int v_torn, .ref a_before])), (a_now, .inl (cI, 56, .inl v_now))] := hD
  by_cases c5 : r3 = (1 : Int32)
  · have hF := fp hF c5
    refine lv_tableIn (tgt := 48) C.1 C.2.1 dX7_movesBy_22 (by rw [c5]; decide) (by rw [c5]; decide) (by rw [c5]; rfl) (by decide) ?_
    refine lv_iload C.1 C.2.1 dX7_movesBy_48 (lv_at hl 0 rfl) ?_
    refine lv_iconst (v := 1) C.1 C.2.1 dX7_movesBy_50 (by decide) ?_
    refine lv_icmp_le (tgt := 60) C.1 C.2.1 dX7_movesBy_51 (by decide) (fun c6 => ?_) (fun c6 => ?_)
    · have hF := fp hF c6
      refine lv_iload_n C.1 C.2.1 dX7_movesBy_60 rfl (lv_at hl 1 rfl) ?_
      have hF := Option.some.inj hF
      subst hF
      exact retI C hr hlk hP hD hS dX7_movesBy_61
    · have hF := fn hF c6
      refine lv_iconst (v := 2) C.1 C.2.1 dX7_movesBy_54 (by decide) ?_
      refine lv_iload_n C.1 C.2.1 dX7_movesBy_55 rfl (lv_at hl 1 rfl) ?_
      refine lv_imul C.1 C.2.1 dX7_movesBy_56 ?_
      refine lv_goto (tgt := 61) C.1 C.2.1 dX7_movesBy_57 (by decide) ?_
      have hF := Option.some.inj hF
      subst hF
      exact retI C hr hlk hP hD hS dX7_movesBy_61
  · have hF := fn hF c5
    by_cases c7 : r3 = (2 : Int32)
    · have hF := fp hF c7
      refine lv_tableIn (tgt := 62) C.1 C.2.1 dX7_movesBy_22 (by rw [c7]; decide) (by rw [c7]; decide) (by rw [c7]; rfl) (by decide) ?_
      refine lv_aload_n C.1 C.2.1 dX7_movesBy_62 rfl (lv_at hl 2 rfl) ?_
      refine lv_iload_n C.1 C.2.1 dX7_movesBy_63 rfl (lv_at hl 3 rfl) ?_
      refine lv_iconst (v := 3) C.1 C.2.1 dX7_movesBy_64 (by decide) ?_
      obtain ⟨r8, h9, hF⟩ := fb hF
      refine callVI C hK hA hP hD hS [0, 1] (c_X7_of (a_this := a_this) (a_st := a_st) (a_now := a_now) (a_isKept := a_isKept) (a_draft := a_draft) (a_tape := a_tape) (a_wereAt := a_wereAt) (a_byPlace := a_byPlace) (a_lanes := a_lanes) (a_sizes := a_sizes) (a_cells := a_cells) (a_before := a_before) (v_hasSigns := v_hasSigns) (v_hasEvery := v_hasEvery) (v_taped := v_taped) (v_pos := v_pos) (v_begun := v_begun) (v_sort := v_sort) (v_value := v_value) (v_fault := v_fault) (v_wrongAt := v_wrongAt) (v_moved := v_moved) (v_slipTicks := v_slipTicks) (v_bestCode := v_bestCode) (v_bestMuch := v_bestMuch) (v_straightSum := v_straightSum) (v_movedSum := v_movedSum) (v_allWays := v_allWays) (v_torn := v_torn) (v_now := v_now) h9) cv_X7_of kw4_152 rfl (by decide) rfl rfl rfl ⟨Nat.le_of_ble_eq_true rfl, Nat.le_of_ble_eq_true rfl⟩ ⟨Nat.zero_le _, Nat.zero_le _⟩ hl.1 rfl (Nat.le_of_ble_eq_true rfl) dX7_movesBy_65 (fun H locs hP hD hS => ?_)
      have hP : va_P D vwCl [(a_this, .inr (7, [.ref a_st, .ref a_now, .ref a_isKept, .ref a_draft, .int v_hasSigns, .int v_hasEvery, .ref a_tape, .int v_taped, .int v_pos, .int v_begun, .int v_sort, .int v_value, .int v_fault, .int v_wrongAt, .int v_moved, .int v_slipTicks, .int v_bestCode, .int v_bestMuch, .long v_straightSum, .long v_movedSum, .long v_allWays, .ref a_wereAt, .ref a_byPlace, .ref a_lanes, .ref a_sizes, .ref a_cells, .int v_torn, .ref a_before])), (a_now, .inl (cI, 56, .inl v_now))] H := hP
      have hD : va_D A [(a_this, .inr (7, [.ref a_st, .ref a_now, .ref a_isKept, .ref a_draft, .int v_hasSigns, .int v_hasEvery, .ref a_tape, .int v_taped, .int v_pos, .int v_begun, .int v_sort, .int v_value, .int v_fault, .int v_wrongAt, .int v_moved, .int v_slipTicks, .int v_bestCode, .int v_bestMuch, .long v_straightSum, .long v_movedSum, .long v_allWays, .ref a_wereAt, .ref a_byPlace, .ref a_lanes, .ref a_sizes, .ref a_cells, .int v_torn, .ref a_before])), (a_now, .inl (cI, 56, .inl v_now))] := hD
      refine lv_iload_n C.1 C.2.1 dX7_movesBy_68 rfl (lv_at hl 1 rfl) ?_
      refine lv_icmp_ne (tgt := 76) C.1 C.2.1 dX7_movesBy_69 (by decide) (fun c10 => ?_) (fun c10 => ?_)
      · have hF := fn hF c10
        refine lv_iconst (v := 0) C.1 C.2.1 dX7_movesBy_76 (by decide) ?_
        have hF := Option.some.inj hF
        subst hF
        exact retI C hr hlk hP hD hS dX7_movesBy_77
      · have hF := fp hF c10
        refine lv_iload_n C.1 C.2.1 dX7_movesBy_72 rfl (lv_at hl 1 rfl) ?_
        refine lv_goto (tgt := 77) C.1 C.2.1 dX7_movesBy_73 (by decide) ?_
        have hF := Option.some.inj hF
        subst hF
        exact retI C hr hlk hP hD hS dX7_movesBy_77
    · have hF := fn hF c7
      by_cases c11 : r3 = (3 : Int32)
      · have hF := fp hF c11
        refine lv_tableIn (tgt := 78) C.1 C.2.1 dX7_movesBy_22 (by rw [c11]; decide) (by rw [c11]; decide) (by rw [c11]; rfl) (by decide) ?_
        refine lv_aload_n C.1 C.2.1 dX7_movesBy_78 rfl (lv_at hl 2 rfl) ?_
        refine lv_iload_n C.1 C.2.1 dX7_movesBy_79 rfl (lv_at hl 3 rfl) ?_
        refine lv_iconst (v := 3) C.1 C.2.1 dX7_movesBy_80 (by decide) ?_
        obtain ⟨r12, h13, hF⟩ := fb hF
        refine callVI C hK hA hP hD hS [0, 1] (c_X7_of (a_this := a_this) (a_st := a_st) (a_now := a_now) (a_isKept := a_isKept) (a_draft := a_draft) (a_tape := a_tape) (a_wereAt := a_wereAt) (a_byPlace := a_byPlace) (a_lanes := a_lanes) (a_sizes := a_sizes) (a_cells := a_cells) (a_before := a_before) (v_hasSigns := v_hasSigns) (v_hasEvery := v_hasEvery) (v_taped := v_taped) (v_pos := v_pos) (v_begun := v_begun) (v_sort := v_sort) (v_value := v_value) (v_fault := v_fault) (v_wrongAt := v_wrongAt) (v_moved := v_moved) (v_slipTicks := v_slipTicks) (v_bestCode := v_bestCode) (v_bestMuch := v_bestMuch) (v_straightSum := v_straightSum) (v_movedSum := v_movedSum) (v_allWays := v_allWays) (v_torn := v_torn) (v_now := v_now) h13) cv_X7_of kw4_152 rfl (by decide) rfl rfl rfl ⟨Nat.le_of_ble_eq_true rfl, Nat.le_of_ble_eq_true rfl⟩ ⟨Nat.zero_le _, Nat.zero_le _⟩ hl.1 rfl (Nat.le_of_ble_eq_true rfl) dX7_movesBy_81 (fun H locs hP hD hS => ?_)
        have hP : va_P D vwCl [(a_this, .inr (7, [.ref a_st, .ref a_now, .ref a_isKept, .ref a_draft, .int v_hasSigns, .int v_hasEvery, .ref a_tape, .int v_taped, .int v_pos, .int v_begun, .int v_sort, .int v_value, .int v_fault, .int v_wrongAt, .int v_moved, .int v_slipTicks, .int v_bestCode, .int v_bestMuch, .long v_straightSum, .long v_movedSum, .long v_allWays, .ref a_wereAt, .ref a_byPlace, .ref a_lanes, .ref a_sizes, .ref a_cells, .int v_torn, .ref a_before])), (a_now, .inl (cI, 56, .inl v_now))] H := hP
        have hD : va_D A [(a_this, .inr (7, [.ref a_st, .ref a_now, .ref a_isKept, .ref a_draft, .int v_hasSigns, .int v_hasEvery, .ref a_tape, .int v_taped, .int v_pos, .int v_begun, .int v_sort, .int v_value, .int v_fault, .int v_wrongAt, .int v_moved, .int v_slipTicks, .int v_bestCode, .int v_bestMuch, .long v_straightSum, .long v_movedSum, .long v_allWays, .ref a_wereAt, .ref a_byPlace, .ref a_lanes, .ref a_sizes, .ref a_cells, .int v_torn, .ref a_before])), (a_now, .inl (cI, 56, .inl v_now))] := hD
        refine lv_iload_n C.1 C.2.1 dX7_movesBy_84 rfl (lv_at hl 1 rfl) ?_
        refine lv_icmp_ne (tgt := 98) C.1 C.2.1 dX7_movesBy_85 (by decide) (fun c14 => ?_) (fun c14 => ?_)
        · have hF := fn hF c14
          refine lv_iconst (v := 0) C.1 C.2.1 dX7_movesBy_98 (by decide) ?_
          have hF := Option.some.inj hF
          subst hF
          exact retI C hr hlk hP hD hS dX7_movesBy_99
        · have hF := fp hF c14
          refine lv_iload C.1 C.2.1 dX7_movesBy_88 (lv_at hl 0 rfl) ?_
          refine lv_iconst (v := 1) C.1 C.2.1 dX7_movesBy_90 (by decide) ?_
          refine lv_icmp_le (tgt := 98) C.1 C.2.1 dX7_movesBy_91 (by decide) (fun c15 => ?_) (fun c15 => ?_)
          · have hF := fp hF c15
            refine lv_iconst (v := 0) C.1 C.2.1 dX7_movesBy_98 (by decide) ?_
            have hF := Option.some.inj hF
            subst hF
            exact retI C hr hlk hP hD hS dX7_movesBy_99
          · have hF := fn hF c15
            refine lv_iload_n C.1 C.2.1 dX7_movesBy_94 rfl (lv_at hl 1 rfl) ?_
            refine lv_goto (tgt := 99) C.1 C.2.1 dX7_movesBy_95 (by decide) ?_
            have hF := Option.some.inj hF
            subst hF
            exact retI C hr hlk hP hD hS dX7_movesBy_99
      · have hF := fn hF c11
        refine lv_tableOut (tgt := 100) C.1 C.2.1 dX7_movesBy_22 (by have q0 := lv_neT (k := 1) (a := 1) c5 (by decide); have q1 := lv_neT (k := 2) (a := 2) c7 (by decide); have q2 := lv_neT (k := 3) (a := 3) c11 (by decide); omega) (by decide) ?_
        refine lv_iload_n C.1 C.2.1 dX7_movesBy_100 rfl (lv_at hl 1 rfl) ?_
        have hF := Option.some.inj hF
        subst hF
        exact retI C hr hlk hP hD hS dX7_movesBy_101
set_option maxHeartbeats 4000000 in
set_option maxRecDepth 100000 in
theorem c_X7_movesBy {l : Launch} {D : va_G} {cI cB cZ cR cM cS : ClassId} {a_this : Nat} {a_st : Nat} {a_now : Nat} {a_isKept : Nat} {a_draft : Nat} {a_tape : Nat} {a_wereAt : Nat} {a_byPlace : Nat} {a_lanes : Nat} {a_sizes : Nat} {a_cells : Nat} {a_before : Nat} {v_hasSigns : Int32} {v_hasEvery : Int32} {v_taped : Int32} {v_pos : Int32} {v_begun : Int32} {v_sort : Int32} {v_value : Int32} {v_fault : Int32} {v_wrongAt : Int32} {v_moved : Int32} {v_slipTicks : Int32} {v_bestCode : Int32} {v_bestMuch : Int32} {v_straightSum : Int64} {v_movedSum : Int64} {v_allWays : Int64} {v_torn : Int32} {v_now : Nat → Int32} {x1 : Int32} {x2 : Int32} {res : Int32} (hF : F_X7_movesBy v_now x1 x2 = some res) : MI l yX7_movesBy cX7_movesBy 5 .int rm_X7_movesBy D (TS cI cB cZ cR cM cS) [.ref a_this, .int x1, .int x2] [(a_this, .inr (7, [.ref a_st, .ref a_now, .ref a_isKept, .ref a_draft, .int v_hasSigns, .int v_hasEvery, .ref a_tape, .int v_taped, .int v_pos, .int v_begun, .int v_sort, .int v_value, .int v_fault, .int v_wrongAt, .int v_moved, .int v_slipTicks, .int v_bestCode, .int v_bestMuch, .long v_straightSum, .long v_movedSum, .long v_allWays, .ref a_wereAt, .ref a_byPlace, .ref a_lanes, .ref a_sizes, .ref a_cells, .int v_torn, .ref a_before])), (a_now, .inl (cI, 56, .inl v_now))] [(a_this, .inr (7, [.ref a_st, .ref a_now, .ref a_isKept, .ref a_draft, .int v_hasSigns, .int v_hasEvery, .ref a_tape, .int v_taped, .int v_pos, .int v_begun, .int v_sort, .int v_value, .int v_fault, .int v_wrongAt, .int v_moved, .int v_slipTicks, .int v_bestCode, .int v_bestMuch, .long v_straightSum, .long v_movedSum, .long v_allWays, .ref a_wereAt, .ref a_byPlace, .ref a_lanes, .ref a_sizes, .ref a_cells, .int v_torn, .ref a_before])), (a_now, .inl (cI, 56, .inl v_now))] res :=
  MI_of (by decide) (Nat.le_of_ble_eq_true rfl) (fun p e s m args below meth c A ls C hr hlk hK hA hP hD hS hl => by
    have C : CX p m c cX7_movesBy 5 s args RX7 := C
    have hl : lv_has ls 5 [(0, .ref a_this), (1, .int x1), (2, .int x2)] := hl
    unfold F_X7_movesBy at hF
    refine lv_iload_n C.1 C.2.1 dX7_movesBy_0 rfl (lv_at hl 2 rfl) ?_
    refine lv_if_ge (tgt := 8) C.1 C.2.1 dX7_movesBy_1 (by decide) (fun c1 => ?_) (fun c1 => ?_)
    · have hF := fp hF c1
      refine lv_iconst (v := 1) C.1 C.2.1 dX7_movesBy_8 (by decide) ?_
      exact b_X7_movesBy_9 C hr hlk hK hA v_now x1 x2 (1 : Int32) _ _ _ hF hP hD hS (lv_sub hl [0, 1, 2] rfl)
    · have hF := fn hF c1
      refine lv_iconst (v := (-1)) C.1 C.2.1 dX7_movesBy_4 (by decide) ?_
      refine lv_goto (tgt := 9) C.1 C.2.1 dX7_movesBy_5 (by decide) ?_
      exact b_X7_movesBy_9 C hr hlk hK hA v_now x1 x2 ((-1) : Int32) _ _ _ hF hP hD hS (lv_sub hl [0, 1, 2] rfl))
