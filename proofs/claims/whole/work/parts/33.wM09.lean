def rm_X7_begin : Room := { frames := 7, cells := 0, slots := 0, locals := 154 }
theorem cv_X7_begin : CV yX7_begin cX7_begin 5 (some .int) rm_X7_begin RX7 3 := ⟨kw5_77, kw5_78, kw1_8, kw5_79, by decide +kernel, rfl, rfl⟩
set_option maxHeartbeats 4000000 in
set_option maxRecDepth 100000 in
theorem b_X7_begin_33 {l : Launch} {D : va_G} {cI cB cZ cR cM cS : ClassId} {a_this : Nat} {a_st : Nat} {a_now : Nat} {a_isKept : Nat} {a_draft : Nat} {a_tape : Nat} {a_wereAt : Nat} {a_byPlace : Nat} {a_lanes : Nat} {a_sizes : Nat} {a_cells : Nat} {a_before : Nat} {v_hasSigns : Int32} {v_hasEvery : Int32} {v_taped : Int32} {v_pos : Int32} {v_begun : Int32} {v_sort : Int32} {v_value : Int32} {v_fault : Int32} {v_wrongAt : Int32} {v_straightSum : Int64} {v_movedSum : Int64} {v_allWays : Int64} {v_torn : Int32} {p : Program} {e : Env} {s : State} {m : MethodId} {args : Array Value} {below : List Frame} {meth : Method} {c : Code} {A : Nat → Prop} {res : Int32 × Int32 × Int32 × Int32 × Int32 × (Nat → Int32)} (C : CX p m c cX7_begin 5 s args RX7) (hr : meth.sig.returnType = (some .int)) (hlk : meth.locks = false) (hK : KK D (TS cI cB cZ cR cM cS) s) (hA : ∀ q, s.heap.size ≤ q → A q) : ∀ (fu : Nat) (v_moved : Int32) (v_slipTicks : Int32) (v_bestCode : Int32) (v_bestMuch : Int32) (v_st : Nat → Int32) (v_now : Nat → Int32) (x1 : Int32) (x2 : Int32) (x3 : Int32) (x4 : Int32) (H : Heap) (locs : List Loc) (ls : Array Slot), F_X7_begin_33 fu v_moved v_slipTicks v_bestCode v_bestMuch v_st v_now x1 x2 x3 x4 = some res → va_P D vwCl [(a_this, .inr (7, [.ref a_st, .ref a_now, .ref a_isKept, .ref a_draft, .int v_hasSigns, .int v_hasEvery, .ref a_tape, .int v_taped, .int v_pos, .int v_begun, .int v_sort, .int v_value, .int v_fault, .int v_wrongAt, .int v_moved, .int v_slipTicks, .int v_bestCode, .int v_bestMuch, .long v_straightSum, .long v_movedSum, .long v_allWays, .ref a_wereAt, .ref a_byPlace, .ref a_lanes, .ref a_sizes, .ref a_cells, .int v_torn, .ref a_before])), (a_st, .inl (cI, 168, .inl v_st)), (a_now, .inl (cI, 56, .inl v_now))] H → va_D A [(a_this, .inr (7, [.ref a_st, .ref a_now, .ref a_isKept, .ref a_draft, .int v_hasSigns, .int v_hasEvery, .ref a_tape, .int v_taped, .int v_pos, .int v_begun, .int v_sort, .int v_value, .int v_fault, .int v_wrongAt, .int v_moved, .int v_slipTicks, .int v_bestCode, .int v_bestMuch, .long v_straightSum, .long v_movedSum, .long v_allWays, .ref a_wereAt, .ref a_byPlace, .ref a_lanes, .ref a_sizes, .ref a_cells, .int v_torn, .ref a_before])), (a_st, .inl (cI, 168, .inl v_st)), (a_now, .inl (cI, 56, .inl v_now))] → va_S A s.heap H locs → lv_has ls 5 [(0, .ref a_this), (1, .int x1), (2, .int x2), (3, .int x3), (4, .int x4)] → W p l e rm_X7_begin s m args below meth c H locs 0 0 (MQ below (va_Qi (fun x (_ : Unit) => x = res.1) (BW D A [(a_this, .inr (7, [.ref a_st, .ref a_now, .ref a_isKept, .ref a_draft, .int v_hasSigns, .int v_hasEvery, .ref a_tape, .int v_taped, .int v_pos, .int v_begun, .int v_sort, .int v_value, .int v_fault, .int v_wrongAt, .int res.2.1, .int res.2.2.1, .int res.2.2.2.1, .int res.2.2.2.2.1, .long v_straightSum, .long v_movedSum, .long v_allWays, .ref a_wereAt, .ref a_byPlace, .ref a_lanes, .ref a_sizes, .ref a_cells, .int v_torn, .ref a_before])), (a_st, .inl (cI, 168, .inl v_st)), (a_now, .inl (cI, 56, .inl res.2.2.2.2.2))]) A) args s 0 0 A) (F0 m 33 ls []) := by
  intro fu
  induction fu with
  | zero => intro v_moved v_slipTicks v_bestCode v_bestMuch v_st v_now x1 x2 x3 x4 H locs ls hF; cases hF
  | succ fu ih =>
    intro v_moved v_slipTicks v_bestCode v_bestMuch v_st v_now x1 x2 x3 x4 H locs ls hF  hP hD hS hl
    unfold F_X7_begin_33 at hF
    refine lv_iload C.1 C.2.1 dX7_begin_33 (lv_at hl 4 rfl) ?_
    refine lv_bipush (v := 8) C.1 C.2.1 dX7_begin_35 (by decide) ?_
    refine lv_icmp_ge (tgt := 76) C.1 C.2.1 dX7_begin_37 (by decide) (fun c1 => ?_) (fun c1 => ?_)
    · have hF := fp hF c1
      refine lv_aload_n C.1 C.2.1 dX7_begin_76 rfl (lv_at hl 0 rfl) ?_
      refine lv_iload_n C.1 C.2.1 dX7_begin_77 rfl (lv_at hl 3 rfl) ?_
      obtain ⟨r2, h3, hF⟩ := fb hF
      refine callVI C hK hA hP hD hS [0] (c_X7_judged (a_this := a_this) (a_st := a_st) (a_now := a_now) (a_isKept := a_isKept) (a_draft := a_draft) (a_tape := a_tape) (a_wereAt := a_wereAt) (a_byPlace := a_byPlace) (a_lanes := a_lanes) (a_sizes := a_sizes) (a_cells := a_cells) (a_before := a_before) (v_hasSigns := v_hasSigns) (v_hasEvery := v_hasEvery) (v_taped := v_taped) (v_pos := v_pos) (v_begun := v_begun) (v_sort := v_sort) (v_value := v_value) (v_fault := v_fault) (v_wrongAt := v_wrongAt) (v_moved := v_moved) (v_slipTicks := v_slipTicks) (v_bestCode := v_bestCode) (v_bestMuch := v_bestMuch) (v_straightSum := v_straightSum) (v_movedSum := v_movedSum) (v_allWays := v_allWays) (v_torn := v_torn) h3) cv_X7_judged kw5_64 rfl (by decide) rfl rfl rfl ⟨Nat.le_of_ble_eq_true rfl, Nat.le_of_ble_eq_true rfl⟩ ⟨Nat.zero_le _, Nat.zero_le _⟩ hl.1 rfl (Nat.le_of_ble_eq_true rfl) dX7_begin_78 (fun H locs hP hD hS => ?_)
      have hP : va_P D vwCl [(a_this, .inr (7, [.ref a_st, .ref a_now, .ref a_isKept, .ref a_draft, .int v_hasSigns, .int v_hasEvery, .ref a_tape, .int v_taped, .int v_pos, .int v_begun, .int v_sort, .int v_value, .int v_fault, .int v_wrongAt, .int v_moved, .int v_slipTicks, .int v_bestCode, .int v_bestMuch, .long v_straightSum, .long v_movedSum, .long v_allWays, .ref a_wereAt, .ref a_byPlace, .ref a_lanes, .ref a_sizes, .ref a_cells, .int v_torn, .ref a_before])), (a_st, .inl (cI, 168, .inl v_st)), (a_now, .inl (cI, 56, .inl v_now))] H := hP
      have hD : va_D A [(a_this, .inr (7, [.ref a_st, .ref a_now, .ref a_isKept, .ref a_draft, .int v_hasSigns, .int v_hasEvery, .ref a_tape, .int v_taped, .int v_pos, .int v_begun, .int v_sort, .int v_value, .int v_fault, .int v_wrongAt, .int v_moved, .int v_slipTicks, .int v_bestCode, .int v_bestMuch, .long v_straightSum, .long v_movedSum, .long v_allWays, .ref a_wereAt, .ref a_byPlace, .ref a_lanes, .ref a_sizes, .ref a_cells, .int v_torn, .ref a_before])), (a_st, .inl (cI, 168, .inl v_st)), (a_now, .inl (cI, 56, .inl v_now))] := hD
      have hF := Option.some.inj hF
      subst hF
      exact retI C hr hlk hP hD hS dX7_begin_81
    · have hF := fn hF c1
      refine lv_aload_n C.1 C.2.1 dX7_begin_40 rfl (lv_at hl 0 rfl) ?_
      obtain ⟨⟨w4, w5, w6⟩, h7, hF⟩ := fb hF
      refine callVV C hK hA hP hD hS [0, 1, 2] (c_X7_takesAll (a_this := a_this) (a_st := a_st) (a_now := a_now) (a_isKept := a_isKept) (a_draft := a_draft) (a_tape := a_tape) (a_wereAt := a_wereAt) (a_byPlace := a_byPlace) (a_lanes := a_lanes) (a_sizes := a_sizes) (a_cells := a_cells) (a_before := a_before) (v_hasSigns := v_hasSigns) (v_hasEvery := v_hasEvery) (v_taped := v_taped) (v_pos := v_pos) (v_begun := v_begun) (v_sort := v_sort) (v_value := v_value) (v_fault := v_fault) (v_wrongAt := v_wrongAt) (v_moved := v_moved) (v_slipTicks := v_slipTicks) (v_bestCode := v_bestCode) (v_bestMuch := v_bestMuch) (v_straightSum := v_straightSum) (v_movedSum := v_movedSum) (v_allWays := v_allWays) (v_torn := v_torn) (v_st := v_st) (v_now := v_now) h7) cv_X7_takesAll kw4_135 rfl (by decide) rfl rfl rfl ⟨Nat.le_of_ble_eq_true rfl, Nat.le_of_ble_eq_true rfl⟩ ⟨Nat.zero_le _, Nat.zero_le _⟩ hl.1 rfl (Nat.le_of_ble_eq_true rfl) dX7_begin_41 (fun H locs hP hD hS => ?_)
      have hP : va_P D vwCl [(a_this, .inr (7, [.ref a_st, .ref a_now, .ref a_isKept, .ref a_draft, .int v_hasSigns, .int v_hasEvery, .ref a_tape, .int v_taped, .int v_pos, .int v_begun, .int v_sort, .int v_value, .int v_fault, .int v_wrongAt, .int w4, .int w5, .int v_bestCode, .int v_bestMuch, .long v_straightSum, .long v_movedSum, .long v_allWays, .ref a_wereAt, .ref a_byPlace, .ref a_lanes, .ref a_sizes, .ref a_cells, .int v_torn, .ref a_before])), (a_st, .inl (cI, 168, .inl v_st)), (a_now, .inl (cI, 56, .inl w6))] H := hP
      have hD : va_D A [(a_this, .inr (7, [.ref a_st, .ref a_now, .ref a_isKept, .ref a_draft, .int v_hasSigns, .int v_hasEvery, .ref a_tape, .int v_taped, .int v_pos, .int v_begun, .int v_sort, .int v_value, .int v_fault, .int v_wrongAt, .int w4, .int w5, .int v_bestCode, .int v_bestMuch, .long v_straightSum, .long v_movedSum, .long v_allWays, .ref a_wereAt, .ref a_byPlace, .ref a_lanes, .ref a_sizes, .ref a_cells, .int v_torn, .ref a_before])), (a_st, .inl (cI, 168, .inl v_st)), (a_now, .inl (cI, 56, .inl w6))] := hD
      refine lv_aload_n C.1 C.2.1 dX7_begin_44 rfl (lv_at hl 0 rfl) ?_
      refine lv_iload_n C.1 C.2.1 dX7_begin_45 rfl (lv_at hl 1 rfl) ?_
      refine lv_iconst (v := 2) C.1 C.2.1 dX7_begin_46 (by decide) ?_
      refine lv_aload_n C.1 C.2.1 dX7_begin_47 rfl (lv_at hl 0 rfl) ?_
      refine lv_iload_n C.1 C.2.1 dX7_begin_48 rfl (lv_at hl 1 rfl) ?_
      refine lv_iconst (v := 2) C.1 C.2.1 dX7_begin_49 (by decide) ?_
      obtain ⟨r8, h9, hF⟩ := fb hF
      refine callVI C hK hA hP hD hS [0, 2] (c_X7_of (a_this := a_this) (a_st := a_st) (a_now := a_now) (a_isKept := a_isKept) (a_draft := a_draft) (a_tape := a_tape) (a_wereAt := a_wereAt) (a_byPlace := a_byPlace) (a_lanes := a_lanes) (a_sizes := a_sizes) (a_cells := a_cells) (a_before := a_before) (v_hasSigns := v_hasSigns) (v_hasEvery := v_hasEvery) (v_taped := v_taped) (v_pos := v_pos) (v_begun := v_begun) (v_sort := v_sort) (v_value := v_value) (v_fault := v_fault) (v_wrongAt := v_wrongAt) (v_moved := w4) (v_slipTicks := w5) (v_bestCode := v_bestCode) (v_bestMuch := v_bestMuch) (v_straightSum := v_straightSum) (v_movedSum := v_movedSum) (v_allWays := v_allWays) (v_torn := v_torn) (v_now := w6) h9) cv_X7_of kw4_152 rfl (by decide) rfl rfl rfl ⟨Nat.le_of_ble_eq_true rfl, Nat.le_of_ble_eq_true rfl⟩ ⟨Nat.zero_le _, Nat.zero_le _⟩ hl.1 rfl (Nat.le_of_ble_eq_true rfl) dX7_begin_50 (fun H locs hP hD hS => ?_)
      have hP : va_P D vwCl [(a_this, .inr (7, [.ref a_st, .ref a_now, .ref a_isKept, .ref a_draft, .int v_hasSigns, .int v_hasEvery, .ref a_tape, .int v_taped, .int v_pos, .int v_begun, .int v_sort, .int v_value, .int v_fault, .int v_wrongAt, .int w4, .int w5, .int v_bestCode, .int v_bestMuch, .long v_straightSum, .long v_movedSum, .long v_allWays, .ref a_wereAt, .ref a_byPlace, .ref a_lanes, .ref a_sizes, .ref a_cells, .int v_torn, .ref a_before])), (a_st, .inl (cI, 168, .inl v_st)), (a_now, .inl (cI, 56, .inl w6))] H := hP
      have hD : va_D A [(a_this, .inr (7, [.ref a_st, .ref a_now, .ref a_isKept, .ref a_draft, .int v_hasSigns, .int v_hasEvery, .ref a_tape, .int v_taped, .int v_pos, .int v_begun, .int v_sort, .int v_value, .int v_fault, .int v_wrongAt, .int w4, .int w5, .int v_bestCode, .int v_bestMuch, .long v_straightSum, .long v_movedSum, .long v_allWays, .ref a_wereAt, .ref a_byPlace, .ref a_lanes, .ref a_sizes, .ref a_cells, .int v_torn, .ref a_before])), (a_st, .inl (cI, 168, .inl v_st)), (a_now, .inl (cI, 56, .inl w6))] := hD
      refine lv_iload C.1 C.2.1 dX7_begin_53 (lv_at hl 4 rfl) ?_
      refine lv_iadd C.1 C.2.1 dX7_begin_55 ?_
      obtain ⟨w10, h11, hF⟩ := fb hF
      refine callVV C hK hA hP hD hS [0, 2] (c_X7_becomesOf (a_this := a_this) (a_st := a_st) (a_now := a_now) (a_isKept := a_isKept) (a_draft := a_draft) (a_tape := a_tape) (a_wereAt := a_wereAt) (a_byPlace := a_byPlace) (a_lanes := a_lanes) (a_sizes := a_sizes) (a_cells := a_cells) (a_before := a_before) (v_hasSigns := v_hasSigns) (v_hasEvery := v_hasEvery) (v_taped := v_taped) (v_pos := v_pos) (v_begun := v_begun) (v_sort := v_sort) (v_value := v_value) (v_fault := v_fault) (v_wrongAt := v_wrongAt) (v_moved := w4) (v_slipTicks := w5) (v_bestCode := v_bestCode) (v_bestMuch := v_bestMuch) (v_straightSum := v_straightSum) (v_movedSum := v_movedSum) (v_allWays := v_allWays) (v_torn := v_torn) (v_now := w6) h11) cv_X7_becomesOf kw5_0 rfl (by decide) rfl rfl rfl ⟨Nat.le_of_ble_eq_true rfl, Nat.le_of_ble_eq_true rfl⟩ ⟨Nat.zero_le _, Nat.zero_le _⟩ hl.1 rfl (Nat.le_of_ble_eq_true rfl) dX7_begin_56 (fun H locs hP hD hS => ?_)
      have hP : va_P D vwCl [(a_this, .inr (7, [.ref a_st, .ref a_now, .ref a_isKept, .ref a_draft, .int v_hasSigns, .int v_hasEvery, .ref a_tape, .int v_taped, .int v_pos, .int v_begun, .int v_sort, .int v_value, .int v_fault, .int v_wrongAt, .int w4, .int w5, .int v_bestCode, .int v_bestMuch, .long v_straightSum, .long v_movedSum, .long v_allWays, .ref a_wereAt, .ref a_byPlace, .ref a_lanes, .ref a_sizes, .ref a_cells, .int v_torn, .ref a_before])), (a_st, .inl (cI, 168, .inl v_st)), (a_now, .inl (cI, 56, .inl w10))] H := hP
      have hD : va_D A [(a_this, .inr (7, [.ref a_st, .ref a_now, .ref a_isKept, .ref a_draft, .int v_hasSigns, .int v_hasEvery, .ref a_tape, .int v_taped, .int v_pos, .int v_begun, .int v_sort, .int v_value, .int v_fault, .int v_wrongAt, .int w4, .int w5, .int v_bestCode, .int v_bestMuch, .long v_straightSum, .long v_movedSum, .long v_allWays, .ref a_wereAt, .ref a_byPlace, .ref a_lanes, .ref a_sizes, .ref a_cells, .int v_torn, .ref a_before])), (a_st, .inl (cI, 168, .inl v_st)), (a_now, .inl (cI, 56, .inl w10))] := hD
      refine lv_aload_n C.1 C.2.1 dX7_begin_59 rfl (lv_at hl 0 rfl) ?_
      refine lv_iload C.1 C.2.1 dX7_begin_60 (lv_at hl 4 rfl) ?_
      refine lv_aload_n C.1 C.2.1 dX7_begin_62 rfl (lv_at hl 0 rfl) ?_
      refine lv_iload_n C.1 C.2.1 dX7_begin_63 rfl (lv_at hl 2 rfl) ?_
      obtain ⟨⟨r12, w13, w14, w15⟩, h16, hF⟩ := fb hF
      refine callVI C hK hA hP hD hS [0, 2] (c_X7_lostBehind (a_this := a_this) (a_st := a_st) (a_now := a_now) (a_isKept := a_isKept) (a_draft := a_draft) (a_tape := a_tape) (a_wereAt := a_wereAt) (a_byPlace := a_byPlace) (a_lanes := a_lanes) (a_sizes := a_sizes) (a_cells := a_cells) (a_before := a_before) (v_hasSigns := v_hasSigns) (v_hasEvery := v_hasEvery) (v_taped := v_taped) (v_pos := v_pos) (v_begun := v_begun) (v_sort := v_sort) (v_value := v_value) (v_fault := v_fault) (v_wrongAt := v_wrongAt) (v_moved := w4) (v_slipTicks := w5) (v_bestCode := v_bestCode) (v_bestMuch := v_bestMuch) (v_straightSum := v_straightSum) (v_movedSum := v_movedSum) (v_allWays := v_allWays) (v_torn := v_torn) (v_now := w10) h16) cv_X7_lostBehind kw5_56 rfl (by decide) rfl rfl rfl ⟨Nat.le_of_ble_eq_true rfl, Nat.le_of_ble_eq_true rfl⟩ ⟨Nat.zero_le _, Nat.zero_le _⟩ hl.1 rfl (Nat.le_of_ble_eq_true rfl) dX7_begin_64 (fun H locs hP hD hS => ?_)
      have hP : va_P D vwCl [(a_this, .inr (7, [.ref a_st, .ref a_now, .ref a_isKept, .ref a_draft, .int v_hasSigns, .int v_hasEvery, .ref a_tape, .int v_taped, .int v_pos, .int v_begun, .int v_sort, .int v_value, .int v_fault, .int v_wrongAt, .int w13, .int w14, .int v_bestCode, .int v_bestMuch, .long v_straightSum, .long v_movedSum, .long v_allWays, .ref a_wereAt, .ref a_byPlace, .ref a_lanes, .ref a_sizes, .ref a_cells, .int v_torn, .ref a_before])), (a_st, .inl (cI, 168, .inl v_st)), (a_now, .inl (cI, 56, .inl w15))] H := hP
      have hD : va_D A [(a_this, .inr (7, [.ref a_st, .ref a_now, .ref a_isKept, .ref a_draft, .int v_hasSigns, .int v_hasEvery, .ref a_tape, .int v_taped, .int v_pos, .int v_begun, .int v_sort, .int v_value, .int v_fault, .int v_wrongAt, .int w13, .int w14, .int v_bestCode, .int v_bestMuch, .long v_straightSum, .long v_movedSum, .long v_allWays, .ref a_wereAt, .ref a_byPlace, .ref a_lanes, .ref a_sizes, .ref a_cells, .int v_torn, .ref a_before])), (a_st, .inl (cI, 168, .inl v_st)), (a_now, .inl (cI, 56, .inl w15))] := hD
      obtain ⟨⟨w17, w18⟩, h19, hF⟩ := fb hF
      refine callVV C hK hA hP hD hS [0] (c_X7_judges (a_this := a_this) (a_st := a_st) (a_now := a_now) (a_isKept := a_isKept) (a_draft := a_draft) (a_tape := a_tape) (a_wereAt := a_wereAt) (a_byPlace := a_byPlace) (a_lanes := a_lanes) (a_sizes := a_sizes) (a_cells := a_cells) (a_before := a_before) (v_hasSigns := v_hasSigns) (v_hasEvery := v_hasEvery) (v_taped := v_taped) (v_pos := v_pos) (v_begun := v_begun) (v_sort := v_sort) (v_value := v_value) (v_fault := v_fault) (v_wrongAt := v_wrongAt) (v_moved := w13) (v_slipTicks := w14) (v_bestCode := v_bestCode) (v_bestMuch := v_bestMuch) (v_straightSum := v_straightSum) (v_movedSum := v_movedSum) (v_allWays := v_allWays) (v_torn := v_torn) h19) cv_X7_judges kw5_60 rfl (by decide) rfl rfl rfl ⟨Nat.le_of_ble_eq_true rfl, Nat.le_of_ble_eq_true rfl⟩ ⟨Nat.zero_le _, Nat.zero_le _⟩ hl.1 rfl (Nat.le_of_ble_eq_true rfl) dX7_begin_67 (fun H locs hP hD hS => ?_)
      have hP : va_P D vwCl [(a_this, .inr (7, [.ref a_st, .ref a_now, .ref a_isKept, .ref a_draft, .int v_hasSigns, .int v_hasEvery, .ref a_tape, .int v_taped, .int v_pos, .int v_begun, .int v_sort, .int v_value, .int v_fault, .int v_wrongAt, .int w13, .int w14, .int w17, .int w18, .long v_straightSum, .long v_movedSum, .long v_allWays, .ref a_wereAt, .ref a_byPlace, .ref a_lanes, .ref a_sizes, .ref a_cells, .int v_torn, .ref a_before])), (a_st, .inl (cI, 168, .inl v_st)), (a_now, .inl (cI, 56, .inl w15))] H := hP
      have hD : va_D A [(a_this, .inr (7, [.ref a_st, .ref a_now, .ref a_isKept, .ref a_draft, .int v_hasSigns, .int v_hasEvery, .ref a_tape, .int v_taped, .int v_pos, .int v_begun, .int v_sort, .int v_value, .int v_fault, .int v_wrongAt, .int w13, .int w14, .int w17, .int w18, .long v_straightSum, .long v_movedSum, .long v_allWays, .ref a_wereAt, .ref a_byPlace, .ref a_lanes, .ref a_sizes, .ref a_cells, .int v_torn, .ref a_before])), (a_st, .inl (cI, 168, .inl v_st)), (a_now, .inl (cI, 56, .inl w15))] := hD
      refine lv_iinc (v := x4 + 1) (lv' := [(4, .int (x4 + 1)), (0, .ref a_this), (1, .int x1), (2, .int x2), (3, .int x3)]) C.1 C.2.1 dX7_begin_70 hl (k := 4) rfl rfl (by decide) rfl (fun ls hl => ?_)
      refine lv_goto (tgt := 33) C.1 C.2.1 dX7_begin_73 (by decide) ?_
      exact ih w13 w14 w17 w18 v_st w15 x1 x2 x3 (x4 + 1) _ _ _ hF hP hD hS (lv_sub hl [1, 2, 3, 4, 0] rfl)
set_option maxHeartbeats 4000000 in
set_option maxRecDepth 100000 in
theorem c0_X7_begin {l : Launch} {D : va_G} {cI cB cZ cR cM cS : ClassId} {a_this : Nat} {a_st : Nat} {a_now : Nat} {a_isKept : Nat} {a_draft : Nat} {a_tape : Nat} {a_wereAt : Nat} {a_byPlace : Nat} {a_lanes : Nat} {a_sizes : Nat} {a_cells : Nat} {a_before : Nat} {v_hasSigns : Int32} {v_hasEvery : Int32} {v_taped : Int32} {v_pos : Int32} {v_begun : Int32} {v_sort : Int32} {v_value : Int32} {v_fault : Int32} {v_wrongAt : Int32} {v_moved : Int32} {v_slipTicks : Int32} {v_bestCode : Int32} {v_bestMuch : Int32} {v_straightSum : Int64} {v_movedSum : Int64} {v_allWays : Int64} {v_torn : Int32} {v_st : Nat → Int32} {v_now : Nat → Int32} {x1 : Int32} {x2 : Int32} {x3 : Int32} {res : Int32 × Int32 × Int32 × Int32 × Int32 × (Nat → Int32)} (hF : F_X7_begin v_moved v_slipTicks v_bestCode v_bestMuch v_st v_now x1 x2 x3 = some res) : MI l yX7_begin cX7_begin 5 .int rm_X7_begin D (TS cI cB cZ cR cM cS) [.ref a_this, .int x1, .int x2, .int x3] [(a_this, .inr (7, [.ref a_st, .ref a_now, .ref a_isKept, .ref a_draft, .int v_hasSigns, .int v_hasEvery, .ref a_tape, .int v_taped, .int v_pos, .int v_begun, .int v_sort, .int v_value, .int v_fault, .int v_wrongAt, .int v_moved, .int v_slipTicks, .int v_bestCode, .int v_bestMuch, .long v_straightSum, .long v_movedSum, .long v_allWays, .ref a_wereAt, .ref a_byPlace, .ref a_lanes, .ref a_sizes, .ref a_cells, .int v_torn, .ref a_before])), (a_st, .inl (cI, 168, .inl v_st)), (a_now, .inl (cI, 56, .inl v_now))] [(a_this, .inr (7, [.ref a_st, .ref a_now, .ref a_isKept, .ref a_draft, .int v_hasSigns, .int v_hasEvery, .ref a_tape, .int v_taped, .int v_pos, .int v_begun, .int v_sort, .int v_value, .int v_fault, .int v_wrongAt, .int res.2.1, .int res.2.2.1, .int res.2.2.2.1, .int res.2.2.2.2.1, .long v_straightSum, .long v_movedSum, .long v_allWays, .ref a_wereAt, .ref a_byPlace, .ref a_lanes, .ref a_sizes, .ref a_cells, .int v_torn, .ref a_before])), (a_st, .inl (cI, 168, .inl v_st)), (a_now, .inl (cI, 56, .inl res.2.2.2.2.2))] res.1 :=
  MI_of (by decide) (Nat.le_of_ble_eq_true rfl) (fun p e s m args below meth c A ls C hr hlk hK hA hP hD hS hl => by
    have C : CX p m c cX7_begin 5 s args RX7 := C
    have hl : lv_has ls 5 [(0, .ref a_this), (1, .int x1), (2, .int x2), (3, .int x3)] := hl
    unfold F_X7_begin at hF
    refine lv_aload_n C.1 C.2.1 dX7_begin_0 rfl (lv_at hl 0 rfl) ?_
    refine lv_iload_n C.1 C.2.1 dX7_begin_1 rfl (lv_at hl 1 rfl) ?_
    obtain ⟨r1, h2, hF⟩ := fb hF
    refine callVI C hK hA hP hD hS [0, 1] (c_X7_isRotor (a_this := a_this) (a_st := a_st) (a_now := a_now) (a_isKept := a_isKept) (a_draft := a_draft) (a_tape := a_tape) (a_wereAt := a_wereAt) (a_byPlace := a_byPlace) (a_lanes := a_lanes) (a_sizes := a_sizes) (a_cells := a_cells) (a_before := a_before) (v_hasSigns := v_hasSigns) (v_hasEvery := v_hasEvery) (v_taped := v_taped) (v_pos := v_pos) (v_begun := v_begun) (v_sort := v_sort) (v_value := v_value) (v_fault := v_fault) (v_wrongAt := v_wrongAt) (v_moved := v_moved) (v_slipTicks := v_slipTicks) (v_bestCode := v_bestCode) (v_bestMuch := v_bestMuch) (v_straightSum := v_straightSum) (v_movedSum := v_movedSum) (v_allWays := v_allWays) (v_torn := v_torn) (v_st := v_st) h2) cv_X7_isRotor kw4_177 rfl (by decide) rfl rfl rfl ⟨Nat.le_of_ble_eq_true rfl, Nat.le_of_ble_eq_true rfl⟩ ⟨Nat.zero_le _, Nat.zero_le _⟩ hl.1 rfl (Nat.le_of_ble_eq_true rfl) dX7_begin_2 (fun H locs hP hD hS => ?_)
    have hP : va_P D vwCl [(a_this, .inr (7, [.ref a_st, .ref a_now, .ref a_isKept, .ref a_draft, .int v_hasSigns, .int v_hasEvery, .ref a_tape, .int v_taped, .int v_pos, .int v_begun, .int v_sort, .int v_value, .int v_fault, .int v_wrongAt, .int v_moved, .int v_slipTicks, .int v_bestCode, .int v_bestMuch, .long v_straightSum, .long v_movedSum, .long v_allWays, .ref a_wereAt, .ref a_byPlace, .ref a_lanes, .ref a_sizes, .ref a_cells, .int v_torn, .ref a_before])), (a_st, .inl (cI, 168, .inl v_st)), (a_now, .inl (cI, 56, .inl v_now))] H := hP
    have hD : va_D A [(a_this, .inr (7, [.ref a_st, .ref a_now, .ref a_isKept, .ref a_draft, .int v_hasSigns, .int v_hasEvery, .ref a_tape, .int v_taped, .int v_pos, .int v_begun, .int v_sort, .int v_value, .int v_fault, .int v_wrongAt, .int v_moved, .int v_slipTicks, .int v_bestCode, .int v_bestMuch, .long v_straightSum, .long v_movedSum, .long v_allWays, .ref a_wereAt, .ref a_byPlace, .ref a_lanes, .ref a_sizes, .ref a_cells, .int v_torn, .ref a_before])), (a_st, .inl (cI, 168, .inl v_st)), (a_now, .inl (cI, 56, .inl v_now))] := hD
    refine lv_if_eq (tgt := 22) C.1 C.2.1 dX7_begin_5 (by decide) (fun c3 => ?_) (fun c3 => ?_)
    · have hF := fp hF c3
      refine lv_iconst (v := (-1)) C.1 C.2.1 dX7_begin_22 (by decide) ?_
      have hF := Option.some.inj hF
      subst hF
      exact retI C hr hlk hP hD hS dX7_begin_23
    · have hF := fn hF c3
      refine lv_iload_n C.1 C.2.1 dX7_begin_8 rfl (lv_at hl 2 rfl) ?_
      obtain ⟨r4, h5, hF⟩ := fb hF
      refine callSI C hK hA hP hD hS (c_X7_isFar  h5) cs_X7_isFar kw5_20 ⟨Nat.le_of_ble_eq_true rfl, Nat.le_of_ble_eq_true rfl⟩ ⟨Nat.zero_le _, Nat.zero_le _⟩ hl.1 rfl (Nat.le_of_ble_eq_true rfl) dX7_begin_9 (fun H locs hP hD hS => ?_)
      refine lv_if_eq (tgt := 22) C.1 C.2.1 dX7_begin_12 (by decide) (fun c6 => ?_) (fun c6 => ?_)
      · have hF := fp hF c6
        refine lv_iconst (v := (-1)) C.1 C.2.1 dX7_begin_22 (by decide) ?_
        have hF := Option.some.inj hF
        subst hF
        exact retI C hr hlk hP hD hS dX7_begin_23
      · have hF := fn hF c6
        refine lv_iload_n C.1 C.2.1 dX7_begin_15 rfl (lv_at hl 3 rfl) ?_
        obtain ⟨r7, h8, hF⟩ := fb hF
        refine callSI C hK hA hP hD hS (c_X7_isPart  h8) cs_X7_isPart kw5_28 ⟨Nat.le_of_ble_eq_true rfl, Nat.le_of_ble_eq_true rfl⟩ ⟨Nat.zero_le _, Nat.zero_le _⟩ hl.1 rfl (Nat.le_of_ble_eq_true rfl) dX7_begin_16 (fun H locs hP hD hS => ?_)
        refine lv_if_ne (tgt := 24) C.1 C.2.1 dX7_begin_19 (by decide) (fun c9 => ?_) (fun c9 => ?_)
        · have hF := fn hF c9
          refine lv_aload_n C.1 C.2.1 dX7_begin_24 rfl (lv_at hl 0 rfl) ?_
          refine lv_ldc (v := 1000000000) C.1 C.2.1 C.2.2.2.1 (C.2.2.2.2 _ kw5_51) dX7_begin_25 ?_
          obtain ⟨⟨w10, w11⟩, h12, hF⟩ := fb hF
          refine callVV C hK hA hP hD hS [0] (c_X7_startsJudging (a_this := a_this) (a_st := a_st) (a_now := a_now) (a_isKept := a_isKept) (a_draft := a_draft) (a_tape := a_tape) (a_wereAt := a_wereAt) (a_byPlace := a_byPlace) (a_lanes := a_lanes) (a_sizes := a_sizes) (a_cells := a_cells) (a_before := a_before) (v_hasSigns := v_hasSigns) (v_hasEvery := v_hasEvery) (v_taped := v_taped) (v_pos := v_pos) (v_begun := v_begun) (v_sort := v_sort) (v_value := v_value) (v_fault := v_fault) (v_wrongAt := v_wrongAt) (v_moved := v_moved) (v_slipTicks := v_slipTicks) (v_bestCode := v_bestCode) (v_bestMuch := v_bestMuch) (v_straightSum := v_straightSum) (v_movedSum := v_movedSum) (v_allWays := v_allWays) (v_torn := v_torn) h12) cv_X7_startsJudging kw5_52 rfl (by decide) rfl rfl rfl ⟨Nat.le_of_ble_eq_true rfl, Nat.le_of_ble_eq_true rfl⟩ ⟨Nat.zero_le _, Nat.zero_le _⟩ hl.1 rfl (Nat.le_of_ble_eq_true rfl) dX7_begin_27 (fun H locs hP hD hS => ?_)
          have hP : va_P D vwCl [(a_this, .inr (7, [.ref a_st, .ref a_now, .ref a_isKept, .ref a_draft, .int v_hasSigns, .int v_hasEvery, .ref a_tape, .int v_taped, .int v_pos, .int v_begun, .int v_sort, .int v_value, .int v_fault, .int v_wrongAt, .int v_moved, .int v_slipTicks, .int w10, .int w11, .long v_straightSum, .long v_movedSum, .long v_allWays, .ref a_wereAt, .ref a_byPlace, .ref a_lanes, .ref a_sizes, .ref a_cells, .int v_torn, .ref a_before])), (a_st, .inl (cI, 168, .inl v_st)), (a_now, .inl (cI, 56, .inl v_now))] H := hP
          have hD : va_D A [(a_this, .inr (7, [.ref a_st, .ref a_now, .ref a_isKept, .ref a_draft, .int v_hasSigns, .int v_hasEvery, .ref a_tape, .int v_taped, .int v_pos, .int v_begun, .int v_sort, .int v_value, .int v_fault, .int v_wrongAt, .int v_moved, .int v_slipTicks, .int w10, .int w11, .long v_straightSum, .long v_movedSum, .long v_allWays, .ref a_wereAt, .ref a_byPlace, .ref a_lanes, .ref a_sizes, .ref a_cells, .int v_torn, .ref a_before])), (a_st, .inl (cI, 168, .inl v_st)), (a_now, .inl (cI, 56, .inl v_now))] := hD
          refine lv_iconst (v := 0) C.1 C.2.1 dX7_begin_30 (by decide) ?_
          refine lv_istore (lv' := [(4, .int (0 : Int32)), (0, .ref a_this), (1, .int x1), (2, .int x2), (3, .int x3)]) C.1 C.2.1 dX7_begin_31 hl (by decide) rfl (fun ls hl => ?_)
          exact b_X7_begin_33 C hr hlk hK hA FU v_moved v_slipTicks w10 w11 v_st v_now x1 x2 x3 (0 : Int32) _ _ _ hF hP hD hS (lv_sub hl [1, 2, 3, 4, 0] rfl)
        · have hF := fp hF c9
          refine lv_iconst (v := (-1)) C.1 C.2.1 dX7_begin_22 (by decide) ?_
          have hF := Option.some.inj hF
          subst hF
          exact retI C hr hlk hP hD hS dX7_begin_23)
theorem c_X7_begin {l : Launch} {D : va_G} {cI cB cZ cR cM cS : ClassId} {a_this : Nat} {a_st : Nat} {a_now : Nat} {a_isKept : Nat} {a_draft : Nat} {a_tape : Nat} {a_wereAt : Nat} {a_byPlace : Nat} {a_lanes : Nat} {a_sizes : Nat} {a_cells : Nat} {a_before : Nat} {v_hasSigns : Int32} {v_hasEvery : Int32} {v_taped : Int32} {v_pos : Int32} {v_begun : Int32} {v_sort : Int32} {v_value : Int32} {v_fault : Int32} {v_wrongAt : Int32} {v_moved : Int32} {v_slipTicks : Int32} {v_bestCode : Int32} {v_bestMuch : Int32} {v_straightSum : Int64} {v_movedSum : Int64} {v_allWays : Int64} {v_torn : Int32} {v_st : Nat → Int32} {v_now : Nat → Int32} {x1 : Int32} {x2 : Int32} {x3 : Int32} {r_ : Int32} {v_moved' : Int32} {v_slipTicks' : Int32} {v_bestCode' : Int32} {v_bestMuch' : Int32} {v_now' : Nat → Int32} (hF : F_X7_begin v_moved v_slipTicks v_bestCode v_bestMuch v_st v_now x1 x2 x3 = some (r_, v_moved', v_slipTicks', v_bestCode', v_bestMuch', v_now')) : MI l yX7_begin cX7_begin 5 .int rm_X7_begin D (TS cI cB cZ cR cM cS) [.ref a_this, .int x1, .int x2, .int x3] [(a_this, .inr (7, [.ref a_st, .ref a_now, .ref a_isKept, .ref a_draft, .int v_hasSigns, .int v_hasEvery, .ref a_tape, .int v_taped, .int v_pos, .int v_begun, .int v_sort, .int v_value, .int v_fault, .int v_wrongAt, .int v_moved, .int v_slipTicks, .int v_bestCode, .int v_bestMuch, .long v_straightSum, .long v_movedSum, .long v_allWays, .ref a_wereAt, .ref a_byPlace, .ref a_lanes, .ref a_sizes, .ref a_cells, .int v_torn, .ref a_before])), (a_st, .inl (cI, 168, .inl v_st)), (a_now, .inl (cI, 56, .inl v_now))] [(a_this, .inr (7, [.ref a_st, .ref a_now, .ref a_isKept, .ref a_draft, .int v_hasSigns, .int v_hasEvery, .ref a_tape, .int v_taped, .int v_pos, .int v_begun, .int v_sort, .int v_value, .int v_fault, .int v_wrongAt, .int v_moved', .int v_slipTicks', .int v_bestCode', .int v_bestMuch', .long v_straightSum, .long v_movedSum, .long v_allWays, .ref a_wereAt, .ref a_byPlace, .ref a_lanes, .ref a_sizes, .ref a_cells, .int v_torn, .ref a_before])), (a_st, .inl (cI, 168, .inl v_st)), (a_now, .inl (cI, 56, .inl v_now'))] r_ :=
  c0_X7_begin (res := (r_, v_moved', v_slipTicks', v_bestCode', v_bestMuch', v_now')) hF
def rm_X7_common : Room := { frames := 0, cells := 0, slots := 0, locals := 0 }
theorem cs_X7_common : CS yX7_common cX7_common 10 (some .long) rm_X7_common RX7 2 := ⟨kw5_95, kw1_8, kw5_96, by decide +kernel, rfl, rfl⟩
set_option maxHeartbeats 4000000 in
set_option maxRecDepth 100000 in
theorem b_X7_common_6 {l : Launch} {D : va_G} {cI cB cZ cR cM cS : ClassId} {p : Program} {e : Env} {s : State} {m : MethodId} {args : Array Value} {below : List Frame} {meth : Method} {c : Code} {A : Nat → Prop} {res : Int64} (C : CX p m c cX7_common 10 s args RX7) (hr : meth.sig.returnType = (some .long)) (hlk : meth.locks = false) (hK : KK D (TS cI cB cZ cR cM cS) s) (hA : ∀ q, s.heap.size ≤ q → A q) : ∀ (fu : Nat) (x4 : Int64) (x6 : Int64) (H : Heap) (locs : List Loc) (ls : Array Slot), F_X7_common_6 fu x4 x6 = some res → va_P D vwCl [] H → va_D A [] → va_S A s.heap H locs → lv_has ls 10 [(4, .long x4), (6, .long x6)] → W p l e rm_X7_common s m args below meth c H locs 0 0 (MQ below (va_Ql (fun x (_ : Unit) => x = res) (BW D A []) A) args s 0 0 A) (F0 m 6 ls []) := by
  intro fu
  induction fu with
  | zero => intro x4 x6 H locs ls hF; cases hF
  | succ fu ih =>
    intro x4 x6 H locs ls hF  hP hD hS hl
    unfold F_X7_common_6 at hF
    refine lv_lload C.1 C.2.1 dX7_common_6 (lv_at hl 1 rfl) ?_
    refine lv_lconst (v := 0) C.1 C.2.1 dX7_common_8 rfl ?_
    refine W.lcmp C.1 C.2.1 dX7_common_9 ?_
    refine lv_if_eq (tgt := 31) C.1 C.2.1 dX7_common_10 (by decide) (fun c1 => ?_) (fun c1 => ?_)
    · have hF := fp hF c1
      refine lv_lload C.1 C.2.1 dX7_common_31 (lv_at hl 0 rfl) ?_
      have hF := Option.some.inj hF
      subst hF
      exact retL C hr hlk hP hD hS dX7_common_33
    · have hF := fn hF c1
      refine lv_lload C.1 C.2.1 dX7_common_13 (lv_at hl 0 rfl) ?_
      refine lv_lload C.1 C.2.1 dX7_common_15 (lv_at hl 1 rfl) ?_
      obtain ⟨h2, hF⟩ := fk hF
      refine lv_lrem C.1 C.2.1 dX7_common_17 h2 ?_
      refine lv_lstore (lv' := [(8, .long (lrem x4 x6)), (4, .long x4), (6, .long x6)]) C.1 C.2.1 dX7_common_18 hl (by decide) rfl (fun ls hl => ?_)
      refine lv_lload C.1 C.2.1 dX7_common_20 (lv_at hl 2 rfl) ?_
      refine lv_lstore (lv' := [(4, .long x6), (8, .long (lrem x4 x6)), (6, .long x6)]) C.1 C.2.1 dX7_common_22 hl (by decide) rfl (fun ls hl => ?_)
      refine lv_lload C.1 C.2.1 dX7_common_24 (lv_at hl 1 rfl) ?_
      refine lv_lstore (lv' := [(6, .long (lrem x4 x6)), (4, .long x6), (8, .long (lrem x4 x6))]) C.1 C.2.1 dX7_common_26 hl (by decide) rfl (fun ls hl => ?_)
      refine lv_goto (tgt := 6) C.1 C.2.1 dX7_common_28 (by decide) ?_
      exact ih x6 (lrem x4 x6) _ _ _ hF hP hD hS (lv_sub hl [1, 0] rfl)
set_option maxHeartbeats 4000000 in
set_option maxRecDepth 100000 in
theorem c_X7_common {l : Launch} {D : va_G} {cI cB cZ cR cM cS : ClassId} {x0 : Int64} {x2 : Int64} {res : Int64} (hF : F_X7_common x0 x2 = some res) : ML l yX7_common cX7_common 10 rm_X7_common D (TS cI cB cZ cR cM cS) [.long x0, .long x2] [] [] res :=
  ML_of (by decide) (Nat.le_of_ble_eq_true rfl) (fun p e s m args below meth c A ls C hr hlk hK hA hP hD hS hl => by
    have C : CX p m c cX7_common 10 s args RX7 := C
    have hl : lv_has ls 10 [(0, .long x0), (2, .long x2)] := hl
    unfold F_X7_common at hF
    refine lv_lload_n C.1 C.2.1 dX7_common_0 rfl (lv_at hl 0 rfl) ?_
    refine lv_lstore (lv' := [(4, .long x0), (0, .long x0), (2, .long x2)]) C.1 C.2.1 dX7_common_1 hl (by decide) rfl (fun ls hl => ?_)
    refine lv_lload_n C.1 C.2.1 dX7_common_3 rfl (lv_at hl 2 rfl) ?_
    refine lv_lstore (lv' := [(6, .long x2), (4, .long x0), (0, .long x0), (2, .long x2)]) C.1 C.2.1 dX7_common_4 hl (by decide) rfl (fun ls hl => ?_)
    exact b_X7_common_6 C hr hlk hK hA FU x0 x2 _ _ _ hF hP hD hS (lv_sub hl [1, 0] rfl))
def rm_X7_lowest : Room := { frames := 1, cells := 0, slots := 0, locals := 29 }
theorem cs_X7_lowest : CS yX7_lowest cX7_lowest 7 (some .long) rm_X7_lowest RX7 3 := ⟨kw5_92, kw1_8, kw5_93, by decide +kernel, rfl, rfl⟩
set_option maxHeartbeats 4000000 in
set_option maxRecDepth 100000 in
theorem c_X7_lowest {l : Launch} {D : va_G} {cI cB cZ cR cM cS : ClassId} {x0 : Int64} {x2 : Int64} {x4 : Int32} {res : Int64} (hF : F_X7_lowest x0 x2 x4 = some res) : ML l yX7_lowest cX7_lowest 7 rm_X7_lowest D (TS cI cB cZ cR cM cS) [.long x0, .long x2, .int x4] [] [] res :=
  ML_of (by decide) (Nat.le_of_ble_eq_true rfl) (fun p e s m args below meth c A ls C hr hlk hK hA hP hD hS hl => by
    have C : CX p m c cX7_lowest 7 s args RX7 := C
    have hl : lv_has ls 7 [(0, .long x0), (2, .long x2), (4, .int x4)] := hl
    unfold F_X7_lowest at hF
    refine lv_lload_n C.1 C.2.1 dX7_lowest_0 rfl (lv_at hl 1 rfl) ?_
    refine lv_lload_n C.1 C.2.1 dX7_lowest_1 rfl (lv_at hl 0 rfl) ?_
    obtain ⟨r1, h2, hF⟩ := fb hF
    refine callSL C hK hA hP hD hS (c_X7_common  h2) cs_X7_common kw5_94 ⟨Nat.le_of_ble_eq_true rfl, Nat.le_of_ble_eq_true rfl⟩ ⟨Nat.zero_le _, Nat.zero_le _⟩ hl.1 rfl (Nat.le_of_ble_eq_true rfl) dX7_lowest_2 (fun H locs hP hD hS => ?_)
    refine lv_lstore (lv' := [(5, .long r1), (0, .long x0), (2, .long x2), (4, .int x4)]) C.1 C.2.1 dX7_lowest_5 hl (by decide) rfl (fun ls hl => ?_)
    refine lv_iload C.1 C.2.1 dX7_lowest_7 (lv_at hl 3 rfl) ?_
    refine lv_if_ne (tgt := 19) C.1 C.2.1 dX7_lowest_9 (by decide) (fun c3 => ?_) (fun c3 => ?_)
    · have hF := fn hF c3
      refine lv_lload_n C.1 C.2.1 dX7_lowest_19 rfl (lv_at hl 2 rfl) ?_
      refine lv_lload C.1 C.2.1 dX7_lowest_20 (lv_at hl 0 rfl) ?_
      obtain ⟨h4, hF⟩ := fk hF
      refine lv_ldiv C.1 C.2.1 dX7_lowest_22 h4 ?_
      have hF := Option.some.inj hF
      subst hF
      exact retL C hr hlk hP hD hS dX7_lowest_23
    · have hF := fp hF c3
      refine lv_lload_n C.1 C.2.1 dX7_lowest_12 rfl (lv_at hl 1 rfl) ?_
      refine lv_lload C.1 C.2.1 dX7_lowest_13 (lv_at hl 0 rfl) ?_
      obtain ⟨h5, hF⟩ := fk hF
      refine lv_ldiv C.1 C.2.1 dX7_lowest_15 h5 ?_
      refine lv_goto (tgt := 23) C.1 C.2.1 dX7_lowest_16 (by decide) ?_
      have hF := Option.some.inj hF
      subst hF
      exact retL C hr hlk hP hD hS dX7_lowest_23)
def rm_X7_findOdds : Room := { frames := 5, cells := 0, slots := 0, locals := 111 }
theorem cv_X7_findOdds : CV yX7_findOdds cX7_findOdds 9 none rm_X7_findOdds RX7 3 := ⟨kw5_89, kwp_57, kw1_8, kw5_90, by decide +kernel, rfl, rfl⟩
set_option maxHeartbeats 4000000 in
set_option maxRecDepth 100000 in
theorem b_X7_findOdds_63 {l : Launch} {D : va_G} {cI cB cZ cR cM cS : ClassId} {a_this : Nat} {a_st : Nat} {a_now : Nat} {a_isKept : Nat} {a_draft : Nat} {a_tape : Nat} {a_wereAt : Nat} {a_byPlace : Nat} {a_lanes : Nat} {a_sizes : Nat} {a_cells : Nat} {a_before : Nat} {v_hasSigns : Int32} {v_hasEvery : Int32} {v_taped : Int32} {v_pos : Int32} {v_begun : Int32} {v_sort : Int32} {v_value : Int32} {v_fault : Int32} {v_wrongAt : Int32} {v_bestCode : Int32} {v_bestMuch : Int32} {v_torn : Int32} {p : Program} {e : Env} {s : State} {m : MethodId} {args : Array Value} {below : List Frame} {meth : Method} {c : Code} {A : Nat → Prop} {res : Int32 × Int32 × Int64 × Int64 × Int64 × (Nat → Int32)} (C : CX p m c cX7_findOdds 9 s args RX7) (hr : meth.sig.returnType = none) (hlk : meth.locks = false) (hK : KK D (TS cI cB cZ cR cM cS) s) (hA : ∀ q, s.heap.size ≤ q → A q) (kk : Int32 → Int32 → Int64 → Int64 → Int64 → (Nat → Int32) → (Nat → Int32) → Int32 → Int32 → Int32 → Int32 → Option (Int32 × Int32 × Int64 × Int64 × Int64 × (Nat → Int32))) (hk : ∀ (v_moved : Int32) (v_slipTicks : Int32) (v_straightSum : Int64) (v_movedSum : Int64) (v_allWays : Int64) (v_st : Nat → Int32) (v_now : Nat → Int32) (x1 : Int32) (x2 : Int32) (x3 : Int32) (x4 : Int32) (H : Heap) (locs : List Loc) (ls : Array Slot), kk v_moved v_slipTicks v_straightSum v_movedSum v_allWays v_st v_now x1 x2 x3 x4 = some res → va_P D vwCl [(a_this, .inr (7, [.ref a_st, .ref a_now, .ref a_isKept, .ref a_draft, .int v_hasSigns, .int v_hasEvery, .ref a_tape, .int v_taped, .int v_pos, .int v_begun, .int v_sort, .int v_value, .int v_fault, .int v_wrongAt, .int v_moved, .int v_slipTicks, .int v_bestCode, .int v_bestMuch, .long v_straightSum, .long v_movedSum, .long v_allWays, .ref a_wereAt, .ref a_byPlace, .ref a_lanes, .ref a_sizes, .ref a_cells, .int v_torn, .ref a_before])), (a_st, .inl (cI, 168, .inl v_st)), (a_now, .inl (cI, 56, .inl v_now))] H → va_D A [(a_this, .inr (7, [.ref a_st, .ref a_now, .ref a_isKept, .ref a_draft, .int v_hasSigns, .int v_hasEvery, .ref a_tape, .int v_taped, .int v_pos, .int v_begun, .int v_sort, .int v_value, .int v_fault, .int v_wrongAt, .int v_moved, .int v_slipTicks, .int v_bestCode, .int v_bestMuch, .long v_straightSum, .long v_movedSum, .long v_allWays, .ref a_wereAt, .ref a_byPlace, .ref a_lanes, .ref a_sizes, .ref a_cells, .int v_torn, .ref a_before])), (a_st, .inl (cI, 168, .inl v_st)), (a_now, .inl (cI, 56, .inl v_now))] → va_S A s.heap H locs → lv_has ls 9 [(0, .ref a_this), (1, .int x1), (2, .int x2), (3, .int x3), (4, .int x4)] → W p l e rm_X7_findOdds s m args below meth c H locs 0 0 (MQ below (va_Qv (fun (_ : Unit) => True) (BW D A [(a_this, .inr (7, [.ref a_st, .ref a_now, .ref a_isKept, .ref a_draft, .int v_hasSigns, .int v_hasEvery, .ref a_tape, .int v_taped, .int v_pos, .int v_begun, .int v_sort, .int v_value, .int v_fault, .int v_wrongAt, .int res.1, .int res.2.1, .int v_bestCode, .int v_bestMuch, .long res.2.2.1, .long res.2.2.2.1, .long res.2.2.2.2.1, .ref a_wereAt, .ref a_byPlace, .ref a_lanes, .ref a_sizes, .ref a_cells, .int v_torn, .ref a_before])), (a_st, .inl (cI, 168, .inl v_st)), (a_now, .inl (cI, 56, .inl res.2.2.2.2.2))]) A) args s 0 0 A) (F0 m 45 ls [])) : ∀ (fu : Nat) (v_moved : Int32) (v_slipTicks : Int32) (v_straightSum : Int64) (v_movedSum : Int64) (v_allWays : Int64) (v_st : Nat → Int32) (v_now : Nat → Int32) (x1 : Int32) (x2 : Int32) (x3 : Int32) (x4 : Int32) (x5 : Int64) (x7 : Int32) (H : Heap) (locs : List Loc) (ls : Array Slot), F_X7_findOdds_63 fu kk v_moved v_slipTicks v_straightSum v_movedSum v_allWays v_st v_now x1 x2 x3 x4 x5 x7 = some res → va_P D vwCl [(a_this, .inr (7, [.ref a_st, .ref a_now, .ref a_isKept, .ref a_draft, .int v_hasSigns, .int v_hasEvery, .ref a_tape, .int v_taped, .int v_pos, .int v_begun, .int v_sort, .int v_value, .int v_fault, .int v_wrongAt, .int v_moved, .int v_slipTicks, .int v_bestCode, .int v_bestMuch, .long v_straightSum, .long v_movedSum, .long v_allWays, .ref a_wereAt, .ref a_byPlace, .ref a_lanes, .ref a_sizes, .ref a_cells, .int v_torn, .ref a_before])), (a_st, .inl (cI, 168, .inl v_st)), (a_now, .inl (cI, 56, .inl v_now))] H → va_D A [(a_this, .inr (7, [.ref a_st, .ref a_now, .ref a_isKept, .ref a_draft, .int v_hasSigns, .int v_hasEvery, .ref a_tape, .int v_taped, .int v_pos, .int v_begun, .int v_sort, .int v_value, .int v_fault, .int v_wrongAt, .int v_moved, .int v_slipTicks, .int v_bestCode, .int v_bestMuch, .long v_straightSum, .long v_movedSum, .long v_allWays, .ref a_wereAt, .ref a_byPlace, .ref a_lanes, .ref a_sizes, .ref a_cells, .int v_torn, .ref a_before])), (a_st, .inl (cI, 168, .inl v_st)), (a_now, .inl (cI, 56, .inl v_now))] → va_S A s.heap H locs → lv_has ls 9 [(0, .ref a_this), (1, .int x1), (2, .int x2), (3, .int x3), (4, .int x4), (5, .long x5), (7, .int x7)] → W p l e rm_X7_findOdds s m args below meth c H locs 0 0 (MQ below (va_Qv (fun (_ : Unit) => True) (BW D A [(a_this, .inr (7, [.ref a_st, .ref a_now, .ref a_isKept, .ref a_draft, .int v_hasSigns, .int v_hasEvery, .ref a_tape, .int v_taped, .int v_pos, .int v_begun, .int v_sort, .int v_value, .int v_fault, .int v_wrongAt, .int res.1, .int res.2.1, .int v_bestCode, .int v_bestMuch, .long res.2.2.1, .long res.2.2.2.1, .long res.2.2.2.2.1, .ref a_wereAt, .ref a_byPlace, .ref a_lanes, .ref a_sizes, .ref a_cells, .int v_torn, .ref a_before])), (a_st, .inl (cI, 168, .inl v_st)), (a_now, .inl (cI, 56, .inl res.2.2.2.2.2))]) A) args s 0 0 A) (F0 m 63 ls []) := by
  intro fu
  induction fu with
  | zero => intro v_moved v_slipTicks v_straightSum v_movedSum v_allWays v_st v_now x1 x2 x3 x4 x5 x7 H locs ls hF; cases hF
  | succ fu ih =>
    intro v_moved v_slipTicks v_straightSum v_movedSum v_allWays v_st v_now x1 x2 x3 x4 x5 x7 H locs ls hF  hP hD hS hl
    unfold F_X7_findOdds_63 at hF
    refine lv_iload C.1 C.2.1 dX7_findOdds_63 (lv_at hl 6 rfl) ?_
    refine lv_iload_n C.1 C.2.1 dX7_findOdds_65 rfl (lv_at hl 3 rfl) ?_
    refine lv_icmp_ge (tgt := 123) C.1 C.2.1 dX7_findOdds_66 (by decide) (fun c1 => ?_) (fun c1 => ?_)
    · have hF := fp hF c1
      refine lv_aload_n C.1 C.2.1 dX7_findOdds_123 rfl (lv_at hl 0 rfl) ?_
      refine lv_dup C.1 C.2.1 dX7_findOdds_124 rfl ?_
      refine gf_7_7_straightSum C hK hP 0 rfl rfl dX7_findOdds_125 ?_
      refine lv_iload_n C.1 C.2.1 dX7_findOdds_128 rfl (lv_at hl 2 rfl) ?_
      refine lv_bipush (v := (-4)) C.1 C.2.1 dX7_findOdds_129 (by decide) ?_
      refine lv_icmp_eq (tgt := 147) C.1 C.2.1 dX7_findOdds_131 (by decide) (fun c2 => ?_) (fun c2 => ?_)
      · have hF := fp hF c2
        refine lv_lconst (v := 0) C.1 C.2.1 dX7_findOdds_147 rfl ?_
        refine lv_ladd C.1 C.2.1 dX7_findOdds_148 ?_
        refine pf_7_7_straightSum C hK hP hD hS 0 rfl rfl dX7_findOdds_149 (fun H locs hP hD hS => ?_)
        have hP : va_P D vwCl [(a_this, .inr (7, [.ref a_st, .ref a_now, .ref a_isKept, .ref a_draft, .int v_hasSigns, .int v_hasEvery, .ref a_tape, .int v_taped, .int v_pos, .int v_begun, .int v_sort, .int v_value, .int v_fault, .int v_wrongAt, .int v_moved, .int v_slipTicks, .int v_bestCode, .int v_bestMuch, .long (v_straightSum + (0 : Int64)), .long v_movedSum, .long v_allWays, .ref a_wereAt, .ref a_byPlace, .ref a_lanes, .ref a_sizes, .ref a_cells, .int v_torn, .ref a_before])), (a_st, .inl (cI, 168, .inl v_st)), (a_now, .inl (cI, 56, .inl v_now))] H := hP
        have hD : va_D A [(a_this, .inr (7, [.ref a_st, .ref a_now, .ref a_isKept, .ref a_draft, .int v_hasSigns, .int v_hasEvery, .ref a_tape, .int v_taped, .int v_pos, .int v_begun, .int v_sort, .int v_value, .int v_fault, .int v_wrongAt, .int v_moved, .int v_slipTicks, .int v_bestCode, .int v_bestMuch, .long (v_straightSum + (0 : Int64)), .long v_movedSum, .long v_allWays, .ref a_wereAt, .ref a_byPlace, .ref a_lanes, .ref a_sizes, .ref a_cells, .int v_torn, .ref a_before])), (a_st, .inl (cI, 168, .inl v_st)), (a_now, .inl (cI, 56, .inl v_now))] := hD
        refine lv_aload_n C.1 C.2.1 dX7_findOdds_152 rfl (lv_at hl 0 rfl) ?_
        refine lv_dup C.1 C.2.1 dX7_findOdds_153 rfl ?_
        refine gf_7_7_movedSum C hK hP 0 rfl rfl dX7_findOdds_154 ?_
        refine lv_lload C.1 C.2.1 dX7_findOdds_157 (lv_at hl 5 rfl) ?_
        refine lv_aload_n C.1 C.2.1 dX7_findOdds_159 rfl (lv_at hl 0 rfl) ?_
        refine gf_7_7_moved C hK hP 0 rfl rfl dX7_findOdds_160 ?_
        refine lv_i2l (v := v_moved.toInt64) C.1 C.2.1 dX7_findOdds_163 rfl ?_
        refine lv_lmul C.1 C.2.1 dX7_findOdds_164 ?_
        refine lv_ladd C.1 C.2.1 dX7_findOdds_165 ?_
        refine pf_7_7_movedSum C hK hP hD hS 0 rfl rfl dX7_findOdds_166 (fun H locs hP hD hS => ?_)
        have hP : va_P D vwCl [(a_this, .inr (7, [.ref a_st, .ref a_now, .ref a_isKept, .ref a_draft, .int v_hasSigns, .int v_hasEvery, .ref a_tape, .int v_taped, .int v_pos, .int v_begun, .int v_sort, .int v_value, .int v_fault, .int v_wrongAt, .int v_moved, .int v_slipTicks, .int v_bestCode, .int v_bestMuch, .long (v_straightSum + (0 : Int64)), .long (v_movedSum + (x5 * v_moved.toInt64)), .long v_allWays, .ref a_wereAt, .ref a_byPlace, .ref a_lanes, .ref a_sizes, .ref a_cells, .int v_torn, .ref a_before])), (a_st, .inl (cI, 168, .inl v_st)), (a_now, .inl (cI, 56, .inl v_now))] H := hP
        have hD : va_D A [(a_this, .inr (7, [.ref a_st, .ref a_now, .ref a_isKept, .ref a_draft, .int v_hasSigns, .int v_hasEvery, .ref a_tape, .int v_taped, .int v_pos, .int v_begun, .int v_sort, .int v_value, .int v_fault, .int v_wrongAt, .int v_moved, .int v_slipTicks, .int v_bestCode, .int v_bestMuch, .long (v_straightSum + (0 : Int64)), .long (v_movedSum + (x5 * v_moved.toInt64)), .long v_allWays, .ref a_wereAt, .ref a_byPlace, .ref a_lanes, .ref a_sizes, .ref a_cells, .int v_torn, .ref a_before])), (a_st, .inl (cI, 168, .inl v_st)), (a_now, .inl (cI, 56, .inl v_now))] := hD
        refine lv_iinc (v := x4 + 1) (lv' := [(4, .int (x4 + 1)), (0, .ref a_this), (1, .int x1), (2, .int x2), (3, .int x3), (5, .long x5), (7, .int x7)]) C.1 C.2.1 dX7_findOdds_169 hl (k := 4) rfl rfl (by decide) rfl (fun ls hl => ?_)
        refine lv_goto (tgt := 45) C.1 C.2.1 dX7_findOdds_172 (by decide) ?_
        exact hk v_moved v_slipTicks (v_straightSum + (0 : Int64)) (v_movedSum + (x5 * v_moved.toInt64)) v_allWays v_st v_now x1 x2 x3 (x4 + 1) _ _ _ hF hP hD hS (lv_sub hl [1, 2, 3, 4, 0] rfl)
      · have hF := fn hF c2
        refine lv_aload_n C.1 C.2.1 dX7_findOdds_134 rfl (lv_at hl 0 rfl) ?_
        refine lv_iload_n C.1 C.2.1 dX7_findOdds_135 rfl (lv_at hl 2 rfl) ?_
        obtain ⟨r3, h4, hF⟩ := fb hF
        refine callVI C hK hA hP hD hS [0, 2] (c_X7_off (a_this := a_this) (a_st := a_st) (a_now := a_now) (a_isKept := a_isKept) (a_draft := a_draft) (a_tape := a_tape) (a_wereAt := a_wereAt) (a_byPlace := a_byPlace) (a_lanes := a_lanes) (a_sizes := a_sizes) (a_cells := a_cells) (a_before := a_before) (v_hasSigns := v_hasSigns) (v_hasEvery := v_hasEvery) (v_taped := v_taped) (v_pos := v_pos) (v_begun := v_begun) (v_sort := v_sort) (v_value := v_value) (v_fault := v_fault) (v_wrongAt := v_wrongAt) (v_moved := v_moved) (v_slipTicks := v_slipTicks) (v_bestCode := v_bestCode) (v_bestMuch := v_bestMuch) (v_straightSum := v_straightSum) (v_movedSum := v_movedSum) (v_allWays := v_allWays) (v_torn := v_torn) (v_now := v_now) h4) cv_X7_off kw4_148 rfl (by decide) rfl rfl rfl ⟨Nat.le_of_ble_eq_true rfl, Nat.le_of_ble_eq_true rfl⟩ ⟨Nat.zero_le _, Nat.zero_le _⟩ hl.1 rfl (Nat.le_of_ble_eq_true rfl) dX7_findOdds_136 (fun H locs hP hD hS => ?_)
        have hP : va_P D vwCl [(a_this, .inr (7, [.ref a_st, .ref a_now, .ref a_isKept, .ref a_draft, .int v_hasSigns, .int v_hasEvery, .ref a_tape, .int v_taped, .int v_pos, .int v_begun, .int v_sort, .int v_value, .int v_fault, .int v_wrongAt, .int v_moved, .int v_slipTicks, .int v_bestCode, .int v_bestMuch, .long v_straightSum, .long v_movedSum, .long v_allWays, .ref a_wereAt, .ref a_byPlace, .ref a_lanes, .ref a_sizes, .ref a_cells, .int v_torn, .ref a_before])), (a_st, .inl (cI, 168, .inl v_st)), (a_now, .inl (cI, 56, .inl v_now))] H := hP
        have hD : va_D A [(a_this, .inr (7, [.ref a_st, .ref a_now, .ref a_isKept, .ref a_draft, .int v_hasSigns, .int v_hasEvery, .ref a_tape, .int v_taped, .int v_pos, .int v_begun, .int v_sort, .int v_value, .int v_fault, .int v_wrongAt, .int v_moved, .int v_slipTicks, .int v_bestCode, .int v_bestMuch, .long v_straightSum, .long v_movedSum, .long v_allWays, .ref a_wereAt, .ref a_byPlace, .ref a_lanes, .ref a_sizes, .ref a_cells, .int v_torn, .ref a_before])), (a_st, .inl (cI, 168, .inl v_st)), (a_now, .inl (cI, 56, .inl v_now))] := hD
        refine lv_if_ne (tgt := 147) C.1 C.2.1 dX7_findOdds_139 (by decide) (fun c5 => ?_) (fun c5 => ?_)
        · have hF := fn hF c5
          refine lv_lconst (v := 0) C.1 C.2.1 dX7_findOdds_147 rfl ?_
          refine lv_ladd C.1 C.2.1 dX7_findOdds_148 ?_
          refine pf_7_7_straightSum C hK hP hD hS 0 rfl rfl dX7_findOdds_149 (fun H locs hP hD hS => ?_)
          have hP : va_P D vwCl [(a_this, .inr (7, [.ref a_st, .ref a_now, .ref a_isKept, .ref a_draft, .int v_hasSigns, .int v_hasEvery, .ref a_tape, .int v_taped, .int v_pos, .int v_begun, .int v_sort, .int v_value, .int v_fault, .int v_wrongAt, .int v_moved, .int v_slipTicks, .int v_bestCode, .int v_bestMuch, .long (v_straightSum + (0 : Int64)), .long v_movedSum, .long v_allWays, .ref a_wereAt, .ref a_byPlace, .ref a_lanes, .ref a_sizes, .ref a_cells, .int v_torn, .ref a_before])), (a_st, .inl (cI, 168, .inl v_st)), (a_now, .inl (cI, 56, .inl v_now))] H := hP
          have hD : va_D A [(a_this, .inr (7, [.ref a_st, .ref a_now, .ref a_isKept, .ref a_draft, .int v_hasSigns, .int v_hasEvery, .ref a_tape, .int v_taped, .int v_pos, .int v_begun, .int v_sort, .int v_value, .int v_fault, .int v_wrongAt, .int v_moved, .int v_slipTicks, .int v_bestCode, .int v_bestMuch, .long (v_straightSum + (0 : Int64)), .long v_movedSum, .long v_allWays, .ref a_wereAt, .ref a_byPlace, .ref a_lanes, .ref a_sizes, .ref a_cells, .int v_torn, .ref a_before])), (a_st, .inl (cI, 168, .inl v_st)), (a_now, .inl (cI, 56, .inl v_now))] := hD
          refine lv_aload_n C.1 C.2.1 dX7_findOdds_152 rfl (lv_at hl 0 rfl) ?_
          refine lv_dup C.1 C.2.1 dX7_findOdds_153 rfl ?_
          refine gf_7_7_movedSum C hK hP 0 rfl rfl dX7_findOdds_154 ?_
          refine lv_lload C.1 C.2.1 dX7_findOdds_157 (lv_at hl 5 rfl) ?_
          refine lv_aload_n C.1 C.2.1 dX7_findOdds_159 rfl (lv_at hl 0 rfl) ?_
          refine gf_7_7_moved C hK hP 0 rfl rfl dX7_findOdds_160 ?_
          refine lv_i2l (v := v_moved.toInt64) C.1 C.2.1 dX7_findOdds_163 rfl ?_
          refine lv_lmul C.1 C.2.1 dX7_findOdds_164 ?_
          refine lv_ladd C.1 C.2.1 dX7_findOdds_165 ?_
          refine pf_7_7_movedSum C hK hP hD hS 0 rfl rfl dX7_findOdds_166 (fun H locs hP hD hS => ?_)
          have hP : va_P D vwCl [(a_this, .inr (7, [.ref a_st, .ref a_now, .ref a_isKept, .ref a_draft, .int v_hasSigns, .int v_hasEvery, .ref a_tape, .int v_taped, .int v_pos, .int v_begun, .int v_sort, .int v_value, .int v_fault, .int v_wrongAt, .int v_moved, .int v_slipTicks, .int v_bestCode, .int v_bestMuch, .long (v_straightSum + (0 : Int64)), .long (v_movedSum + (x5 * v_moved.toInt64)), .long v_allWays, .ref a_wereAt, .ref a_byPlace, .ref a_lanes, .ref a_sizes, .ref a_cells, .int v_torn, .ref a_before])), (a_st, .inl (cI, 168, .inl v_st)), (a_now, .inl (cI, 56, .inl v_now))] H := hP
          have hD : va_D A [(a_this, .inr (7, [.ref a_st, .ref a_now, .ref a_isKept, .ref a_draft, .int v_hasSigns, .int v_hasEvery, .ref a_tape, .int v_taped, .int v_pos, .int v_begun, .int v_sort, .int v_value, .int v_fault, .int v_wrongAt, .int v_moved, .int v_slipTicks, .int v_bestCode, .int v_bestMuch, .long (v_straightSum + (0 : Int64)), .long (v_movedSum + (x5 * v_moved.toInt64)), .long v_allWays, .ref a_wereAt, .ref a_byPlace, .ref a_lanes, .ref a_sizes, .ref a_cells, .int v_torn, .ref a_before])), (a_st, .inl (cI, 168, .inl v_st)), (a_now, .inl (cI, 56, .inl v_now))] := hD
          refine lv_iinc (v := x4 + 1) (lv' := [(4, .int (x4 + 1)), (0, .ref a_this), (1, .int x1), (2, .int x2), (3, .int x3), (5, .long x5), (7, .int x7)]) C.1 C.2.1 dX7_findOdds_169 hl (k := 4) rfl rfl (by decide) rfl (fun ls hl => ?_)
          refine lv_goto (tgt := 45) C.1 C.2.1 dX7_findOdds_172 (by decide) ?_
          exact hk v_moved v_slipTicks (v_straightSum + (0 : Int64)) (v_movedSum + (x5 * v_moved.toInt64)) v_allWays v_st v_now x1 x2 x3 (x4 + 1) _ _ _ hF hP hD hS (lv_sub hl [1, 2, 3, 4, 0] rfl)
        · have hF := fp hF c5
          refine lv_lload C.1 C.2.1 dX7_findOdds_142 (lv_at hl 5 rfl) ?_
          refine lv_goto (tgt := 148) C.1 C.2.1 dX7_findOdds_144 (by decide) ?_
          refine lv_ladd C.1 C.2.1 dX7_findOdds_148 ?_
          refine pf_7_7_straightSum C hK hP hD hS 0 rfl rfl dX7_findOdds_149 (fun H locs hP hD hS => ?_)
          have hP : va_P D vwCl [(a_this, .inr (7, [.ref a_st, .ref a_now, .ref a_isKept, .ref a_draft, .int v_hasSigns, .int v_hasEvery, .ref a_tape, .int v_taped, .int v_pos, .int v_begun, .int v_sort, .int v_value, .int v_fault, .int v_wrongAt, .int v_moved, .int v_slipTicks, .int v_bestCode, .int v_bestMuch, .long (v_straightSum + x5), .long v_movedSum, .long v_allWays, .ref a_wereAt, .ref a_byPlace, .ref a_lanes, .ref a_sizes, .ref a_cells, .int v_torn, .ref a_before])), (a_st, .inl (cI, 168, .inl v_st)), (a_now, .inl (cI, 56, .inl v_now))] H := hP
          have hD : va_D A [(a_this, .inr (7, [.ref a_st, .ref a_now, .ref a_isKept, .ref a_draft, .int v_hasSigns, .int v_hasEvery, .ref a_tape, .int v_taped, .int v_pos, .int v_begun, .int v_sort, .int v_value, .int v_fault, .int v_wrongAt, .int v_moved, .int v_slipTicks, .int v_bestCode, .int v_bestMuch, .long (v_straightSum + x5), .long v_movedSum, .long v_allWays, .ref a_wereAt, .ref a_byPlace, .ref a_lanes, .ref a_sizes, .ref a_cells, .int v_torn, .ref a_before])), (a_st, .inl (cI, 168, .inl v_st)), (a_now, .inl (cI, 56, .inl v_now))] := hD
          refine lv_aload_n C.1 C.2.1 dX7_findOdds_152 rfl (lv_at hl 0 rfl) ?_
          refine lv_dup C.1 C.2.1 dX7_findOdds_153 rfl ?_
          refine gf_7_7_movedSum C hK hP 0 rfl rfl dX7_findOdds_154 ?_
          refine lv_lload C.1 C.2.1 dX7_findOdds_157 (lv_at hl 5 rfl) ?_
          refine lv_aload_n C.1 C.2.1 dX7_findOdds_159 rfl (lv_at hl 0 rfl) ?_
          refine gf_7_7_moved C hK hP 0 rfl rfl dX7_findOdds_160 ?_
          refine lv_i2l (v := v_moved.toInt64) C.1 C.2.1 dX7_findOdds_163 rfl ?_
          refine lv_lmul C.1 C.2.1 dX7_findOdds_164 ?_
          refine lv_ladd C.1 C.2.1 dX7_findOdds_165 ?_
          refine pf_7_7_movedSum C hK hP hD hS 0 rfl rfl dX7_findOdds_166 (fun H locs hP hD hS => ?_)
          have hP : va_P D vwCl [(a_this, .inr (7, [.ref a_st, .ref a_now, .ref a_isKept, .ref a_draft, .int v_hasSigns, .int v_hasEvery, .ref a_tape, .int v_taped, .int v_pos, .int v_begun, .int v_sort, .int v_value, .int v_fault, .int v_wrongAt, .int v_moved, .int v_slipTicks, .int v_bestCode, .int v_bestMuch, .long (v_straightSum + x5), .long (v_movedSum + (x5 * v_moved.toInt64)), .long v_allWays, .ref a_wereAt, .ref a_byPlace, .ref a_lanes, .ref a_sizes, .ref a_cells, .int v_torn, .ref a_before])), (a_st, .inl (cI, 168, .inl v_st)), (a_now, .inl (cI, 56, .inl v_now))] H := hP
          have hD : va_D A [(a_this, .inr (7, [.ref a_st, .ref a_now, .ref a_isKept, .ref a_draft, .int v_hasSigns, .int v_hasEvery, .ref a_tape, .int v_taped, .int v_pos, .int v_begun, .int v_sort, .int v_value, .int v_fault, .int v_wrongAt, .int v_moved, .int v_slipTicks, .int v_bestCode, .int v_bestMuch, .long (v_straightSum + x5), .long (v_movedSum + (x5 * v_moved.toInt64)), .long v_allWays, .ref a_wereAt, .ref a_byPlace, .ref a_lanes, .ref a_sizes, .ref a_cells, .int v_torn, .ref a_before])), (a_st, .inl (cI, 168, .inl v_st)), (a_now, .inl (cI, 56, .inl v_now))] := hD
          refine lv_iinc (v := x4 + 1) (lv' := [(4, .int (x4 + 1)), (0, .ref a_this), (1, .int x1), (2, .int x2), (3, .int x3), (5, .long x5), (7, .int x7)]) C.1 C.2.1 dX7_findOdds_169 hl (k := 4) rfl rfl (by decide) rfl (fun ls hl => ?_)
          refine lv_goto (tgt := 45) C.1 C.2.1 dX7_findOdds_172 (by decide) ?_
          exact hk v_moved v_slipTicks (v_straightSum + x5) (v_movedSum + (x5 * v_moved.toInt64)) v_allWays v_st v_now x1 x2 x3 (x4 + 1) _ _ _ hF hP hD hS (lv_sub hl [1, 2, 3, 4, 0] rfl)
    · have hF := fn hF c1
      refine lv_iload C.1 C.2.1 dX7_findOdds_69 (lv_at hl 4 rfl) ?_
      refine lv_iload C.1 C.2.1 dX7_findOdds_71 (lv_at hl 6 rfl) ?_
      refine lv_ishr C.1 C.2.1 dX7_findOdds_73 ?_
      refine lv_iconst (v := 1) C.1 C.2.1 dX7_findOdds_74 (by decide) ?_
      refine lv_iand C.1 C.2.1 dX7_findOdds_75 ?_
      refine lv_iconst (v := 1) C.1 C.2.1 dX7_findOdds_76 (by decide) ?_
      refine lv_icmp_ne (tgt := 84) C.1 C.2.1 dX7_findOdds_77 (by decide) (fun c6 => ?_) (fun c6 => ?_)
      · have hF := fn hF c6
        refine lv_iconst (v := 0) C.1 C.2.1 dX7_findOdds_84 (by decide) ?_
        refine lv_istore (lv' := [(8, .int (0 : Int32)), (0, .ref a_this), (1, .int x1), (2, .int x2), (3, .int x3), (4, .int x4), (5, .long x5), (7, .int x7)]) C.1 C.2.1 dX7_findOdds_85 hl (by decide) rfl (fun ls hl => ?_)
        refine lv_lload C.1 C.2.1 dX7_findOdds_87 (lv_at hl 6 rfl) ?_
        refine lv_iload C.1 C.2.1 dX7_findOdds_89 (lv_at hl 0 rfl) ?_
        refine lv_if_eq (tgt := 99) C.1 C.2.1 dX7_findOdds_91 (by decide) (fun c7 => ?_) (fun c7 => ?_)
        · refine lv_bipush (v := 10) C.1 C.2.1 dX7_findOdds_99 (by decide) ?_
          refine lv_iload_n C.1 C.2.1 dX7_findOdds_101 rfl (lv_at hl 2 rfl) ?_
          refine lv_isub C.1 C.2.1 dX7_findOdds_102 ?_
          refine lv_i2l (v := ((10 : Int32) - x1).toInt64) C.1 C.2.1 dX7_findOdds_103 rfl ?_
          refine lv_lmul C.1 C.2.1 dX7_findOdds_104 ?_
          refine lv_lstore (lv' := [(5, .long (x5 * (((10 : Int32) - x1).toInt64))), (8, .int (0 : Int32)), (0, .ref a_this), (1, .int x1), (2, .int x2), (3, .int x3), (4, .int x4), (7, .int x7)]) C.1 C.2.1 dX7_findOdds_105 hl (by decide) rfl (fun ls hl => ?_)
          refine lv_aload_n C.1 C.2.1 dX7_findOdds_107 rfl (lv_at hl 2 rfl) ?_
          obtain ⟨w8, h9, hF⟩ := fb hF
          refine callVV C hK hA hP hD hS [0, 2] (c_X7_fieldGoes (a_this := a_this) (a_st := a_st) (a_now := a_now) (a_isKept := a_isKept) (a_draft := a_draft) (a_tape := a_tape) (a_wereAt := a_wereAt) (a_byPlace := a_byPlace) (a_lanes := a_lanes) (a_sizes := a_sizes) (a_cells := a_cells) (a_before := a_before) (v_hasSigns := v_hasSigns) (v_hasEvery := v_hasEvery) (v_taped := v_taped) (v_pos := v_pos) (v_begun := v_begun) (v_sort := v_sort) (v_value := v_value) (v_fault := v_fault) (v_wrongAt := v_wrongAt) (v_moved := v_moved) (v_slipTicks := v_slipTicks) (v_bestCode := v_bestCode) (v_bestMuch := v_bestMuch) (v_straightSum := v_straightSum) (v_movedSum := v_movedSum) (v_allWays := v_allWays) (v_torn := v_torn) (v_now := v_now) h9) cv_X7_fieldGoes kw4_229 rfl (by decide) rfl rfl rfl ⟨Nat.le_of_ble_eq_true rfl, Nat.le_of_ble_eq_true rfl⟩ ⟨Nat.zero_le _, Nat.zero_le _⟩ hl.1 rfl (Nat.le_of_ble_eq_true rfl) dX7_findOdds_108 (fun H locs hP hD hS => ?_)
          have hP : va_P D vwCl [(a_this, .inr (7, [.ref a_st, .ref a_now, .ref a_isKept, .ref a_draft, .int v_hasSigns, .int v_hasEvery, .ref a_tape, .int v_taped, .int v_pos, .int v_begun, .int v_sort, .int v_value, .int v_fault, .int v_wrongAt, .int v_moved, .int v_slipTicks, .int v_bestCode, .int v_bestMuch, .long v_straightSum, .long v_movedSum, .long v_allWays, .ref a_wereAt, .ref a_byPlace, .ref a_lanes, .ref a_sizes, .ref a_cells, .int v_torn, .ref a_before])), (a_st, .inl (cI, 168, .inl v_st)), (a_now, .inl (cI, 56, .inl w8))] H := hP
          have hD : va_D A [(a_this, .inr (7, [.ref a_st, .ref a_now, .ref a_isKept, .ref a_draft, .int v_hasSigns, .int v_hasEvery, .ref a_tape, .int v_taped, .int v_pos, .int v_begun, .int v_sort, .int v_value, .int v_fault, .int v_wrongAt, .int v_moved, .int v_slipTicks, .int v_bestCode, .int v_bestMuch, .long v_straightSum, .long v_movedSum, .long v_allWays, .ref a_wereAt, .ref a_byPlace, .ref a_lanes, .ref a_sizes, .ref a_cells, .int v_torn, .ref a_before])), (a_st, .inl (cI, 168, .inl v_st)), (a_now, .inl (cI, 56, .inl w8))] := hD
          refine lv_aload_n C.1 C.2.1 dX7_findOdds_111 rfl (lv_at hl 2 rfl) ?_
          refine lv_iload C.1 C.2.1 dX7_findOdds_112 (lv_at hl 1 rfl) ?_
          obtain ⟨⟨w10, w11, w12⟩, h13, hF⟩ := fb hF
          refine callVV C hK hA hP hD hS [0, 2] (c_X7_rotorsGo (a_this := a_this) (a_st := a_st) (a_now := a_now) (a_isKept := a_isKept) (a_draft := a_draft) (a_tape := a_tape) (a_wereAt := a_wereAt) (a_byPlace := a_byPlace) (a_lanes := a_lanes) (a_sizes := a_sizes) (a_cells := a_cells) (a_before := a_before) (v_hasSigns := v_hasSigns) (v_hasEvery := v_hasEvery) (v_taped := v_taped) (v_pos := v_pos) (v_begun := v_begun) (v_sort := v_sort) (v_value := v_value) (v_fault := v_fault) (v_wrongAt := v_wrongAt) (v_moved := v_moved) (v_slipTicks := v_slipTicks) (v_bestCode := v_bestCode) (v_bestMuch := v_bestMuch) (v_straightSum := v_straightSum) (v_movedSum := v_movedSum) (v_allWays := v_allWays) (v_torn := v_torn) (v_now := w8) h13) cv_X7_rotorsGo kw4_236 rfl (by decide) rfl rfl rfl ⟨Nat.le_of_ble_eq_true rfl, Nat.le_of_ble_eq_true rfl⟩ ⟨Nat.zero_le _, Nat.zero_le _⟩ hl.1 rfl (Nat.le_of_ble_eq_true rfl) dX7_findOdds_114 (fun H locs hP hD hS => ?_)
          have hP : va_P D vwCl [(a_this, .inr (7, [.ref a_st, .ref a_now, .ref a_isKept, .ref a_draft, .int v_hasSigns, .int v_hasEvery, .ref a_tape, .int v_taped, .int v_pos, .int v_begun, .int v_sort, .int v_value, .int v_fault, .int v_wrongAt, .int w10, .int w11, .int v_bestCode, .int v_bestMuch, .long v_straightSum, .long v_movedSum, .long v_allWays, .ref a_wereAt, .ref a_byPlace, .ref a_lanes, .ref a_sizes, .ref a_cells, .int v_torn, .ref a_before])), (a_st, .inl (cI, 168, .inl v_st)), (a_now, .inl (cI, 56, .inl w12))] H := hP
          have hD : va_D A [(a_this, .inr (7, [.ref a_st, .ref a_now, .ref a_isKept, .ref a_draft, .int v_hasSigns, .int v_hasEvery, .ref a_tape, .int v_taped, .int v_pos, .int v_begun, .int v_sort, .int v_value, .int v_fault, .int v_wrongAt, .int w10, .int w11, .int v_bestCode, .int v_bestMuch, .long v_straightSum, .long v_movedSum, .long v_allWays, .ref a_wereAt, .ref a_byPlace, .ref a_lanes, .ref a_sizes, .ref a_cells, .int v_torn, .ref a_before])), (a_st, .inl (cI, 168, .inl v_st)), (a_now, .inl (cI, 56, .inl w12))] := hD
          refine lv_iinc (v := x7 + 1) (lv' := [(7, .int (x7 + 1)), (5, .long (x5 * (((10 : Int32) - x1).toInt64))), (8, .int (0 : Int32)), (0, .ref a_this), (1, .int x1), (2, .int x2), (3, .int x3), (4, .int x4)]) C.1 C.2.1 dX7_findOdds_117 hl (k := 7) rfl rfl (by decide) rfl (fun ls hl => ?_)
          refine lv_goto (tgt := 63) C.1 C.2.1 dX7_findOdds_120 (by decide) ?_
          exact ih w10 w11 v_straightSum v_movedSum v_allWays v_st w12 x1 x2 x3 x4 (x5 * (((10 : Int32) - x1).toInt64)) (x7 + 1) _ _ _ hF hP hD hS (lv_sub hl [3, 4, 5, 6, 7, 1, 0] rfl)
        · exact absurd c7 (by decide)
      · have hF := fp hF c6
        refine lv_iconst (v := 1) C.1 C.2.1 dX7_findOdds_80 (by decide) ?_
        refine lv_goto (tgt := 85) C.1 C.2.1 dX7_findOdds_81 (by decide) ?_
        refine lv_istore (lv' := [(8, .int (1 : Int32)), (0, .ref a_this), (1, .int x1), (2, .int x2), (3, .int x3), (4, .int x4), (5, .long x5), (7, .int x7)]) C.1 C.2.1 dX7_findOdds_85 hl (by decide) rfl (fun ls hl => ?_)
        refine lv_lload C.1 C.2.1 dX7_findOdds_87 (lv_at hl 6 rfl) ?_
        refine lv_iload C.1 C.2.1 dX7_findOdds_89 (lv_at hl 0 rfl) ?_
        refine lv_if_eq (tgt := 99) C.1 C.2.1 dX7_findOdds_91 (by decide) (fun c14 => ?_) (fun c14 => ?_)
        · exact absurd c14 (by decide)
        · refine lv_iload_n C.1 C.2.1 dX7_findOdds_94 rfl (lv_at hl 2 rfl) ?_
          refine lv_i2l (v := x1.toInt64) C.1 C.2.1 dX7_findOdds_95 rfl ?_
          refine lv_goto (tgt := 104) C.1 C.2.1 dX7_findOdds_96 (by decide) ?_
          refine lv_lmul C.1 C.2.1 dX7_findOdds_104 ?_
          refine lv_lstore (lv' := [(5, .long (x5 * x1.toInt64)), (8, .int (1 : Int32)), (0, .ref a_this), (1, .int x1), (2, .int x2), (3, .int x3), (4, .int x4), (7, .int x7)]) C.1 C.2.1 dX7_findOdds_105 hl (by decide) rfl (fun ls hl => ?_)
          refine lv_aload_n C.1 C.2.1 dX7_findOdds_107 rfl (lv_at hl 2 rfl) ?_
          obtain ⟨w15, h16, hF⟩ := fb hF
          refine callVV C hK hA hP hD hS [0, 2] (c_X7_fieldGoes (a_this := a_this) (a_st := a_st) (a_now := a_now) (a_isKept := a_isKept) (a_draft := a_draft) (a_tape := a_tape) (a_wereAt := a_wereAt) (a_byPlace := a_byPlace) (a_lanes := a_lanes) (a_sizes := a_sizes) (a_cells := a_cells) (a_before := a_before) (v_hasSigns := v_hasSigns) (v_hasEvery := v_hasEvery) (v_taped := v_taped) (v_pos := v_pos) (v_begun := v_begun) (v_sort := v_sort) (v_value := v_value) (v_fault := v_fault) (v_wrongAt := v_wrongAt) (v_moved := v_moved) (v_slipTicks := v_slipTicks) (v_bestCode := v_bestCode) (v_bestMuch := v_bestMuch) (v_straightSum := v_straightSum) (v_movedSum := v_movedSum) (v_allWays := v_allWays) (v_torn := v_torn) (v_now := v_now) h16) cv_X7_fieldGoes kw4_229 rfl (by decide) rfl rfl rfl ⟨Nat.le_of_ble_eq_true rfl, Nat.le_of_ble_eq_true rfl⟩ ⟨Nat.zero_le _, Nat.zero_le _⟩ hl.1 rfl (Nat.le_of_ble_eq_true rfl) dX7_findOdds_108 (fun H locs hP hD hS => ?_)
          have hP : va_P D vwCl [(a_this, .inr (7, [.ref a_st, .ref a_now, .ref a_isKept, .ref a_draft, .int v_hasSigns, .int v_hasEvery, .ref a_tape, .int v_taped, .int v_pos, .int v_begun, .int v_sort, .int v_value, .int v_fault, .int v_wrongAt, .int v_moved, .int v_slipTicks, .int v_bestCode, .int v_bestMuch, .long v_straightSum, .long v_movedSum, .long v_allWays, .ref a_wereAt, .ref a_byPlace, .ref a_lanes, .ref a_sizes, .ref a_cells, .int v_torn, .ref a_before])), (a_st, .inl (cI, 168, .inl v_st)), (a_now, .inl (cI, 56, .inl w15))] H := hP
          have hD : va_D A [(a_this, .inr (7, [.ref a_st, .ref a_now, .ref a_isKept, .ref a_draft, .int v_hasSigns, .int v_hasEvery, .ref a_tape, .int v_taped, .int v_pos, .int v_begun, .int v_sort, .int v_value, .int v_fault, .int v_wrongAt, .int v_moved, .int v_slipTicks, .int v_bestCode, .int v_bestMuch, .long v_straightSum, .long v_movedSum, .long v_allWays, .ref a_wereAt, .ref a_byPlace, .ref a_lanes, .ref a_sizes, .ref a_cells, .int v_torn, .ref a_before])), (a_st, .inl (cI, 168, .inl v_st)), (a_now, .inl (cI, 56, .inl w15))] := hD
          refine lv_aload_n C.1 C.2.1 dX7_findOdds_111 rfl (lv_at hl 2 rfl) ?_
          refine lv_iload C.1 C.2.1 dX7_findOdds_112 (lv_at hl 1 rfl) ?_
          obtain ⟨⟨w17, w18, w19⟩, h20, hF⟩ := fb hF
          refine callVV C hK hA hP hD hS [0, 2] (c_X7_rotorsGo (a_this := a_this) (a_st := a_st) (a_now := a_now) (a_isKept := a_isKept) (a_draft := a_draft) (a_tape := a_tape) (a_wereAt := a_wereAt) (a_byPlace := a_byPlace) (a_lanes := a_lanes) (a_sizes := a_sizes) (a_cells := a_cells) (a_before := a_before) (v_hasSigns := v_hasSigns) (v_hasEvery := v_hasEvery) (v_taped := v_taped) (v_pos := v_pos) (v_begun := v_begun) (v_sort := v_sort) (v_value := v_value) (v_fault := v_fault) (v_wrongAt := v_wrongAt) (v_moved := v_moved) (v_slipTicks := v_slipTicks) (v_bestCode := v_bestCode) (v_bestMuch := v_bestMuch) (v_straightSum := v_straightSum) (v_movedSum := v_movedSum) (v_allWays := v_allWays) (v_torn := v_torn) (v_now := w15) h20) cv_X7_rotorsGo kw4_236 rfl (by decide) rfl rfl rfl ⟨Nat.le_of_ble_eq_true rfl, Nat.le_of_ble_eq_true rfl⟩ ⟨Nat.zero_le _, Nat.zero_le _⟩ hl.1 rfl (Nat.le_of_ble_eq_true rfl) dX7_findOdds_114 (fun H locs hP hD hS => ?_)
          have hP : va_P D vwCl [(a_this, .inr (7, [.ref a_st, .ref a_now, .ref a_isKept, .ref a_draft, .int v_hasSigns, .int v_hasEvery, .ref a_tape, .int v_taped, .int v_pos, .int v_begun, .int v_sort, .int v_value, .int v_fault, .int v_wrongAt, .int w17, .int w18, .int v_bestCode, .int v_bestMuch, .long v_straightSum, .long v_movedSum, .long v_allWays, .ref a_wereAt, .ref a_byPlace, .ref a_lanes, .ref a_sizes, .ref a_cells, .int v_torn, .ref a_before])), (a_st, .inl (cI, 168, .inl v_st)), (a_now, .inl (cI, 56, .inl w19))] H := hP
          have hD : va_D A [(a_this, .inr (7, [.ref a_st, .ref a_now, .ref a_isKept, .ref a_draft, .int v_hasSigns, .int v_hasEvery, .ref a_tape, .int v_taped, .int v_pos, .int v_begun, .int v_sort, .int v_value, .int v_fault, .int v_wrongAt, .int w17, .int w18, .int v_bestCode, .int v_bestMuch, .long v_straightSum, .long v_movedSum, .long v_allWays, .ref a_wereAt, .ref a_byPlace, .ref a_lanes, .ref a_sizes, .ref a_cells, .int v_torn, .ref a_before])), (a_st, .inl (cI, 168, .inl v_st)), (a_now, .inl (cI, 56, .inl w19))] := hD
          refine lv_iinc (v := x7 + 1) (lv' := [(7, .int (x7 + 1)), (5, .long (x5 * x1.toInt64)), (8, .int (1 : Int32)), (0, .ref a_this), (1, .int x1), (2, .int x2), (3, .int x3), (4, .int x4)]) C.1 C.2.1 dX7_findOdds_117 hl (k := 7) rfl rfl (by decide) rfl (fun ls hl => ?_)
          refine lv_goto (tgt := 63) C.1 C.2.1 dX7_findOdds_120 (by decide) ?_
          exact ih w17 w18 v_straightSum v_movedSum v_allWays v_st w19 x1 x2 x3 x4 (x5 * x1.toInt64) (x7 + 1) _ _ _ hF hP hD hS (lv_sub hl [3, 4, 5, 6, 7, 1, 0] rfl)
set_option maxHeartbeats 4000000 in
set_option maxRecDepth 100000 in
theorem b_X7_findOdds_45 {l : Launch} {D : va_G} {cI cB cZ cR cM cS : ClassId} {a_this : Nat} {a_st : Nat} {a_now : Nat} {a_isKept : Nat} {a_draft : Nat} {a_tape : Nat} {a_wereAt : Nat} {a_byPlace : Nat} {a_lanes : Nat} {a_sizes : Nat} {a_cells : Nat} {a_before : Nat} {v_hasSigns : Int32} {v_hasEvery : Int32} {v_taped : Int32} {v_pos : Int32} {v_begun : Int32} {v_sort : Int32} {v_value : Int32} {v_fault : Int32} {v_wrongAt : Int32} {v_bestCode : Int32} {v_bestMuch : Int32} {v_torn : Int32} {p : Program} {e : Env} {s : State} {m : MethodId} {args : Array Value} {below : List Frame} {meth : Method} {c : Code} {A : Nat → Prop} {res : Int32 × Int32 × Int64 × Int64 × Int64 × (Nat → Int32)} (C : CX p m c cX7_findOdds 9 s args RX7) (hr : meth.sig.returnType = none) (hlk : meth.locks = false) (hK : KK D (TS cI cB cZ cR cM cS) s) (hA : ∀ q, s.heap.size ≤ q → A q) : ∀ (fu : Nat) (v_moved : Int32) (v_slipTicks : Int32) (v_straightSum : Int64) (v_movedSum : Int64) (v_allWays : Int64) (v_st : Nat → Int32) (v_now : Nat → Int32) (x1 : Int32) (x2 : Int32) (x3 : Int32) (x4 : Int32) (H : Heap) (locs : List Loc) (ls : Array Slot), F_X7_findOdds_45 fu v_moved v_slipTicks v_straightSum v_movedSum v_allWays v_st v_now x1 x2 x3 x4 = some res → va_P D vwCl [(a_this, .inr (7, [.ref a_st, .ref a_now, .ref a_isKept, .ref a_draft, .int v_hasSigns, .int v_hasEvery, .ref a_tape, .int v_taped, .int v_pos, .int v_begun, .int v_sort, .int v_value, .int v_fault, .int v_wrongAt, .int v_moved, .int v_slipTicks, .int v_bestCode, .int v_bestMuch, .long v_straightSum, .long v_movedSum, .long v_allWays, .ref a_wereAt, .ref a_byPlace, .ref a_lanes, .ref a_sizes, .ref a_cells, .int v_torn, .ref a_before])), (a_st, .inl (cI, 168, .inl v_st)), (a_now, .inl (cI, 56, .inl v_now))] H → va_D A [(a_this, .inr (7, [.ref a_st, .ref a_now, .ref a_isKept, .ref a_draft, .int v_hasSigns, .int v_hasEvery, .ref a_tape, .int v_taped, .int v_pos, .int v_begun, .int v_sort, .int v_value, .int v_fault, .int v_wrongAt, .int v_moved, .int v_slipTicks, .int v_bestCode, .int v_bestMuch, .long v_straightSum, .long v_movedSum, .long v_allWays, .ref a_wereAt, .ref a_byPlace, .ref a_lanes, .ref a_sizes, .ref a_cells, .int v_torn, .ref a_before])), (a_st, .inl (cI, 168, .inl v_st)), (a_now, .inl (cI, 56, .inl v_now))] → va_S A s.heap H locs → lv_has ls 9 [(0, .ref a_this), (1, .int x1), (2, .int x2), (3, .int x3), (4, .int x4)] → W p l e rm_X7_findOdds s m args below meth c H locs 0 0 (MQ below (va_Qv (fun (_ : Unit) => True) (BW D A [(a_this, .inr (7, [.ref a_st, .ref a_now, .ref a_isKept, .ref a_draft, .int v_hasSigns, .int v_hasEvery, .ref a_tape, .int v_taped, .int v_pos, .int v_begun, .int v_sort, .int v_value, .int v_fault, .int v_wrongAt, .int res.1, .int res.2.1, .int v_bestCode, .int v_bestMuch, .long res.2.2.1, .long res.2.2.2.1, .long res.2.2.2.2.1, .ref a_wereAt, .ref a_byPlace, .ref a_lanes, .ref a_sizes, .ref a_cells, .int v_torn, .ref a_before])), (a_st, .inl (cI, 168, .inl v_st)), (a_now, .inl (cI, 56, .inl res.2.2.2.2.2))]) A) args s 0 0 A) (F0 m 45 ls []) := by
  intro fu
  induction fu with
  | zero => intro v_moved v_slipTicks v_straightSum v_movedSum v_allWays v_st v_now x1 x2 x3 x4 H locs ls hF; cases hF
  | succ fu ih =>
    intro v_moved v_slipTicks v_straightSum v_movedSum v_allWays v_st v_now x1 x2 x3 x4 H locs ls hF  hP hD hS hl
    unfold F_X7_findOdds_45 at hF
    refine lv_iload C.1 C.2.1 dX7_findOdds_45 (lv_at hl 4 rfl) ?_
    refine lv_iconst (v := 1) C.1 C.2.1 dX7_findOdds_47 (by decide) ?_
    refine lv_iload_n C.1 C.2.1 dX7_findOdds_48 rfl (lv_at hl 3 rfl) ?_
    refine lv_ishl C.1 C.2.1 dX7_findOdds_49 ?_
    refine lv_icmp_ge (tgt := 175) C.1 C.2.1 dX7_findOdds_50 (by decide) (fun c1 => ?_) (fun c1 => ?_)
    · have hF := fp hF c1
      have hF := Option.some.inj hF
      subst hF
      exact retV C hr hlk hP hD hS dX7_findOdds_175
    · have hF := fn hF c1
      refine lv_lconst (v := 1) C.1 C.2.1 dX7_findOdds_53 rfl ?_
      refine lv_lstore (lv' := [(5, .long (1 : Int64)), (0, .ref a_this), (1, .int x1), (2, .int x2), (3, .int x3), (4, .int x4)]) C.1 C.2.1 dX7_findOdds_54 hl (by decide) rfl (fun ls hl => ?_)
      refine lv_aload_n C.1 C.2.1 dX7_findOdds_56 rfl (lv_at hl 1 rfl) ?_
      obtain ⟨⟨w2, w3, w4⟩, h5, hF⟩ := fb hF
      refine callVV C hK hA hP hD hS [0, 1, 2] (c_X7_takesAll (a_this := a_this) (a_st := a_st) (a_now := a_now) (a_isKept := a_isKept) (a_draft := a_draft) (a_tape := a_tape) (a_wereAt := a_wereAt) (a_byPlace := a_byPlace) (a_lanes := a_lanes) (a_sizes := a_sizes) (a_cells := a_cells) (a_before := a_before) (v_hasSigns := v_hasSigns) (v_hasEvery := v_hasEvery) (v_taped := v_taped) (v_pos := v_pos) (v_begun := v_begun) (v_sort := v_sort) (v_value := v_value) (v_fault := v_fault) (v_wrongAt := v_wrongAt) (v_moved := v_moved) (v_slipTicks := v_slipTicks) (v_bestCode := v_bestCode) (v_bestMuch := v_bestMuch) (v_straightSum := v_straightSum) (v_movedSum := v_movedSum) (v_allWays := v_allWays) (v_torn := v_torn) (v_st := v_st) (v_now := v_now) h5) cv_X7_takesAll kw4_135 rfl (by decide) rfl rfl rfl ⟨Nat.le_of_ble_eq_true rfl, Nat.le_of_ble_eq_true rfl⟩ ⟨Nat.zero_le _, Nat.zero_le _⟩ hl.1 rfl (Nat.le_of_ble_eq_true rfl) dX7_findOdds_57 (fun H locs hP hD hS => ?_)
      have hP : va_P D vwCl [(a_this, .inr (7, [.ref a_st, .ref a_now, .ref a_isKept, .ref a_draft, .int v_hasSigns, .int v_hasEvery, .ref a_tape, .int v_taped, .int v_pos, .int v_begun, .int v_sort, .int v_value, .int v_fault, .int v_wrongAt, .int w2, .int w3, .int v_bestCode, .int v_bestMuch, .long v_straightSum, .long v_movedSum, .long v_allWays, .ref a_wereAt, .ref a_byPlace, .ref a_lanes, .ref a_sizes, .ref a_cells, .int v_torn, .ref a_before])), (a_st, .inl (cI, 168, .inl v_st)), (a_now, .inl (cI, 56, .inl w4))] H := hP
      have hD : va_D A [(a_this, .inr (7, [.ref a_st, .ref a_now, .ref a_isKept, .ref a_draft, .int v_hasSigns, .int v_hasEvery, .ref a_tape, .int v_taped, .int v_pos, .int v_begun, .int v_sort, .int v_value, .int v_fault, .int v_wrongAt, .int w2, .int w3, .int v_bestCode, .int v_bestMuch, .long v_straightSum, .long v_movedSum, .long v_allWays, .ref a_wereAt, .ref a_byPlace, .ref a_lanes, .ref a_sizes, .ref a_cells, .int v_torn, .ref a_before])), (a_st, .inl (cI, 168, .inl v_st)), (a_now, .inl (cI, 56, .inl w4))] := hD
      refine lv_iconst (v := 0) C.1 C.2.1 dX7_findOdds_60 (by decide) ?_
      refine lv_istore (lv' := [(7, .int (0 : Int32)), (5, .long (1 : Int64)), (0, .ref a_this), (1, .int x1), (2, .int x2), (3, .int x3), (4, .int x4)]) C.1 C.2.1 dX7_findOdds_61 hl (by decide) rfl (fun ls hl => ?_)
      exact b_X7_findOdds_63 C hr hlk hK hA (fun (v_moved : Int32) (v_slipTicks : Int32) (v_straightSum : Int64) (v_movedSum : Int64) (v_allWays : Int64) (v_st : Nat → Int32) (v_now : Nat → Int32) (x1 : Int32) (x2 : Int32) (x3 : Int32) (x4 : Int32) => F_X7_findOdds_45 fu v_moved v_slipTicks v_straightSum v_movedSum v_allWays v_st v_now x1 x2 x3 x4) ih FU w2 w3 v_straightSum v_movedSum v_allWays v_st w4 x1 x2 x3 x4 (1 : Int64) (0 : Int32) _ _ _ hF hP hD hS (lv_sub hl [2, 3, 4, 5, 6, 1, 0] rfl)
set_option maxHeartbeats 4000000 in
set_option maxRecDepth 100000 in
theorem b_X7_findOdds_18 {l : Launch} {D : va_G} {cI cB cZ cR cM cS : ClassId} {a_this : Nat} {a_st : Nat} {a_now : Nat} {a_isKept : Nat} {a_draft : Nat} {a_tape : Nat} {a_wereAt : Nat} {a_byPlace : Nat} {a_lanes : Nat} {a_sizes : Nat} {a_cells : Nat} {a_before : Nat} {v_hasSigns : Int32} {v_hasEvery : Int32} {v_taped : Int32} {v_pos : Int32} {v_begun : Int32} {v_sort : Int32} {v_value : Int32} {v_fault : Int32} {v_wrongAt : Int32} {v_bestCode : Int32} {v_bestMuch : Int32} {v_torn : Int32} {p : Program} {e : Env} {s : State} {m : MethodId} {args : Array Value} {below : List Frame} {meth : Method} {c : Code} {A : Nat → Prop} {res : Int32 × Int32 × Int64 × Int64 × Int64 × (Nat → Int32)} (C : CX p m c cX7_findOdds 9 s args RX7) (hr : meth.sig.returnType = none) (hlk : meth.locks = false) (hK : KK D (TS cI cB cZ cR cM cS) s) (hA : ∀ q, s.heap.size ≤ q → A q) : ∀ (fu : Nat) (v_moved : Int32) (v_slipTicks : Int32) (v_straightSum : Int64) (v_movedSum : Int64) (v_allWays : Int64) (v_st : Nat → Int32) (v_now : Nat → Int32) (x1 : Int32) (x2 : Int32) (x3 : Int32) (x4 : Int32) (H : Heap) (locs : List Loc) (ls : Array Slot), F_X7_findOdds_18 fu v_moved v_slipTicks v_straightSum v_movedSum v_allWays v_st v_now x1 x2 x3 x4 = some res → va_P D vwCl [(a_this, .inr (7, [.ref a_st, .ref a_now, .ref a_isKept, .ref a_draft, .int v_hasSigns, .int v_hasEvery, .ref a_tape, .int v_taped, .int v_pos, .int v_begun, .int v_sort, .int v_value, .int v_fault, .int v_wrongAt, .int v_moved, .int v_slipTicks, .int v_bestCode, .int v_bestMuch, .long v_straightSum, .long v_movedSum, .long v_allWays, .ref a_wereAt, .ref a_byPlace, .ref a_lanes, .ref a_sizes, .ref a_cells, .int v_torn, .ref a_before])), (a_st, .inl (cI, 168, .inl v_st)), (a_now, .inl (cI, 56, .inl v_now))] H → va_D A [(a_this, .inr (7, [.ref a_st, .ref a_now, .ref a_isKept, .ref a_draft, .int v_hasSigns, .int v_hasEvery, .ref a_tape, .int v_taped, .int v_pos, .int v_begun, .int v_sort, .int v_value, .int v_fault, .int v_wrongAt, .int v_moved, .int v_slipTicks, .int v_bestCode, .int v_bestMuch, .long v_straightSum, .long v_movedSum, .long v_allWays, .ref a_wereAt, .ref a_byPlace, .ref a_lanes, .ref a_sizes, .ref a_cells, .int v_torn, .ref a_before])), (a_st, .inl (cI, 168, .inl v_st)), (a_now, .inl (cI, 56, .inl v_now))] → va_S A s.heap H locs → lv_has ls 9 [(0, .ref a_this), (1, .int x1), (2, .int x2), (3, .int x3), (4, .int x4)] → W p l e rm_X7_findOdds s m args below meth c H locs 0 0 (MQ below (va_Qv (fun (_ : Unit) => True) (BW D A [(a_this, .inr (7, [.ref a_st, .ref a_now, .ref a_isKept, .ref a_draft, .int v_hasSigns, .int v_hasEvery, .ref a_tape, .int v_taped, .int v_pos, .int v_begun, .int v_sort, .int v_value, .int v_fault, .int v_wrongAt, .int res.1, .int res.2.1, .int v_bestCode, .int v_bestMuch, .long res.2.2.1, .long res.2.2.2.1, .long res.2.2.2.2.1, .ref a_wereAt, .ref a_byPlace, .ref a_lanes, .ref a_sizes, .ref a_cells, .int v_torn, .ref a_before])), (a_st, .inl (cI, 168, .inl v_st)), (a_now, .inl (cI, 56, .inl res.2.2.2.2.2))]) A) args s 0 0 A) (F0 m 18 ls []) := by
  intro fu
  induction fu with
  | zero => intro v_moved v_slipTicks v_straightSum v_movedSum v_allWays v_st v_now x1 x2 x3 x4 H locs ls hF; cases hF
  | succ fu ih =>
    intro v_moved v_slipTicks v_straightSum v_movedSum v_allWays v_st v_now x1 x2 x3 x4 H locs ls hF  hP hD hS hl
    unfold F_X7_findOdds_18 at hF
    refine lv_iload C.1 C.2.1 dX7_findOdds_18 (lv_at hl 4 rfl) ?_
    refine lv_iload_n C.1 C.2.1 dX7_findOdds_20 rfl (lv_at hl 3 rfl) ?_
    refine lv_icmp_ge (tgt := 42) C.1 C.2.1 dX7_findOdds_21 (by decide) (fun c1 => ?_) (fun c1 => ?_)
    · have hF := fp hF c1
      refine lv_iconst (v := 0) C.1 C.2.1 dX7_findOdds_42 (by decide) ?_
      refine lv_istore (lv' := [(4, .int (0 : Int32)), (0, .ref a_this), (1, .int x1), (2, .int x2), (3, .int x3)]) C.1 C.2.1 dX7_findOdds_43 hl (by decide) rfl (fun ls hl => ?_)
      exact b_X7_findOdds_45 C hr hlk hK hA FU v_moved v_slipTicks v_straightSum v_movedSum v_allWays v_st v_now x1 x2 x3 (0 : Int32) _ _ _ hF hP hD hS (lv_sub hl [1, 2, 3, 4, 0] rfl)
    · have hF := fn hF c1
      refine lv_aload_n C.1 C.2.1 dX7_findOdds_24 rfl (lv_at hl 0 rfl) ?_
      refine lv_dup C.1 C.2.1 dX7_findOdds_25 rfl ?_
      refine gf_7_7_allWays C hK hP 0 rfl rfl dX7_findOdds_26 ?_
      refine lv_ldc2 (v := 10) C.1 C.2.1 C.2.2.2.1 (C.2.2.2.2 _ kw5_84) dX7_findOdds_29 ?_
      refine lv_lmul C.1 C.2.1 dX7_findOdds_32 ?_
      refine pf_7_7_allWays C hK hP hD hS 0 rfl rfl dX7_findOdds_33 (fun H locs hP hD hS => ?_)
      have hP : va_P D vwCl [(a_this, .inr (7, [.ref a_st, .ref a_now, .ref a_isKept, .ref a_draft, .int v_hasSigns, .int v_hasEvery, .ref a_tape, .int v_taped, .int v_pos, .int v_begun, .int v_sort, .int v_value, .int v_fault, .int v_wrongAt, .int v_moved, .int v_slipTicks, .int v_bestCode, .int v_bestMuch, .long v_straightSum, .long v_movedSum, .long (v_allWays * (10 : Int64)), .ref a_wereAt, .ref a_byPlace, .ref a_lanes, .ref a_sizes, .ref a_cells, .int v_torn, .ref a_before])), (a_st, .inl (cI, 168, .inl v_st)), (a_now, .inl (cI, 56, .inl v_now))] H := hP
      have hD : va_D A [(a_this, .inr (7, [.ref a_st, .ref a_now, .ref a_isKept, .ref a_draft, .int v_hasSigns, .int v_hasEvery, .ref a_tape, .int v_taped, .int v_pos, .int v_begun, .int v_sort, .int v_value, .int v_fault, .int v_wrongAt, .int v_moved, .int v_slipTicks, .int v_bestCode, .int v_bestMuch, .long v_straightSum, .long v_movedSum, .long (v_allWays * (10 : Int64)), .ref a_wereAt, .ref a_byPlace, .ref a_lanes, .ref a_sizes, .ref a_cells, .int v_torn, .ref a_before])), (a_st, .inl (cI, 168, .inl v_st)), (a_now, .inl (cI, 56, .inl v_now))] := hD
      refine lv_iinc (v := x4 + 1) (lv' := [(4, .int (x4 + 1)), (0, .ref a_this), (1, .int x1), (2, .int x2), (3, .int x3)]) C.1 C.2.1 dX7_findOdds_36 hl (k := 4) rfl rfl (by decide) rfl (fun ls hl => ?_)
      refine lv_goto (tgt := 18) C.1 C.2.1 dX7_findOdds_39 (by decide) ?_
      exact ih v_moved v_slipTicks v_straightSum v_movedSum (v_allWays * (10 : Int64)) v_st v_now x1 x2 x3 (x4 + 1) _ _ _ hF hP hD hS (lv_sub hl [1, 2, 3, 4, 0] rfl)
set_option maxHeartbeats 4000000 in
set_option maxRecDepth 100000 in
theorem c0_X7_findOdds {l : Launch} {D : va_G} {cI cB cZ cR cM cS : ClassId} {a_this : Nat} {a_st : Nat} {a_now : Nat} {a_isKept : Nat} {a_draft : Nat} {a_tape : Nat} {a_wereAt : Nat} {a_byPlace : Nat} {a_lanes : Nat} {a_sizes : Nat} {a_cells : Nat} {a_before : Nat} {v_hasSigns : Int32} {v_hasEvery : Int32} {v_taped : Int32} {v_pos : Int32} {v_begun : Int32} {v_sort : Int32} {v_value : Int32} {v_fault : Int32} {v_wrongAt : Int32} {v_moved : Int32} {v_slipTicks : Int32} {v_bestCode : Int32} {v_bestMuch : Int32} {v_straightSum : Int64} {v_movedSum : Int64} {v_allWays : Int64} {v_torn : Int32} {v_st : Nat → Int32} {v_now : Nat → Int32} {x1 : Int32} {x2 : Int32} {x3 : Int32} {res : Int32 × Int32 × Int64 × Int64 × Int64 × (Nat → Int32)} (hF : F_X7_findOdds v_moved v_slipTicks v_straightSum v_movedSum v_allWays v_st v_now x1 x2 x3 = some res) : MV l yX7_findOdds cX7_findOdds 9 rm_X7_findOdds D (TS cI cB cZ cR cM cS) [.ref a_this, .int x1, .int x2, .int x3] [(a_this, .inr (7, [.ref a_st, .ref a_now, .ref a_isKept, .ref a_draft, .int v_hasSigns, .int v_hasEvery, .ref a_tape, .int v_taped, .int v_pos, .int v_begun, .int v_sort, .int v_value, .int v_fault, .int v_wrongAt, .int v_moved, .int v_slipTicks, .int v_bestCode, .int v_bestMuch, .long v_straightSum, .long v_movedSum, .long v_allWays, .ref a_wereAt, .ref a_byPlace, .ref a_lanes, .ref a_sizes, .ref a_cells, .int v_torn, .ref a_before])), (a_st, .inl (cI, 168, .inl v_st)), (a_now, .inl (cI, 56, .inl v_now))] [(a_this, .inr (7, [.ref a_st, .ref a_now, .ref a_isKept, .ref a_draft, .int v_hasSigns, .int v_hasEvery, .ref a_tape, .int v_taped, .int v_pos, .int v_begun, .int v_sort, .int v_value, .int v_fault, .int v_wrongAt, .int res.1, .int res.2.1, .int v_bestCode, .int v_bestMuch, .long res.2.2.1, .long res.2.2.2.1, .long res.2.2.2.2.1, .ref a_wereAt, .ref a_byPlace, .ref a_lanes, .ref a_sizes, .ref a_cells, .int v_torn, .ref a_before])), (a_st, .inl (cI, 168, .inl v_st)), (a_now, .inl (cI, 56, .inl res.2.2.2.2.2))] :=
  MV_of (by decide) (Nat.le_of_ble_eq_true rfl) (fun p e s m args below meth c A ls C hr hlk hK hA hP hD hS hl => by
    have C : CX p m c cX7_findOdds 9 s args RX7 := C
    have hl : lv_has ls 9 [(0, .ref a_this), (1, .int x1), (2, .int x2), (3, .int x3)] := hl
    unfold F_X7_findOdds at hF
    refine lv_aload_n C.1 C.2.1 dX7_findOdds_0 rfl (lv_at hl 0 rfl) ?_
    refine lv_lconst (v := 0) C.1 C.2.1 dX7_findOdds_1 rfl ?_
    refine pf_7_7_straightSum C hK hP hD hS 0 rfl rfl dX7_findOdds_2 (fun H locs hP hD hS => ?_)
    have hP : va_P D vwCl [(a_this, .inr (7, [.ref a_st, .ref a_now, .ref a_isKept, .ref a_draft, .int v_hasSigns, .int v_hasEvery, .ref a_tape, .int v_taped, .int v_pos, .int v_begun, .int v_sort, .int v_value, .int v_fault, .int v_wrongAt, .int v_moved, .int v_slipTicks, .int v_bestCode, .int v_bestMuch, .long (0 : Int64), .long v_movedSum, .long v_allWays, .ref a_wereAt, .ref a_byPlace, .ref a_lanes, .ref a_sizes, .ref a_cells, .int v_torn, .ref a_before])), (a_st, .inl (cI, 168, .inl v_st)), (a_now, .inl (cI, 56, .inl v_now))] H := hP
    have hD : va_D A [(a_this, .inr (7, [.ref a_st, .ref a_now, .ref a_isKept, .ref a_draft, .int v_hasSigns, .int v_hasEvery, .ref a_tape, .int v_taped, .int v_pos, .int v_begun, .int v_sort, .int v_value, .int v_fault, .int v_wrongAt, .int v_moved, .int v_slipTicks, .int v_bestCode, .int v_bestMuch, .long (0 : Int64), .long v_movedSum, .long v_allWays, .ref a_wereAt, .ref a_byPlace, .ref a_lanes, .ref a_sizes, .ref a_cells, .int v_torn, .ref a_before])), (a_st, .inl (cI, 168, .inl v_st)), (a_now, .inl (cI, 56, .inl v_now))] := hD
    refine lv_aload_n C.1 C.2.1 dX7_findOdds_5 rfl (lv_at hl 0 rfl) ?_
    refine lv_lconst (v := 0) C.1 C.2.1 dX7_findOdds_6 rfl ?_
    refine pf_7_7_movedSum C hK hP hD hS 0 rfl rfl dX7_findOdds_7 (fun H locs hP hD hS => ?_)
    have hP : va_P D vwCl [(a_this, .inr (7, [.ref a_st, .ref a_now, .ref a_isKept, .ref a_draft, .int v_hasSigns, .int v_hasEvery, .ref a_tape, .int v_taped, .int v_pos, .int v_begun, .int v_sort, .int v_value, .int v_fault, .int v_wrongAt, .int v_moved, .int v_slipTicks, .int v_bestCode, .int v_bestMuch, .long (0 : Int64), .long (0 : Int64), .long v_allWays, .ref a_wereAt, .ref a_byPlace, .ref a_lanes, .ref a_sizes, .ref a_cells, .int v_torn, .ref a_before])), (a_st, .inl (cI, 168, .inl v_st)), (a_now, .inl (cI, 56, .inl v_now))] H := hP
    have hD : va_D A [(a_this, .inr (7, [.ref a_st, .ref a_now, .ref a_isKept, .ref a_draft, .int v_hasSigns, .int v_hasEvery, .ref a_tape, .int v_taped, .int v_pos, .int v_begun, .int v_sort, .int v_value, .int v_fault, .int v_wrongAt, .int v_moved, .int v_slipTicks, .int v_bestCode, .int v_bestMuch, .long (0 : Int64), .long (0 : Int64), .long v_allWays, .ref a_wereAt, .ref a_byPlace, .ref a_lanes, .ref a_sizes, .ref a_cells, .int v_torn, .ref a_before])), (a_st, .inl (cI, 168, .inl v_st)), (a_now, .inl (cI, 56, .inl v_now))] := hD
    refine lv_aload_n C.1 C.2.1 dX7_findOdds_10 rfl (lv_at hl 0 rfl) ?_
    refine lv_lconst (v := 1) C.1 C.2.1 dX7_findOdds_11 rfl ?_
    refine pf_7_7_allWays C hK hP hD hS 0 rfl rfl dX7_findOdds_12 (fun H locs hP hD hS => ?_)
    have hP : va_P D vwCl [(a_this, .inr (7, [.ref a_st, .ref a_now, .ref a_isKept, .ref a_draft, .int v_hasSigns, .int v_hasEvery, .ref a_tape, .int v_taped, .int v_pos, .int v_begun, .int v_sort, .int v_value, .int v_fault, .int v_wrongAt, .int v_moved, .int v_slipTicks, .int v_bestCode, .int v_bestMuch, .long (0 : Int64), .long (0 : Int64), .long (1 : Int64), .ref a_wereAt, .ref a_byPlace, .ref a_lanes, .ref a_sizes, .ref a_cells, .int v_torn, .ref a_before])), (a_st, .inl (cI, 168, .inl v_st)), (a_now, .inl (cI, 56, .inl v_now))] H := hP
    have hD : va_D A [(a_this, .inr (7, [.ref a_st, .ref a_now, .ref a_isKept, .ref a_draft, .int v_hasSigns, .int v_hasEvery, .ref a_tape, .int v_taped, .int v_pos, .int v_begun, .int v_sort, .int v_value, .int v_fault, .int v_wrongAt, .int v_moved, .int v_slipTicks, .int v_bestCode, .int v_bestMuch, .long (0 : Int64), .long (0 : Int64), .long (1 : Int64), .ref a_wereAt, .ref a_byPlace, .ref a_lanes, .ref a_sizes, .ref a_cells, .int v_torn, .ref a_before])), (a_st, .inl (cI, 168, .inl v_st)), (a_now, .inl (cI, 56, .inl v_now))] := hD
    refine lv_iconst (v := 0) C.1 C.2.1 dX7_findOdds_15 (by decide) ?_
    refine lv_istore (lv' := [(4, .int (0 : Int32)), (0, .ref a_this), (1, .int x1), (2, .int x2), (3, .int x3)]) C.1 C.2.1 dX7_findOdds_16 hl (by decide) rfl (fun ls hl => ?_)
    exact b_X7_findOdds_18 C hr hlk hK hA FU v_moved v_slipTicks (0 : Int64) (0 : Int64) (1 : Int64) v_st v_now x1 x2 x3 (0 : Int32) _ _ _ hF hP hD hS (lv_sub hl [1, 2, 3, 4, 0] rfl))
theorem c_X7_findOdds {l : Launch} {D : va_G} {cI cB cZ cR cM cS : ClassId} {a_this : Nat} {a_st : Nat} {a_now : Nat} {a_isKept : Nat} {a_draft : Nat} {a_tape : Nat} {a_wereAt : Nat} {a_byPlace : Nat} {a_lanes : Nat} {a_sizes : Nat} {a_cells : Nat} {a_before : Nat} {v_hasSigns : Int32} {v_hasEvery : Int32} {v_taped : Int32} {v_pos : Int32} {v_begun : Int32} {v_sort : Int32} {v_value : Int32} {v_fault : Int32} {v_wrongAt : Int32} {v_moved : Int32} {v_slipTicks : Int32} {v_bestCode : Int32} {v_bestMuch : Int32} {v_straightSum : Int64} {v_movedSum : Int64} {v_allWays : Int64} {v_torn : Int32} {v_st : Nat → Int32} {v_now : Nat → Int32} {x1 : Int32} {x2 : Int32} {x3 : Int32} {v_moved' : Int32} {v_slipTicks' : Int32} {v_straightSum' : Int64} {v_movedSum' : Int64} {v_allWays' : Int64} {v_now' : Nat → Int32} (hF : F_X7_findOdds v_moved v_slipTicks v_straightSum v_movedSum v_allWays v_st v_now x1 x2 x3 = some (v_moved', v_slipTicks', v_straightSum', v_movedSum', v_allWays', v_now')) : MV l yX7_findOdds cX7_findOdds 9 rm_X7_findOdds D (TS cI cB cZ cR cM cS) [.ref a_this, .int x1, .int x2, .int x3] [(a_this, .inr (7, [.ref a_st, .ref a_now, .ref a_isKept, .ref a_draft, .int v_hasSigns, .int v_hasEvery, .ref a_tape, .int v_taped, .int v_pos, .int v_begun, .int v_sort, .int v_value, .int v_fault, .int v_wrongAt, .int v_moved, .int v_slipTicks, .int v_bestCode, .int v_bestMuch, .long v_straightSum, .long v_movedSum, .long v_allWays, .ref a_wereAt, .ref a_byPlace, .ref a_lanes, .ref a_sizes, .ref a_cells, .int v_torn, .ref a_before])), (a_st, .inl (cI, 168, .inl v_st)), (a_now, .inl (cI, 56, .inl v_now))] [(a_this, .inr (7, [.ref a_st, .ref a_now, .ref a_isKept, .ref a_draft, .int v_hasSigns, .int v_hasEvery, .ref a_tape, .int v_taped, .int v_pos, .int v_begun, .int v_sort, .int v_value, .int v_fault, .int v_wrongAt, .int v_moved', .int v_slipTicks', .int v_bestCode, .int v_bestMuch, .long v_straightSum', .long v_movedSum', .long v_allWays', .ref a_wereAt, .ref a_byPlace, .ref a_lanes, .ref a_sizes, .ref a_cells, .int v_torn, .ref a_before])), (a_st, .inl (cI, 168, .inl v_st)), (a_now, .inl (cI, 56, .inl v_now'))] :=
  c0_X7_findOdds (res := (v_moved', v_slipTicks', v_straightSum', v_movedSum', v_allWays', v_now')) hF
def rm_X7_luck : Room := { frames := 6, cells := 0, slots := 0, locals := 139 }
theorem cv_X7_luck : CV yX7_luck cX7_luck 5 (some .long) rm_X7_luck RX7 4 := ⟨kw5_81, kw5_82, kw1_8, kw5_83, by decide +kernel, rfl, rfl⟩
set_option maxHeartbeats 4000000 in
set_option maxRecDepth 100000 in
theorem c0_X7_luck {l : Launch} {D : va_G} {cI cB cZ cR cM cS : ClassId} {a_this : Nat} {a_st : Nat} {a_now : Nat} {a_isKept : Nat} {a_draft : Nat} {a_tape : Nat} {a_wereAt : Nat} {a_byPlace : Nat} {a_lanes : Nat} {a_sizes : Nat} {a_cells : Nat} {a_before : Nat} {v_hasSigns : Int32} {v_hasEvery : Int32} {v_taped : Int32} {v_pos : Int32} {v_begun : Int32} {v_sort : Int32} {v_value : Int32} {v_fault : Int32} {v_wrongAt : Int32} {v_moved : Int32} {v_slipTicks : Int32} {v_bestCode : Int32} {v_bestMuch : Int32} {v_straightSum : Int64} {v_movedSum : Int64} {v_allWays : Int64} {v_torn : Int32} {v_st : Nat → Int32} {v_now : Nat → Int32} {x1 : Int32} {x2 : Int32} {x3 : Int32} {x4 : Int32} {res : Int64 × Int32 × Int32 × Int64 × Int64 × Int64 × (Nat → Int32)} (hF : F_X7_luck v_moved v_slipTicks v_straightSum v_movedSum v_allWays v_st v_now x1 x2 x3 x4 = some res) : ML l yX7_luck cX7_luck 5 rm_X7_luck D (TS cI cB cZ cR cM cS) [.ref a_this, .int x1, .int x2, .int x3, .int x4] [(a_this, .inr (7, [.ref a_st, .ref a_now, .ref a_isKept, .ref a_draft, .int v_hasSigns, .int v_hasEvery, .ref a_tape, .int v_taped, .int v_pos, .int v_begun, .int v_sort, .int v_value, .int v_fault, .int v_wrongAt, .int v_moved, .int v_slipTicks, .int v_bestCode, .int v_bestMuch, .long v_straightSum, .long v_movedSum, .long v_allWays, .ref a_wereAt, .ref a_byPlace, .ref a_lanes, .ref a_sizes, .ref a_cells, .int v_torn, .ref a_before])), (a_st, .inl (cI, 168, .inl v_st)), (a_now, .inl (cI, 56, .inl v_now))] [(a_this, .inr (7, [.ref a_st, .ref a_now, .ref a_isKept, .ref a_draft, .int v_hasSigns, .int v_hasEvery, .ref a_tape, .int v_taped, .int v_pos, .int v_begun, .int v_sort, .int v_value, .int v_fault, .int v_wrongAt, .int res.2.1, .int res.2.2.1, .int v_bestCode, .int v_bestMuch, .long res.2.2.2.1, .long res.2.2.2.2.1, .long res.2.2.2.2.2.1, .ref a_wereAt, .ref a_byPlace, .ref a_lanes, .ref a_sizes, .ref a_cells, .int v_torn, .ref a_before])), (a_st, .inl (cI, 168, .inl v_st)), (a_now, .inl (cI, 56, .inl res.2.2.2.2.2.2))] res.1 :=
  ML_of (by decide) (Nat.le_of_ble_eq_true rfl) (fun p e s m args below meth c A ls C hr hlk hK hA hP hD hS hl => by
    have C : CX p m c cX7_luck 5 s args RX7 := C
    have hl : lv_has ls 5 [(0, .ref a_this), (1, .int x1), (2, .int x2), (3, .int x3), (4, .int x4)] := hl
    unfold F_X7_luck at hF
    refine lv_iload_n C.1 C.2.1 dX7_luck_0 rfl (lv_at hl 1 rfl) ?_
    refine lv_i2l (v := x1.toInt64) C.1 C.2.1 dX7_luck_1 rfl ?_
    refine lv_lconst (v := 0) C.1 C.2.1 dX7_luck_2 rfl ?_
    refine lv_ldc2 (v := 10) C.1 C.2.1 C.2.2.2.1 (C.2.2.2.2 _ kw5_84) dX7_luck_3 ?_
    obtain ⟨r1, h2, hF⟩ := fb hF
    refine callSI C hK hA hP hD hS (c_X7_in  h2) cs_X7_in kw4_76 ⟨Nat.le_of_ble_eq_true rfl, Nat.le_of_ble_eq_true rfl⟩ ⟨Nat.zero_le _, Nat.zero_le _⟩ hl.1 rfl (Nat.le_of_ble_eq_true rfl) dX7_luck_6 (fun H locs hP hD hS => ?_)
    refine lv_if_eq (tgt := 40) C.1 C.2.1 dX7_luck_9 (by decide) (fun c3 => ?_) (fun c3 => ?_)
    · have hF := fp hF c3
      refine lv_ldc2 (v := -1) C.1 C.2.1 C.2.2.2.1 (C.2.2.2.2 _ kw5_86) dX7_luck_40 ?_
      have hF := Option.some.inj hF
      subst hF
      exact retL C hr hlk hP hD hS dX7_luck_43
    · have hF := fn hF c3
      refine lv_aload_n C.1 C.2.1 dX7_luck_12 rfl (lv_at hl 0 rfl) ?_
      refine lv_iload_n C.1 C.2.1 dX7_luck_13 rfl (lv_at hl 2 rfl) ?_
      obtain ⟨r4, h5, hF⟩ := fb hF
      refine callVI C hK hA hP hD hS [0, 1] (c_X7_isRotor (a_this := a_this) (a_st := a_st) (a_now := a_now) (a_isKept := a_isKept) (a_draft := a_draft) (a_tape := a_tape) (a_wereAt := a_wereAt) (a_byPlace := a_byPlace) (a_lanes := a_lanes) (a_sizes := a_sizes) (a_cells := a_cells) (a_before := a_before) (v_hasSigns := v_hasSigns) (v_hasEvery := v_hasEvery) (v_taped := v_taped) (v_pos := v_pos) (v_begun := v_begun) (v_sort := v_sort) (v_value := v_value) (v_fault := v_fault) (v_wrongAt := v_wrongAt) (v_moved := v_moved) (v_slipTicks := v_slipTicks) (v_bestCode := v_bestCode) (v_bestMuch := v_bestMuch) (v_straightSum := v_straightSum) (v_movedSum := v_movedSum) (v_allWays := v_allWays) (v_torn := v_torn) (v_st := v_st) h5) cv_X7_isRotor kw4_177 rfl (by decide) rfl rfl rfl ⟨Nat.le_of_ble_eq_true rfl, Nat.le_of_ble_eq_true rfl⟩ ⟨Nat.zero_le _, Nat.zero_le _⟩ hl.1 rfl (Nat.le_of_ble_eq_true rfl) dX7_luck_14 (fun H locs hP hD hS => ?_)
      have hP : va_P D vwCl [(a_this, .inr (7, [.ref a_st, .ref a_now, .ref a_isKept, .ref a_draft, .int v_hasSigns, .int v_hasEvery, .ref a_tape, .int v_taped, .int v_pos, .int v_begun, .int v_sort, .int v_value, .int v_fault, .int v_wrongAt, .int v_moved, .int v_slipTicks, .int v_bestCode, .int v_bestMuch, .long v_straightSum, .long v_movedSum, .long v_allWays, .ref a_wereAt, .ref a_byPlace, .ref a_lanes, .ref a_sizes, .ref a_cells, .int v_torn, .ref a_before])), (a_st, .inl (cI, 168, .inl v_st)), (a_now, .inl (cI, 56, .inl v_now))] H := hP
      have hD : va_D A [(a_this, .inr (7, [.ref a_st, .ref a_now, .ref a_isKept, .ref a_draft, .int v_hasSigns, .int v_hasEvery, .ref a_tape, .int v_taped, .int v_pos, .int v_begun, .int v_sort, .int v_value, .int v_fault, .int v_wrongAt, .int v_moved, .int v_slipTicks, .int v_bestCode, .int v_bestMuch, .long v_straightSum, .long v_movedSum, .long v_allWays, .ref a_wereAt, .ref a_byPlace, .ref a_lanes, .ref a_sizes, .ref a_cells, .int v_torn, .ref a_before])), (a_st, .inl (cI, 168, .inl v_st)), (a_now, .inl (cI, 56, .inl v_now))] := hD
      refine lv_if_eq (tgt := 40) C.1 C.2.1 dX7_luck_17 (by decide) (fun c6 => ?_) (fun c6 => ?_)
      · have hF := fp hF c6
        refine lv_ldc2 (v := -1) C.1 C.2.1 C.2.2.2.1 (C.2.2.2.2 _ kw5_86) dX7_luck_40 ?_
        have hF := Option.some.inj hF
        subst hF
        exact retL C hr hlk hP hD hS dX7_luck_43
      · have hF := fn hF c6
        refine lv_iload_n C.1 C.2.1 dX7_luck_20 rfl (lv_at hl 3 rfl) ?_
        refine lv_i2l (v := x3.toInt64) C.1 C.2.1 dX7_luck_21 rfl ?_
        refine lv_lconst (v := 0) C.1 C.2.1 dX7_luck_22 rfl ?_
        refine lv_ldc2 (v := 8) C.1 C.2.1 C.2.2.2.1 (C.2.2.2.2 _ kw5_85) dX7_luck_23 ?_
        obtain ⟨r7, h8, hF⟩ := fb hF
        refine callSI C hK hA hP hD hS (c_X7_in  h8) cs_X7_in kw4_76 ⟨Nat.le_of_ble_eq_true rfl, Nat.le_of_ble_eq_true rfl⟩ ⟨Nat.zero_le _, Nat.zero_le _⟩ hl.1 rfl (Nat.le_of_ble_eq_true rfl) dX7_luck_26 (fun H locs hP hD hS => ?_)
        refine lv_if_eq (tgt := 40) C.1 C.2.1 dX7_luck_29 (by decide) (fun c9 => ?_) (fun c9 => ?_)
        · have hF := fp hF c9
          refine lv_ldc2 (v := -1) C.1 C.2.1 C.2.2.2.1 (C.2.2.2.2 _ kw5_86) dX7_luck_40 ?_
          have hF := Option.some.inj hF
          subst hF
          exact retL C hr hlk hP hD hS dX7_luck_43
        · have hF := fn hF c9
          refine lv_iload C.1 C.2.1 dX7_luck_32 (lv_at hl 4 rfl) ?_
          obtain ⟨r10, h11, hF⟩ := fb hF
          refine callSI C hK hA hP hD hS (c_X7_isPart  h11) cs_X7_isPart kw5_28 ⟨Nat.le_of_ble_eq_true rfl, Nat.le_of_ble_eq_true rfl⟩ ⟨Nat.zero_le _, Nat.zero_le _⟩ hl.1 rfl (Nat.le_of_ble_eq_true rfl) dX7_luck_34 (fun H locs hP hD hS => ?_)
          refine lv_if_ne (tgt := 44) C.1 C.2.1 dX7_luck_37 (by decide) (fun c12 => ?_) (fun c12 => ?_)
          · have hF := fn hF c12
            refine lv_aload_n C.1 C.2.1 dX7_luck_44 rfl (lv_at hl 0 rfl) ?_
            refine lv_iload_n C.1 C.2.1 dX7_luck_45 rfl (lv_at hl 1 rfl) ?_
            refine lv_iload_n C.1 C.2.1 dX7_luck_46 rfl (lv_at hl 2 rfl) ?_
            refine lv_iload_n C.1 C.2.1 dX7_luck_47 rfl (lv_at hl 3 rfl) ?_
            obtain ⟨⟨w13, w14, w15, w16, w17, w18⟩, h19, hF⟩ := fb hF
            refine callVV C hK hA hP hD hS [0, 1, 2] (c_X7_findOdds (a_this := a_this) (a_st := a_st) (a_now := a_now) (a_isKept := a_isKept) (a_draft := a_draft) (a_tape := a_tape) (a_wereAt := a_wereAt) (a_byPlace := a_byPlace) (a_lanes := a_lanes) (a_sizes := a_sizes) (a_cells := a_cells) (a_before := a_before) (v_hasSigns := v_hasSigns) (v_hasEvery := v_hasEvery) (v_taped := v_taped) (v_pos := v_pos) (v_begun := v_begun) (v_sort := v_sort) (v_value := v_value) (v_fault := v_fault) (v_wrongAt := v_wrongAt) (v_moved := v_moved) (v_slipTicks := v_slipTicks) (v_bestCode := v_bestCode) (v_bestMuch := v_bestMuch) (v_straightSum := v_straightSum) (v_movedSum := v_movedSum) (v_allWays := v_allWays) (v_torn := v_torn) (v_st := v_st) (v_now := v_now) h19) cv_X7_findOdds kw5_87 rfl (by decide) rfl rfl rfl ⟨Nat.le_of_ble_eq_true rfl, Nat.le_of_ble_eq_true rfl⟩ ⟨Nat.zero_le _, Nat.zero_le _⟩ hl.1 rfl (Nat.le_of_ble_eq_true rfl) dX7_luck_48 (fun H locs hP hD hS => ?_)
            have hP : va_P D vwCl [(a_this, .inr (7, [.ref a_st, .ref a_now, .ref a_isKept, .ref a_draft, .int v_hasSigns, .int v_hasEvery, .ref a_tape, .int v_taped, .int v_pos, .int v_begun, .int v_sort, .int v_value, .int v_fault, .int v_wrongAt, .int w13, .int w14, .int v_bestCode, .int v_bestMuch, .long w15, .long w16, .long w17, .ref a_wereAt, .ref a_byPlace, .ref a_lanes, .ref a_sizes, .ref a_cells, .int v_torn, .ref a_before])), (a_st, .inl (cI, 168, .inl v_st)), (a_now, .inl (cI, 56, .inl w18))] H := hP
            have hD : va_D A [(a_this, .inr (7, [.ref a_st, .ref a_now, .ref a_isKept, .ref a_draft, .int v_hasSigns, .int v_hasEvery, .ref a_tape, .int v_taped, .int v_pos, .int v_begun, .int v_sort, .int v_value, .int v_fault, .int v_wrongAt, .int w13, .int w14, .int v_bestCode, .int v_bestMuch, .long w15, .long w16, .long w17, .ref a_wereAt, .ref a_byPlace, .ref a_lanes, .ref a_sizes, .ref a_cells, .int v_torn, .ref a_before])), (a_st, .inl (cI, 168, .inl v_st)), (a_now, .inl (cI, 56, .inl w18))] := hD
            refine lv_aload_n C.1 C.2.1 dX7_luck_51 rfl (lv_at hl 0 rfl) ?_
            refine gf_7_7_straightSum C hK hP 0 rfl rfl dX7_luck_52 ?_
            refine lv_aload_n C.1 C.2.1 dX7_luck_55 rfl (lv_at hl 0 rfl) ?_
            refine gf_7_7_allWays C hK hP 0 rfl rfl dX7_luck_56 ?_
            refine lv_iload C.1 C.2.1 dX7_luck_59 (lv_at hl 4 rfl) ?_
            obtain ⟨r20, h21, hF⟩ := fb hF
            refine callSL C hK hA hP hD hS (c_X7_lowest  h21) cs_X7_lowest kw5_91 ⟨Nat.le_of_ble_eq_true rfl, Nat.le_of_ble_eq_true rfl⟩ ⟨Nat.zero_le _, Nat.zero_le _⟩ hl.1 rfl (Nat.le_of_ble_eq_true rfl) dX7_luck_61 (fun H locs hP hD hS => ?_)
            have hF := Option.some.inj hF
            subst hF
            exact retL C hr hlk hP hD hS dX7_luck_64
          · have hF := fp hF c12
            refine lv_ldc2 (v := -1) C.1 C.2.1 C.2.2.2.1 (C.2.2.2.2 _ kw5_86) dX7_luck_40 ?_
            have hF := Option.some.inj hF
            subst hF
            exact retL C hr hlk hP hD hS dX7_luck_43)
theorem c_X7_luck {l : Launch} {D : va_G} {cI cB cZ cR cM cS : ClassId} {a_this : Nat} {a_st : Nat} {a_now : Nat} {a_isKept : Nat} {a_draft : Nat} {a_tape : Nat} {a_wereAt : Nat} {a_byPlace : Nat} {a_lanes : Nat} {a_sizes : Nat} {a_cells : Nat} {a_before : Nat} {v_hasSigns : Int32} {v_hasEvery : Int32} {v_taped : Int32} {v_pos : Int32} {v_begun : Int32} {v_sort : Int32} {v_value : Int32} {v_fault : Int32} {v_wrongAt : Int32} {v_moved : Int32} {v_slipTicks : Int32} {v_bestCode : Int32} {v_bestMuch : Int32} {v_straightSum : Int64} {v_movedSum : Int64} {v_allWays : Int64} {v_torn : Int32} {v_st : Nat → Int32} {v_now : Nat → Int32} {x1 : Int32} {x2 : Int32} {x3 : Int32} {x4 : Int32} {r_ : Int64} {v_moved' : Int32} {v_slipTicks' : Int32} {v_straightSum' : Int64} {v_movedSum' : Int64} {v_allWays' : Int64} {v_now' : Nat → Int32} (hF : F_X7_luck v_moved v_slipTicks v_straightSum v_movedSum v_allWays v_st v_now x1 x2 x3 x4 = some (r_, v_moved', v_slipTicks', v_straightSum', v_movedSum', v_allWays', v_now')) : ML l yX7_luck cX7_luck 5 rm_X7_luck D (TS cI cB cZ cR cM cS) [.ref a_this, .int x1, .int x2, .int x3, .int x4] [(a_this, .inr (7, [.ref a_st, .ref a_now, .ref a_isKept, .ref a_draft, .int v_hasSigns, .int v_hasEvery, .ref a_tape, .int v_taped, .int v_pos, .int v_begun, .int v_sort, .int v_value, .int v_fault, .int v_wrongAt, .int v_moved, .int v_slipTicks, .int v_bestCode, .int v_bestMuch, .long v_straightSum, .long v_movedSum, .long v_allWays, .ref a_wereAt, .ref a_byPlace, .ref a_lanes, .ref a_sizes, .ref a_cells, .int v_torn, .ref a_before])), (a_st, .inl (cI, 168, .inl v_st)), (a_now, .inl (cI, 56, .inl v_now))] [(a_this, .inr (7, [.ref a_st, .ref a_now, .ref a_isKept, .ref a_draft, .int v_hasSigns, .int v_hasEvery, .ref a_tape, .int v_taped, .int v_pos, .int v_begun, .int v_sort, .int v_value, .int v_fault, .int v_wrongAt, .int v_moved', .int v_slipTicks', .int v_bestCode, .int v_bestMuch, .long v_straightSum', .long v_movedSum', .long v_allWays', .ref a_wereAt, .ref a_byPlace, .ref a_lanes, .ref a_sizes, .ref a_cells, .int v_torn, .ref a_before])), (a_st, .inl (cI, 168, .inl v_st)), (a_now, .inl (cI, 56, .inl v_now'))] r_ :=
  c0_X7_luck (res := (r_, v_moved', v_slipTicks', v_straightSum', v_movedSum', v_allWays', v_now')) hF
def rm_X7_mean : Room := { frames := 6, cells := 0, slots := 0, locals := 139 }
theorem cv_X7_mean : CV yX7_mean cX7_mean 4 (some .long) rm_X7_mean RX7 3 := ⟨kw5_98, kw5_99, kw1_8, kw5_100, by decide +kernel, rfl, rfl⟩
set_option maxHeartbeats 4000000 in
set_option maxRecDepth 100000 in
theorem c0_X7_mean {l : Launch} {D : va_G} {cI cB cZ cR cM cS : ClassId} {a_this : Nat} {a_st : Nat} {a_now : Nat} {a_isKept : Nat} {a_draft : Nat} {a_tape : Nat} {a_wereAt : Nat} {a_byPlace : Nat} {a_lanes : Nat} {a_sizes : Nat} {a_cells : Nat} {a_before : Nat} {v_hasSigns : Int32} {v_hasEvery : Int32} {v_taped : Int32} {v_pos : Int32} {v_begun : Int32} {v_sort : Int32} {v_value : Int32} {v_fault : Int32} {v_wrongAt : Int32} {v_moved : Int32} {v_slipTicks : Int32} {v_bestCode : Int32} {v_bestMuch : Int32} {v_straightSum : Int64} {v_movedSum : Int64} {v_allWays : Int64} {v_torn : Int32} {v_st : Nat → Int32} {v_now : Nat → Int32} {x1 : Int32} {x2 : Int32} {x3 : Int32} {res : Int64 × Int32 × Int32 × Int64 × Int64 × Int64 × (Nat → Int32)} (hF : F_X7_mean v_moved v_slipTicks v_straightSum v_movedSum v_allWays v_st v_now x1 x2 x3 = some res) : ML l yX7_mean cX7_mean 4 rm_X7_mean D (TS cI cB cZ cR cM cS) [.ref a_this, .int x1, .int x2, .int x3] [(a_this, .inr (7, [.ref a_st, .ref a_now, .ref a_isKept, .ref a_draft, .int v_hasSigns, .int v_hasEvery, .ref a_tape, .int v_taped, .int v_pos, .int v_begun, .int v_sort, .int v_value, .int v_fault, .int v_wrongAt, .int v_moved, .int v_slipTicks, .int v_bestCode, .int v_bestMuch, .long v_straightSum, .long v_movedSum, .long v_allWays, .ref a_wereAt, .ref a_byPlace, .ref a_lanes, .ref a_sizes, .ref a_cells, .int v_torn, .ref a_before])), (a_st, .inl (cI, 168, .inl v_st)), (a_now, .inl (cI, 56, .inl v_now))] [(a_this, .inr (7, [.ref a_st, .ref a_now, .ref a_isKept, .ref a_draft, .int v_hasSigns, .int v_hasEvery, .ref a_tape, .int v_taped, .int v_pos, .int v_begun, .int v_sort, .int v_value, .int v_fault, .int v_wrongAt, .int res.2.1, .int res.2.2.1, .int v_bestCode, .int v_bestMuch, .long res.2.2.2.1, .long res.2.2.2.2.1, .long res.2.2.2.2.2.1, .ref a_wereAt, .ref a_byPlace, .ref a_lanes, .ref a_sizes, .ref a_cells, .int v_torn, .ref a_before])), (a_st, .inl (cI, 168, .inl v_st)), (a_now, .inl (cI, 56, .inl res.2.2.2.2.2.2))] res.1 :=
  ML_of (by decide) (Nat.le_of_ble_eq_true rfl) (fun p e s m args below meth c A ls C hr hlk hK hA hP hD hS hl => by
    have C : CX p m c cX7_mean 4 s args RX7 := C
    have hl : lv_has ls 4 [(0, .ref a_this), (1, .int x1), (2, .int x2), (3, .int x3)] := hl
    unfold F_X7_mean at hF
    refine lv_iload_n C.1 C.2.1 dX7_mean_0 rfl (lv_at hl 1 rfl) ?_
    refine lv_i2l (v := x1.toInt64) C.1 C.2.1 dX7_mean_1 rfl ?_
    refine lv_lconst (v := 0) C.1 C.2.1 dX7_mean_2 rfl ?_
    refine lv_ldc2 (v := 10) C.1 C.2.1 C.2.2.2.1 (C.2.2.2.2 _ kw5_84) dX7_mean_3 ?_
    obtain ⟨r1, h2, hF⟩ := fb hF
    refine callSI C hK hA hP hD hS (c_X7_in  h2) cs_X7_in kw4_76 ⟨Nat.le_of_ble_eq_true rfl, Nat.le_of_ble_eq_true rfl⟩ ⟨Nat.zero_le _, Nat.zero_le _⟩ hl.1 rfl (Nat.le_of_ble_eq_true rfl) dX7_mean_6 (fun H locs hP hD hS => ?_)
    refine lv_if_eq (tgt := 31) C.1 C.2.1 dX7_mean_9 (by decide) (fun c3 => ?_) (fun c3 => ?_)
    · have hF := fp hF c3
      refine lv_ldc2 (v := -1) C.1 C.2.1 C.2.2.2.1 (C.2.2.2.2 _ kw5_86) dX7_mean_31 ?_
      have hF := Option.some.inj hF
      subst hF
      exact retL C hr hlk hP hD hS dX7_mean_34
    · have hF := fn hF c3
      refine lv_iload_n C.1 C.2.1 dX7_mean_12 rfl (lv_at hl 2 rfl) ?_
      refine lv_i2l (v := x2.toInt64) C.1 C.2.1 dX7_mean_13 rfl ?_
      refine lv_lconst (v := 0) C.1 C.2.1 dX7_mean_14 rfl ?_
      refine lv_ldc2 (v := 8) C.1 C.2.1 C.2.2.2.1 (C.2.2.2.2 _ kw5_85) dX7_mean_15 ?_
      obtain ⟨r4, h5, hF⟩ := fb hF
      refine callSI C hK hA hP hD hS (c_X7_in  h5) cs_X7_in kw4_76 ⟨Nat.le_of_ble_eq_true rfl, Nat.le_of_ble_eq_true rfl⟩ ⟨Nat.zero_le _, Nat.zero_le _⟩ hl.1 rfl (Nat.le_of_ble_eq_true rfl) dX7_mean_18 (fun H locs hP hD hS => ?_)
      refine lv_if_eq (tgt := 31) C.1 C.2.1 dX7_mean_21 (by decide) (fun c6 => ?_) (fun c6 => ?_)
      · have hF := fp hF c6
        refine lv_ldc2 (v := -1) C.1 C.2.1 C.2.2.2.1 (C.2.2.2.2 _ kw5_86) dX7_mean_31 ?_
        have hF := Option.some.inj hF
        subst hF
        exact retL C hr hlk hP hD hS dX7_mean_34
      · have hF := fn hF c6
        refine lv_iload_n C.1 C.2.1 dX7_mean_24 rfl (lv_at hl 3 rfl) ?_
        obtain ⟨r7, h8, hF⟩ := fb hF
        refine callSI C hK hA hP hD hS (c_X7_isPart  h8) cs_X7_isPart kw5_28 ⟨Nat.le_of_ble_eq_true rfl, Nat.le_of_ble_eq_true rfl⟩ ⟨Nat.zero_le _, Nat.zero_le _⟩ hl.1 rfl (Nat.le_of_ble_eq_true rfl) dX7_mean_25 (fun H locs hP hD hS => ?_)
        refine lv_if_ne (tgt := 35) C.1 C.2.1 dX7_mean_28 (by decide) (fun c9 => ?_) (fun c9 => ?_)
        · have hF := fn hF c9
          refine lv_aload_n C.1 C.2.1 dX7_mean_35 rfl (lv_at hl 0 rfl) ?_
          refine lv_iload_n C.1 C.2.1 dX7_mean_36 rfl (lv_at hl 1 rfl) ?_
          refine lv_bipush (v := (-4)) C.1 C.2.1 dX7_mean_37 (by decide) ?_
          refine lv_iload_n C.1 C.2.1 dX7_mean_39 rfl (lv_at hl 2 rfl) ?_
          obtain ⟨⟨w10, w11, w12, w13, w14, w15⟩, h16, hF⟩ := fb hF
          refine callVV C hK hA hP hD hS [0, 1, 2] (c_X7_findOdds (a_this := a_this) (a_st := a_st) (a_now := a_now) (a_isKept := a_isKept) (a_draft := a_draft) (a_tape := a_tape) (a_wereAt := a_wereAt) (a_byPlace := a_byPlace) (a_lanes := a_lanes) (a_sizes := a_sizes) (a_cells := a_cells) (a_before := a_before) (v_hasSigns := v_hasSigns) (v_hasEvery := v_hasEvery) (v_taped := v_taped) (v_pos := v_pos) (v_begun := v_begun) (v_sort := v_sort) (v_value := v_value) (v_fault := v_fault) (v_wrongAt := v_wrongAt) (v_moved := v_moved) (v_slipTicks := v_slipTicks) (v_bestCode := v_bestCode) (v_bestMuch := v_bestMuch) (v_straightSum := v_straightSum) (v_movedSum := v_movedSum) (v_allWays := v_allWays) (v_torn := v_torn) (v_st := v_st) (v_now := v_now) h16) cv_X7_findOdds kw5_87 rfl (by decide) rfl rfl rfl ⟨Nat.le_of_ble_eq_true rfl, Nat.le_of_ble_eq_true rfl⟩ ⟨Nat.zero_le _, Nat.zero_le _⟩ hl.1 rfl (Nat.le_of_ble_eq_true rfl) dX7_mean_40 (fun H locs hP hD hS => ?_)
          have hP : va_P D vwCl [(a_this, .inr (7, [.ref a_st, .ref a_now, .ref a_isKept, .ref a_draft, .int v_hasSigns, .int v_hasEvery, .ref a_tape, .int v_taped, .int v_pos, .int v_begun, .int v_sort, .int v_value, .int v_fault, .int v_wrongAt, .int w10, .int w11, .int v_bestCode, .int v_bestMuch, .long w12, .long w13, .long w14, .ref a_wereAt, .ref a_byPlace, .ref a_lanes, .ref a_sizes, .ref a_cells, .int v_torn, .ref a_before])), (a_st, .inl (cI, 168, .inl v_st)), (a_now, .inl (cI, 56, .inl w15))] H := hP
          have hD : va_D A [(a_this, .inr (7, [.ref a_st, .ref a_now, .ref a_isKept, .ref a_draft, .int v_hasSigns, .int v_hasEvery, .ref a_tape, .int v_taped, .int v_pos, .int v_begun, .int v_sort, .int v_value, .int v_fault, .int v_wrongAt, .int w10, .int w11, .int v_bestCode, .int v_bestMuch, .long w12, .long w13, .long w14, .ref a_wereAt, .ref a_byPlace, .ref a_lanes, .ref a_sizes, .ref a_cells, .int v_torn, .ref a_before])), (a_st, .inl (cI, 168, .inl v_st)), (a_now, .inl (cI, 56, .inl w15))] := hD
          refine lv_aload_n C.1 C.2.1 dX7_mean_43 rfl (lv_at hl 0 rfl) ?_
          refine gf_7_7_movedSum C hK hP 0 rfl rfl dX7_mean_44 ?_
          refine lv_aload_n C.1 C.2.1 dX7_mean_47 rfl (lv_at hl 0 rfl) ?_
          refine gf_7_7_allWays C hK hP 0 rfl rfl dX7_mean_48 ?_
          refine lv_iload_n C.1 C.2.1 dX7_mean_51 rfl (lv_at hl 3 rfl) ?_
          obtain ⟨r17, h18, hF⟩ := fb hF
          refine callSL C hK hA hP hD hS (c_X7_lowest  h18) cs_X7_lowest kw5_91 ⟨Nat.le_of_ble_eq_true rfl, Nat.le_of_ble_eq_true rfl⟩ ⟨Nat.zero_le _, Nat.zero_le _⟩ hl.1 rfl (Nat.le_of_ble_eq_true rfl) dX7_mean_52 (fun H locs hP hD hS => ?_)
          have hF := Option.some.inj hF
          subst hF
          exact retL C hr hlk hP hD hS dX7_mean_55
        · have hF := fp hF c9
          refine lv_ldc2 (v := -1) C.1 C.2.1 C.2.2.2.1 (C.2.2.2.2 _ kw5_86) dX7_mean_31 ?_
          have hF := Option.some.inj hF
          subst hF
          exact retL C hr hlk hP hD hS dX7_mean_34)
theorem c_X7_mean {l : Launch} {D : va_G} {cI cB cZ cR cM cS : ClassId} {a_this : Nat} {a_st : Nat} {a_now : Nat} {a_isKept : Nat} {a_draft : Nat} {a_tape : Nat} {a_wereAt : Nat} {a_byPlace : Nat} {a_lanes : Nat} {a_sizes : Nat} {a_cells : Nat} {a_before : Nat} {v_hasSigns : Int32} {v_hasEvery : Int32} {v_taped : Int32} {v_pos : Int32} {v_begun : Int32} {v_sort : Int32} {v_value : Int32} {v_fault : Int32} {v_wrongAt : Int32} {v_moved : Int32} {v_slipTicks : Int32} {v_bestCode : Int32} {v_bestMuch : Int32} {v_straightSum : Int64} {v_movedSum : Int64} {v_allWays : Int64} {v_torn : Int32} {v_st : Nat → Int32} {v_now : Nat → Int32} {x1 : Int32} {x2 : Int32} {x3 : Int32} {r_ : Int64} {v_moved' : Int32} {v_slipTicks' : Int32} {v_straightSum' : Int64} {v_movedSum' : Int64} {v_allWays' : Int64} {v_now' : Nat → Int32} (hF : F_X7_mean v_moved v_slipTicks v_straightSum v_movedSum v_allWays v_st v_now x1 x2 x3 = some (r_, v_moved', v_slipTicks', v_straightSum', v_movedSum', v_allWays', v_now')) : ML l yX7_mean cX7_mean 4 rm_X7_mean D (TS cI cB cZ cR cM cS) [.ref a_this, .int x1, .int x2, .int x3] [(a_this, .inr (7, [.ref a_st, .ref a_now, .ref a_isKept, .ref a_draft, .int v_hasSigns, .int v_hasEvery, .ref a_tape, .int v_taped, .int v_pos, .int v_begun, .int v_sort, .int v_value, .int v_fault, .int v_wrongAt, .int v_moved, .int v_slipTicks, .int v_bestCode, .int v_bestMuch, .long v_straightSum, .long v_movedSum, .long v_allWays, .ref a_wereAt, .ref a_byPlace, .ref a_lanes, .ref a_sizes, .ref a_cells, .int v_torn, .ref a_before])), (a_st, .inl (cI, 168, .inl v_st)), (a_now, .inl (cI, 56, .inl v_now))] [(a_this, .inr (7, [.ref a_st, .ref a_now, .ref a_isKept, .ref a_draft, .int v_hasSigns, .int v_hasEvery, .ref a_tape, .int v_taped, .int v_pos, .int v_begun, .int v_sort, .int v_value, .int v_fault, .int v_wrongAt, .int v_moved', .int v_slipTicks', .int v_bestCode, .int v_bestMuch, .long v_straightSum', .long v_movedSum', .long v_allWays', .ref a_wereAt, .ref a_byPlace, .ref a_lanes, .ref a_sizes, .ref a_cells, .int v_torn, .ref a_before])), (a_st, .inl (cI, 168, .inl v_st)), (a_now, .inl (cI, 56, .inl v_now'))] r_ :=
  c0_X7_mean (res := (r_, v_moved', v_slipTicks', v_straightSum', v_movedSum', v_allWays', v_now')) hF
