def rm_X7_rotor : Room := { frames := 3, cells := 0, slots := 0, locals := 65 }
theorem cv_X7_rotor : CV yX7_rotor cX7_rotor 3 (some .int) rm_X7_rotor RX7 2 := ⟨kw4_174, kw4_175, kw1_8, kw4_176, by decide +kernel, rfl, rfl⟩
set_option maxHeartbeats 4000000 in
set_option maxRecDepth 100000 in
theorem c0_X7_rotor {l : Launch} {D : va_G} {cI cB cZ cR cM cS : ClassId} {a_this : Nat} {a_st : Nat} {a_now : Nat} {a_isKept : Nat} {a_draft : Nat} {a_tape : Nat} {a_wereAt : Nat} {a_byPlace : Nat} {a_lanes : Nat} {a_sizes : Nat} {a_cells : Nat} {a_before : Nat} {v_hasSigns : Int32} {v_hasEvery : Int32} {v_taped : Int32} {v_pos : Int32} {v_begun : Int32} {v_sort : Int32} {v_value : Int32} {v_fault : Int32} {v_wrongAt : Int32} {v_moved : Int32} {v_slipTicks : Int32} {v_bestCode : Int32} {v_bestMuch : Int32} {v_straightSum : Int64} {v_movedSum : Int64} {v_allWays : Int64} {v_torn : Int32} {v_st : Nat → Int32} {v_now : Nat → Int32} {x1 : Int32} {x2 : Int32} {res : Int32 × Int32 × Int32 × (Nat → Int32)} (hF : F_X7_rotor v_moved v_slipTicks v_st v_now x1 x2 = some res) : MI l yX7_rotor cX7_rotor 3 .int rm_X7_rotor D (TS cI cB cZ cR cM cS) [.ref a_this, .int x1, .int x2] [(a_this, .inr (7, [.ref a_st, .ref a_now, .ref a_isKept, .ref a_draft, .int v_hasSigns, .int v_hasEvery, .ref a_tape, .int v_taped, .int v_pos, .int v_begun, .int v_sort, .int v_value, .int v_fault, .int v_wrongAt, .int v_moved, .int v_slipTicks, .int v_bestCode, .int v_bestMuch, .long v_straightSum, .long v_movedSum, .long v_allWays, .ref a_wereAt, .ref a_byPlace, .ref a_lanes, .ref a_sizes, .ref a_cells, .int v_torn, .ref a_before])), (a_st, .inl (cI, 168, .inl v_st)), (a_now, .inl (cI, 56, .inl v_now))] [(a_this, .inr (7, [.ref a_st, .ref a_now, .ref a_isKept, .ref a_draft, .int v_hasSigns, .int v_hasEvery, .ref a_tape, .int v_taped, .int v_pos, .int v_begun, .int v_sort, .int v_value, .int v_fault, .int v_wrongAt, .int res.2.1, .int res.2.2.1, .int v_bestCode, .int v_bestMuch, .long v_straightSum, .long v_movedSum, .long v_allWays, .ref a_wereAt, .ref a_byPlace, .ref a_lanes, .ref a_sizes, .ref a_cells, .int v_torn, .ref a_before])), (a_st, .inl (cI, 168, .inl v_st)), (a_now, .inl (cI, 56, .inl res.2.2.2))] res.1 :=
  MI_of (by decide) (Nat.le_of_ble_eq_true rfl) (fun p e s m args below meth c A ls C hr hlk hK hA hP hD hS hl => by
    have C : CX p m c cX7_rotor 3 s args RX7 := C
    have hl : lv_has ls 3 [(0, .ref a_this), (1, .int x1), (2, .int x2)] := hl
    unfold F_X7_rotor at hF
    refine lv_aload_n C.1 C.2.1 dX7_rotor_0 rfl (lv_at hl 0 rfl) ?_
    refine lv_iload_n C.1 C.2.1 dX7_rotor_1 rfl (lv_at hl 1 rfl) ?_
    obtain ⟨r1, h2, hF⟩ := fb hF
    refine callVI C hK hA hP hD hS [0, 1] (c_X7_isRotor (a_this := a_this) (a_st := a_st) (a_now := a_now) (a_isKept := a_isKept) (a_draft := a_draft) (a_tape := a_tape) (a_wereAt := a_wereAt) (a_byPlace := a_byPlace) (a_lanes := a_lanes) (a_sizes := a_sizes) (a_cells := a_cells) (a_before := a_before) (v_hasSigns := v_hasSigns) (v_hasEvery := v_hasEvery) (v_taped := v_taped) (v_pos := v_pos) (v_begun := v_begun) (v_sort := v_sort) (v_value := v_value) (v_fault := v_fault) (v_wrongAt := v_wrongAt) (v_moved := v_moved) (v_slipTicks := v_slipTicks) (v_bestCode := v_bestCode) (v_bestMuch := v_bestMuch) (v_straightSum := v_straightSum) (v_movedSum := v_movedSum) (v_allWays := v_allWays) (v_torn := v_torn) (v_st := v_st) h2) cv_X7_isRotor kw4_177 rfl (by decide) rfl rfl rfl ⟨Nat.le_of_ble_eq_true rfl, Nat.le_of_ble_eq_true rfl⟩ ⟨Nat.zero_le _, Nat.zero_le _⟩ hl.1 rfl (Nat.le_of_ble_eq_true rfl) dX7_rotor_2 (fun H locs hP hD hS => ?_)
    have hP : va_P D vwCl [(a_this, .inr (7, [.ref a_st, .ref a_now, .ref a_isKept, .ref a_draft, .int v_hasSigns, .int v_hasEvery, .ref a_tape, .int v_taped, .int v_pos, .int v_begun, .int v_sort, .int v_value, .int v_fault, .int v_wrongAt, .int v_moved, .int v_slipTicks, .int v_bestCode, .int v_bestMuch, .long v_straightSum, .long v_movedSum, .long v_allWays, .ref a_wereAt, .ref a_byPlace, .ref a_lanes, .ref a_sizes, .ref a_cells, .int v_torn, .ref a_before])), (a_st, .inl (cI, 168, .inl v_st)), (a_now, .inl (cI, 56, .inl v_now))] H := hP
    have hD : va_D A [(a_this, .inr (7, [.ref a_st, .ref a_now, .ref a_isKept, .ref a_draft, .int v_hasSigns, .int v_hasEvery, .ref a_tape, .int v_taped, .int v_pos, .int v_begun, .int v_sort, .int v_value, .int v_fault, .int v_wrongAt, .int v_moved, .int v_slipTicks, .int v_bestCode, .int v_bestMuch, .long v_straightSum, .long v_movedSum, .long v_allWays, .ref a_wereAt, .ref a_byPlace, .ref a_lanes, .ref a_sizes, .ref a_cells, .int v_torn, .ref a_before])), (a_st, .inl (cI, 168, .inl v_st)), (a_now, .inl (cI, 56, .inl v_now))] := hD
    refine lv_if_ne (tgt := 10) C.1 C.2.1 dX7_rotor_5 (by decide) (fun c3 => ?_) (fun c3 => ?_)
    · have hF := fn hF c3
      refine lv_aload_n C.1 C.2.1 dX7_rotor_10 rfl (lv_at hl 0 rfl) ?_
      obtain ⟨⟨w4, w5, w6⟩, h7, hF⟩ := fb hF
      refine callVV C hK hA hP hD hS [0, 1, 2] (c_X7_takesAll (a_this := a_this) (a_st := a_st) (a_now := a_now) (a_isKept := a_isKept) (a_draft := a_draft) (a_tape := a_tape) (a_wereAt := a_wereAt) (a_byPlace := a_byPlace) (a_lanes := a_lanes) (a_sizes := a_sizes) (a_cells := a_cells) (a_before := a_before) (v_hasSigns := v_hasSigns) (v_hasEvery := v_hasEvery) (v_taped := v_taped) (v_pos := v_pos) (v_begun := v_begun) (v_sort := v_sort) (v_value := v_value) (v_fault := v_fault) (v_wrongAt := v_wrongAt) (v_moved := v_moved) (v_slipTicks := v_slipTicks) (v_bestCode := v_bestCode) (v_bestMuch := v_bestMuch) (v_straightSum := v_straightSum) (v_movedSum := v_movedSum) (v_allWays := v_allWays) (v_torn := v_torn) (v_st := v_st) (v_now := v_now) h7) cv_X7_takesAll kw4_135 rfl (by decide) rfl rfl rfl ⟨Nat.le_of_ble_eq_true rfl, Nat.le_of_ble_eq_true rfl⟩ ⟨Nat.zero_le _, Nat.zero_le _⟩ hl.1 rfl (Nat.le_of_ble_eq_true rfl) dX7_rotor_11 (fun H locs hP hD hS => ?_)
      have hP : va_P D vwCl [(a_this, .inr (7, [.ref a_st, .ref a_now, .ref a_isKept, .ref a_draft, .int v_hasSigns, .int v_hasEvery, .ref a_tape, .int v_taped, .int v_pos, .int v_begun, .int v_sort, .int v_value, .int v_fault, .int v_wrongAt, .int w4, .int w5, .int v_bestCode, .int v_bestMuch, .long v_straightSum, .long v_movedSum, .long v_allWays, .ref a_wereAt, .ref a_byPlace, .ref a_lanes, .ref a_sizes, .ref a_cells, .int v_torn, .ref a_before])), (a_st, .inl (cI, 168, .inl v_st)), (a_now, .inl (cI, 56, .inl w6))] H := hP
      have hD : va_D A [(a_this, .inr (7, [.ref a_st, .ref a_now, .ref a_isKept, .ref a_draft, .int v_hasSigns, .int v_hasEvery, .ref a_tape, .int v_taped, .int v_pos, .int v_begun, .int v_sort, .int v_value, .int v_fault, .int v_wrongAt, .int w4, .int w5, .int v_bestCode, .int v_bestMuch, .long v_straightSum, .long v_movedSum, .long v_allWays, .ref a_wereAt, .ref a_byPlace, .ref a_lanes, .ref a_sizes, .ref a_cells, .int v_torn, .ref a_before])), (a_st, .inl (cI, 168, .inl v_st)), (a_now, .inl (cI, 56, .inl w6))] := hD
      refine lv_iload_n C.1 C.2.1 dX7_rotor_14 rfl (lv_at hl 2 rfl) ?_
      by_cases c8 : x2 = (0 : Int32)
      · have hF := fp hF c8
        refine lv_tableIn (tgt := 52) C.1 C.2.1 dX7_rotor_15 (by rw [c8]; decide) (by rw [c8]; decide) (by rw [c8]; rfl) (by decide) ?_
        refine lv_aload_n C.1 C.2.1 dX7_rotor_52 rfl (lv_at hl 0 rfl) ?_
        refine lv_iload_n C.1 C.2.1 dX7_rotor_53 rfl (lv_at hl 1 rfl) ?_
        refine lv_iload_n C.1 C.2.1 dX7_rotor_54 rfl (lv_at hl 2 rfl) ?_
        obtain ⟨r9, h10, hF⟩ := fb hF
        refine callVI C hK hA hP hD hS [0, 2] (c_X7_of (a_this := a_this) (a_st := a_st) (a_now := a_now) (a_isKept := a_isKept) (a_draft := a_draft) (a_tape := a_tape) (a_wereAt := a_wereAt) (a_byPlace := a_byPlace) (a_lanes := a_lanes) (a_sizes := a_sizes) (a_cells := a_cells) (a_before := a_before) (v_hasSigns := v_hasSigns) (v_hasEvery := v_hasEvery) (v_taped := v_taped) (v_pos := v_pos) (v_begun := v_begun) (v_sort := v_sort) (v_value := v_value) (v_fault := v_fault) (v_wrongAt := v_wrongAt) (v_moved := w4) (v_slipTicks := w5) (v_bestCode := v_bestCode) (v_bestMuch := v_bestMuch) (v_straightSum := v_straightSum) (v_movedSum := v_movedSum) (v_allWays := v_allWays) (v_torn := v_torn) (v_now := w6) h10) cv_X7_of kw4_152 rfl (by decide) rfl rfl rfl ⟨Nat.le_of_ble_eq_true rfl, Nat.le_of_ble_eq_true rfl⟩ ⟨Nat.zero_le _, Nat.zero_le _⟩ hl.1 rfl (Nat.le_of_ble_eq_true rfl) dX7_rotor_55 (fun H locs hP hD hS => ?_)
        have hP : va_P D vwCl [(a_this, .inr (7, [.ref a_st, .ref a_now, .ref a_isKept, .ref a_draft, .int v_hasSigns, .int v_hasEvery, .ref a_tape, .int v_taped, .int v_pos, .int v_begun, .int v_sort, .int v_value, .int v_fault, .int v_wrongAt, .int w4, .int w5, .int v_bestCode, .int v_bestMuch, .long v_straightSum, .long v_movedSum, .long v_allWays, .ref a_wereAt, .ref a_byPlace, .ref a_lanes, .ref a_sizes, .ref a_cells, .int v_torn, .ref a_before])), (a_st, .inl (cI, 168, .inl v_st)), (a_now, .inl (cI, 56, .inl w6))] H := hP
        have hD : va_D A [(a_this, .inr (7, [.ref a_st, .ref a_now, .ref a_isKept, .ref a_draft, .int v_hasSigns, .int v_hasEvery, .ref a_tape, .int v_taped, .int v_pos, .int v_begun, .int v_sort, .int v_value, .int v_fault, .int v_wrongAt, .int w4, .int w5, .int v_bestCode, .int v_bestMuch, .long v_straightSum, .long v_movedSum, .long v_allWays, .ref a_wereAt, .ref a_byPlace, .ref a_lanes, .ref a_sizes, .ref a_cells, .int v_torn, .ref a_before])), (a_st, .inl (cI, 168, .inl v_st)), (a_now, .inl (cI, 56, .inl w6))] := hD
        have hF := Option.some.inj hF
        subst hF
        exact retI C hr hlk hP hD hS dX7_rotor_58
      · have hF := fn hF c8
        by_cases c11 : x2 = (1 : Int32)
        · have hF := fp hF c11
          refine lv_tableIn (tgt := 52) C.1 C.2.1 dX7_rotor_15 (by rw [c11]; decide) (by rw [c11]; decide) (by rw [c11]; rfl) (by decide) ?_
          refine lv_aload_n C.1 C.2.1 dX7_rotor_52 rfl (lv_at hl 0 rfl) ?_
          refine lv_iload_n C.1 C.2.1 dX7_rotor_53 rfl (lv_at hl 1 rfl) ?_
          refine lv_iload_n C.1 C.2.1 dX7_rotor_54 rfl (lv_at hl 2 rfl) ?_
          obtain ⟨r12, h13, hF⟩ := fb hF
          refine callVI C hK hA hP hD hS [0, 2] (c_X7_of (a_this := a_this) (a_st := a_st) (a_now := a_now) (a_isKept := a_isKept) (a_draft := a_draft) (a_tape := a_tape) (a_wereAt := a_wereAt) (a_byPlace := a_byPlace) (a_lanes := a_lanes) (a_sizes := a_sizes) (a_cells := a_cells) (a_before := a_before) (v_hasSigns := v_hasSigns) (v_hasEvery := v_hasEvery) (v_taped := v_taped) (v_pos := v_pos) (v_begun := v_begun) (v_sort := v_sort) (v_value := v_value) (v_fault := v_fault) (v_wrongAt := v_wrongAt) (v_moved := w4) (v_slipTicks := w5) (v_bestCode := v_bestCode) (v_bestMuch := v_bestMuch) (v_straightSum := v_straightSum) (v_movedSum := v_movedSum) (v_allWays := v_allWays) (v_torn := v_torn) (v_now := w6) h13) cv_X7_of kw4_152 rfl (by decide) rfl rfl rfl ⟨Nat.le_of_ble_eq_true rfl, Nat.le_of_ble_eq_true rfl⟩ ⟨Nat.zero_le _, Nat.zero_le _⟩ hl.1 rfl (Nat.le_of_ble_eq_true rfl) dX7_rotor_55 (fun H locs hP hD hS => ?_)
          have hP : va_P D vwCl [(a_this, .inr (7, [.ref a_st, .ref a_now, .ref a_isKept, .ref a_draft, .int v_hasSigns, .int v_hasEvery, .ref a_tape, .int v_taped, .int v_pos, .int v_begun, .int v_sort, .int v_value, .int v_fault, .int v_wrongAt, .int w4, .int w5, .int v_bestCode, .int v_bestMuch, .long v_straightSum, .long v_movedSum, .long v_allWays, .ref a_wereAt, .ref a_byPlace, .ref a_lanes, .ref a_sizes, .ref a_cells, .int v_torn, .ref a_before])), (a_st, .inl (cI, 168, .inl v_st)), (a_now, .inl (cI, 56, .inl w6))] H := hP
          have hD : va_D A [(a_this, .inr (7, [.ref a_st, .ref a_now, .ref a_isKept, .ref a_draft, .int v_hasSigns, .int v_hasEvery, .ref a_tape, .int v_taped, .int v_pos, .int v_begun, .int v_sort, .int v_value, .int v_fault, .int v_wrongAt, .int w4, .int w5, .int v_bestCode, .int v_bestMuch, .long v_straightSum, .long v_movedSum, .long v_allWays, .ref a_wereAt, .ref a_byPlace, .ref a_lanes, .ref a_sizes, .ref a_cells, .int v_torn, .ref a_before])), (a_st, .inl (cI, 168, .inl v_st)), (a_now, .inl (cI, 56, .inl w6))] := hD
          have hF := Option.some.inj hF
          subst hF
          exact retI C hr hlk hP hD hS dX7_rotor_58
        · have hF := fn hF c11
          by_cases c14 : x2 = (2 : Int32)
          · have hF := fp hF c14
            refine lv_tableIn (tgt := 59) C.1 C.2.1 dX7_rotor_15 (by rw [c14]; decide) (by rw [c14]; decide) (by rw [c14]; rfl) (by decide) ?_
            refine lv_ldc (v := 100000) C.1 C.2.1 C.2.2.2.1 (C.2.2.2.2 _ kw4_139) dX7_rotor_59 ?_
            refine lv_aload_n C.1 C.2.1 dX7_rotor_61 rfl (lv_at hl 0 rfl) ?_
            refine lv_iload_n C.1 C.2.1 dX7_rotor_62 rfl (lv_at hl 1 rfl) ?_
            refine lv_iconst (v := 2) C.1 C.2.1 dX7_rotor_63 (by decide) ?_
            obtain ⟨r15, h16, hF⟩ := fb hF
            refine callVI C hK hA hP hD hS [0, 2] (c_X7_of (a_this := a_this) (a_st := a_st) (a_now := a_now) (a_isKept := a_isKept) (a_draft := a_draft) (a_tape := a_tape) (a_wereAt := a_wereAt) (a_byPlace := a_byPlace) (a_lanes := a_lanes) (a_sizes := a_sizes) (a_cells := a_cells) (a_before := a_before) (v_hasSigns := v_hasSigns) (v_hasEvery := v_hasEvery) (v_taped := v_taped) (v_pos := v_pos) (v_begun := v_begun) (v_sort := v_sort) (v_value := v_value) (v_fault := v_fault) (v_wrongAt := v_wrongAt) (v_moved := w4) (v_slipTicks := w5) (v_bestCode := v_bestCode) (v_bestMuch := v_bestMuch) (v_straightSum := v_straightSum) (v_movedSum := v_movedSum) (v_allWays := v_allWays) (v_torn := v_torn) (v_now := w6) h16) cv_X7_of kw4_152 rfl (by decide) rfl rfl rfl ⟨Nat.le_of_ble_eq_true rfl, Nat.le_of_ble_eq_true rfl⟩ ⟨Nat.zero_le _, Nat.zero_le _⟩ hl.1 rfl (Nat.le_of_ble_eq_true rfl) dX7_rotor_64 (fun H locs hP hD hS => ?_)
            have hP : va_P D vwCl [(a_this, .inr (7, [.ref a_st, .ref a_now, .ref a_isKept, .ref a_draft, .int v_hasSigns, .int v_hasEvery, .ref a_tape, .int v_taped, .int v_pos, .int v_begun, .int v_sort, .int v_value, .int v_fault, .int v_wrongAt, .int w4, .int w5, .int v_bestCode, .int v_bestMuch, .long v_straightSum, .long v_movedSum, .long v_allWays, .ref a_wereAt, .ref a_byPlace, .ref a_lanes, .ref a_sizes, .ref a_cells, .int v_torn, .ref a_before])), (a_st, .inl (cI, 168, .inl v_st)), (a_now, .inl (cI, 56, .inl w6))] H := hP
            have hD : va_D A [(a_this, .inr (7, [.ref a_st, .ref a_now, .ref a_isKept, .ref a_draft, .int v_hasSigns, .int v_hasEvery, .ref a_tape, .int v_taped, .int v_pos, .int v_begun, .int v_sort, .int v_value, .int v_fault, .int v_wrongAt, .int w4, .int w5, .int v_bestCode, .int v_bestMuch, .long v_straightSum, .long v_movedSum, .long v_allWays, .ref a_wereAt, .ref a_byPlace, .ref a_lanes, .ref a_sizes, .ref a_cells, .int v_torn, .ref a_before])), (a_st, .inl (cI, 168, .inl v_st)), (a_now, .inl (cI, 56, .inl w6))] := hD
            refine lv_iadd C.1 C.2.1 dX7_rotor_67 ?_
            have hF := Option.some.inj hF
            subst hF
            exact retI C hr hlk hP hD hS dX7_rotor_68
          · have hF := fn hF c14
            by_cases c17 : x2 = (3 : Int32)
            · have hF := fp hF c17
              refine lv_tableIn (tgt := 69) C.1 C.2.1 dX7_rotor_15 (by rw [c17]; decide) (by rw [c17]; decide) (by rw [c17]; rfl) (by decide) ?_
              refine lv_bipush (v := 10) C.1 C.2.1 dX7_rotor_69 (by decide) ?_
              refine lv_aload_n C.1 C.2.1 dX7_rotor_71 rfl (lv_at hl 0 rfl) ?_
              refine lv_iload_n C.1 C.2.1 dX7_rotor_72 rfl (lv_at hl 1 rfl) ?_
              refine lv_iconst (v := 3) C.1 C.2.1 dX7_rotor_73 (by decide) ?_
              obtain ⟨r18, h19, hF⟩ := fb hF
              refine callVI C hK hA hP hD hS [0, 2] (c_X7_of (a_this := a_this) (a_st := a_st) (a_now := a_now) (a_isKept := a_isKept) (a_draft := a_draft) (a_tape := a_tape) (a_wereAt := a_wereAt) (a_byPlace := a_byPlace) (a_lanes := a_lanes) (a_sizes := a_sizes) (a_cells := a_cells) (a_before := a_before) (v_hasSigns := v_hasSigns) (v_hasEvery := v_hasEvery) (v_taped := v_taped) (v_pos := v_pos) (v_begun := v_begun) (v_sort := v_sort) (v_value := v_value) (v_fault := v_fault) (v_wrongAt := v_wrongAt) (v_moved := w4) (v_slipTicks := w5) (v_bestCode := v_bestCode) (v_bestMuch := v_bestMuch) (v_straightSum := v_straightSum) (v_movedSum := v_movedSum) (v_allWays := v_allWays) (v_torn := v_torn) (v_now := w6) h19) cv_X7_of kw4_152 rfl (by decide) rfl rfl rfl ⟨Nat.le_of_ble_eq_true rfl, Nat.le_of_ble_eq_true rfl⟩ ⟨Nat.zero_le _, Nat.zero_le _⟩ hl.1 rfl (Nat.le_of_ble_eq_true rfl) dX7_rotor_74 (fun H locs hP hD hS => ?_)
              have hP : va_P D vwCl [(a_this, .inr (7, [.ref a_st, .ref a_now, .ref a_isKept, .ref a_draft, .int v_hasSigns, .int v_hasEvery, .ref a_tape, .int v_taped, .int v_pos, .int v_begun, .int v_sort, .int v_value, .int v_fault, .int v_wrongAt, .int w4, .int w5, .int v_bestCode, .int v_bestMuch, .long v_straightSum, .long v_movedSum, .long v_allWays, .ref a_wereAt, .ref a_byPlace, .ref a_lanes, .ref a_sizes, .ref a_cells, .int v_torn, .ref a_before])), (a_st, .inl (cI, 168, .inl v_st)), (a_now, .inl (cI, 56, .inl w6))] H := hP
              have hD : va_D A [(a_this, .inr (7, [.ref a_st, .ref a_now, .ref a_isKept, .ref a_draft, .int v_hasSigns, .int v_hasEvery, .ref a_tape, .int v_taped, .int v_pos, .int v_begun, .int v_sort, .int v_value, .int v_fault, .int v_wrongAt, .int w4, .int w5, .int v_bestCode, .int v_bestMuch, .long v_straightSum, .long v_movedSum, .long v_allWays, .ref a_wereAt, .ref a_byPlace, .ref a_lanes, .ref a_sizes, .ref a_cells, .int v_torn, .ref a_before])), (a_st, .inl (cI, 168, .inl v_st)), (a_now, .inl (cI, 56, .inl w6))] := hD
              refine lv_iadd C.1 C.2.1 dX7_rotor_77 ?_
              have hF := Option.some.inj hF
              subst hF
              exact retI C hr hlk hP hD hS dX7_rotor_78
            · have hF := fn hF c17
              by_cases c20 : x2 = (4 : Int32)
              · have hF := fp hF c20
                refine lv_tableIn (tgt := 79) C.1 C.2.1 dX7_rotor_15 (by rw [c20]; decide) (by rw [c20]; decide) (by rw [c20]; rfl) (by decide) ?_
                refine lv_bipush (v := 10) C.1 C.2.1 dX7_rotor_79 (by decide) ?_
                refine lv_aload_n C.1 C.2.1 dX7_rotor_81 rfl (lv_at hl 0 rfl) ?_
                refine lv_iload_n C.1 C.2.1 dX7_rotor_82 rfl (lv_at hl 1 rfl) ?_
                obtain ⟨r21, h22, hF⟩ := fb hF
                refine callVI C hK hA hP hD hS [0, 2] (c_X7_off (a_this := a_this) (a_st := a_st) (a_now := a_now) (a_isKept := a_isKept) (a_draft := a_draft) (a_tape := a_tape) (a_wereAt := a_wereAt) (a_byPlace := a_byPlace) (a_lanes := a_lanes) (a_sizes := a_sizes) (a_cells := a_cells) (a_before := a_before) (v_hasSigns := v_hasSigns) (v_hasEvery := v_hasEvery) (v_taped := v_taped) (v_pos := v_pos) (v_begun := v_begun) (v_sort := v_sort) (v_value := v_value) (v_fault := v_fault) (v_wrongAt := v_wrongAt) (v_moved := w4) (v_slipTicks := w5) (v_bestCode := v_bestCode) (v_bestMuch := v_bestMuch) (v_straightSum := v_straightSum) (v_movedSum := v_movedSum) (v_allWays := v_allWays) (v_torn := v_torn) (v_now := w6) h22) cv_X7_off kw4_148 rfl (by decide) rfl rfl rfl ⟨Nat.le_of_ble_eq_true rfl, Nat.le_of_ble_eq_true rfl⟩ ⟨Nat.zero_le _, Nat.zero_le _⟩ hl.1 rfl (Nat.le_of_ble_eq_true rfl) dX7_rotor_83 (fun H locs hP hD hS => ?_)
                have hP : va_P D vwCl [(a_this, .inr (7, [.ref a_st, .ref a_now, .ref a_isKept, .ref a_draft, .int v_hasSigns, .int v_hasEvery, .ref a_tape, .int v_taped, .int v_pos, .int v_begun, .int v_sort, .int v_value, .int v_fault, .int v_wrongAt, .int w4, .int w5, .int v_bestCode, .int v_bestMuch, .long v_straightSum, .long v_movedSum, .long v_allWays, .ref a_wereAt, .ref a_byPlace, .ref a_lanes, .ref a_sizes, .ref a_cells, .int v_torn, .ref a_before])), (a_st, .inl (cI, 168, .inl v_st)), (a_now, .inl (cI, 56, .inl w6))] H := hP
                have hD : va_D A [(a_this, .inr (7, [.ref a_st, .ref a_now, .ref a_isKept, .ref a_draft, .int v_hasSigns, .int v_hasEvery, .ref a_tape, .int v_taped, .int v_pos, .int v_begun, .int v_sort, .int v_value, .int v_fault, .int v_wrongAt, .int w4, .int w5, .int v_bestCode, .int v_bestMuch, .long v_straightSum, .long v_movedSum, .long v_allWays, .ref a_wereAt, .ref a_byPlace, .ref a_lanes, .ref a_sizes, .ref a_cells, .int v_torn, .ref a_before])), (a_st, .inl (cI, 168, .inl v_st)), (a_now, .inl (cI, 56, .inl w6))] := hD
                refine lv_iadd C.1 C.2.1 dX7_rotor_86 ?_
                have hF := Option.some.inj hF
                subst hF
                exact retI C hr hlk hP hD hS dX7_rotor_87
              · have hF := fn hF c20
                by_cases c23 : x2 = (5 : Int32)
                · have hF := fp hF c23
                  refine lv_tableIn (tgt := 88) C.1 C.2.1 dX7_rotor_15 (by rw [c23]; decide) (by rw [c23]; decide) (by rw [c23]; rfl) (by decide) ?_
                  refine lv_ldc (v := 100000) C.1 C.2.1 C.2.2.2.1 (C.2.2.2.2 _ kw4_139) dX7_rotor_88 ?_
                  refine lv_aload_n C.1 C.2.1 dX7_rotor_90 rfl (lv_at hl 0 rfl) ?_
                  refine lv_iload_n C.1 C.2.1 dX7_rotor_91 rfl (lv_at hl 1 rfl) ?_
                  obtain ⟨r24, h25, hF⟩ := fb hF
                  refine callVI C hK hA hP hD hS [0, 2] (c_X7_lostBy (a_this := a_this) (a_st := a_st) (a_now := a_now) (a_isKept := a_isKept) (a_draft := a_draft) (a_tape := a_tape) (a_wereAt := a_wereAt) (a_byPlace := a_byPlace) (a_lanes := a_lanes) (a_sizes := a_sizes) (a_cells := a_cells) (a_before := a_before) (v_hasSigns := v_hasSigns) (v_hasEvery := v_hasEvery) (v_taped := v_taped) (v_pos := v_pos) (v_begun := v_begun) (v_sort := v_sort) (v_value := v_value) (v_fault := v_fault) (v_wrongAt := v_wrongAt) (v_moved := w4) (v_slipTicks := w5) (v_bestCode := v_bestCode) (v_bestMuch := v_bestMuch) (v_straightSum := v_straightSum) (v_movedSum := v_movedSum) (v_allWays := v_allWays) (v_torn := v_torn) (v_now := w6) h25) cv_X7_lostBy kw4_169 rfl (by decide) rfl rfl rfl ⟨Nat.le_of_ble_eq_true rfl, Nat.le_of_ble_eq_true rfl⟩ ⟨Nat.zero_le _, Nat.zero_le _⟩ hl.1 rfl (Nat.le_of_ble_eq_true rfl) dX7_rotor_92 (fun H locs hP hD hS => ?_)
                  have hP : va_P D vwCl [(a_this, .inr (7, [.ref a_st, .ref a_now, .ref a_isKept, .ref a_draft, .int v_hasSigns, .int v_hasEvery, .ref a_tape, .int v_taped, .int v_pos, .int v_begun, .int v_sort, .int v_value, .int v_fault, .int v_wrongAt, .int w4, .int w5, .int v_bestCode, .int v_bestMuch, .long v_straightSum, .long v_movedSum, .long v_allWays, .ref a_wereAt, .ref a_byPlace, .ref a_lanes, .ref a_sizes, .ref a_cells, .int v_torn, .ref a_before])), (a_st, .inl (cI, 168, .inl v_st)), (a_now, .inl (cI, 56, .inl w6))] H := hP
                  have hD : va_D A [(a_this, .inr (7, [.ref a_st, .ref a_now, .ref a_isKept, .ref a_draft, .int v_hasSigns, .int v_hasEvery, .ref a_tape, .int v_taped, .int v_pos, .int v_begun, .int v_sort, .int v_value, .int v_fault, .int v_wrongAt, .int w4, .int w5, .int v_bestCode, .int v_bestMuch, .long v_straightSum, .long v_movedSum, .long v_allWays, .ref a_wereAt, .ref a_byPlace, .ref a_lanes, .ref a_sizes, .ref a_cells, .int v_torn, .ref a_before])), (a_st, .inl (cI, 168, .inl v_st)), (a_now, .inl (cI, 56, .inl w6))] := hD
                  refine lv_iadd C.1 C.2.1 dX7_rotor_95 ?_
                  have hF := Option.some.inj hF
                  subst hF
                  exact retI C hr hlk hP hD hS dX7_rotor_96
                · have hF := fn hF c23
                  refine lv_tableOut (tgt := 97) C.1 C.2.1 dX7_rotor_15 (by have q0 := lv_neT (k := 0) (a := 0) c8 (by decide); have q1 := lv_neT (k := 1) (a := 1) c11 (by decide); have q2 := lv_neT (k := 2) (a := 2) c14 (by decide); have q3 := lv_neT (k := 3) (a := 3) c17 (by decide); have q4 := lv_neT (k := 4) (a := 4) c20 (by decide); have q5 := lv_neT (k := 5) (a := 5) c23 (by decide); omega) (by decide) ?_
                  refine lv_iconst (v := (-1)) C.1 C.2.1 dX7_rotor_97 (by decide) ?_
                  have hF := Option.some.inj hF
                  subst hF
                  exact retI C hr hlk hP hD hS dX7_rotor_98
    · have hF := fp hF c3
      refine lv_iconst (v := (-1)) C.1 C.2.1 dX7_rotor_8 (by decide) ?_
      have hF := Option.some.inj hF
      subst hF
      exact retI C hr hlk hP hD hS dX7_rotor_9)
theorem c_X7_rotor {l : Launch} {D : va_G} {cI cB cZ cR cM cS : ClassId} {a_this : Nat} {a_st : Nat} {a_now : Nat} {a_isKept : Nat} {a_draft : Nat} {a_tape : Nat} {a_wereAt : Nat} {a_byPlace : Nat} {a_lanes : Nat} {a_sizes : Nat} {a_cells : Nat} {a_before : Nat} {v_hasSigns : Int32} {v_hasEvery : Int32} {v_taped : Int32} {v_pos : Int32} {v_begun : Int32} {v_sort : Int32} {v_value : Int32} {v_fault : Int32} {v_wrongAt : Int32} {v_moved : Int32} {v_slipTicks : Int32} {v_bestCode : Int32} {v_bestMuch : Int32} {v_straightSum : Int64} {v_movedSum : Int64} {v_allWays : Int64} {v_torn : Int32} {v_st : Nat → Int32} {v_now : Nat → Int32} {x1 : Int32} {x2 : Int32} {r_ : Int32} {v_moved' : Int32} {v_slipTicks' : Int32} {v_now' : Nat → Int32} (hF : F_X7_rotor v_moved v_slipTicks v_st v_now x1 x2 = some (r_, v_moved', v_slipTicks', v_now')) : MI l yX7_rotor cX7_rotor 3 .int rm_X7_rotor D (TS cI cB cZ cR cM cS) [.ref a_this, .int x1, .int x2] [(a_this, .inr (7, [.ref a_st, .ref a_now, .ref a_isKept, .ref a_draft, .int v_hasSigns, .int v_hasEvery, .ref a_tape, .int v_taped, .int v_pos, .int v_begun, .int v_sort, .int v_value, .int v_fault, .int v_wrongAt, .int v_moved, .int v_slipTicks, .int v_bestCode, .int v_bestMuch, .long v_straightSum, .long v_movedSum, .long v_allWays, .ref a_wereAt, .ref a_byPlace, .ref a_lanes, .ref a_sizes, .ref a_cells, .int v_torn, .ref a_before])), (a_st, .inl (cI, 168, .inl v_st)), (a_now, .inl (cI, 56, .inl v_now))] [(a_this, .inr (7, [.ref a_st, .ref a_now, .ref a_isKept, .ref a_draft, .int v_hasSigns, .int v_hasEvery, .ref a_tape, .int v_taped, .int v_pos, .int v_begun, .int v_sort, .int v_value, .int v_fault, .int v_wrongAt, .int v_moved', .int v_slipTicks', .int v_bestCode, .int v_bestMuch, .long v_straightSum, .long v_movedSum, .long v_allWays, .ref a_wereAt, .ref a_byPlace, .ref a_lanes, .ref a_sizes, .ref a_cells, .int v_torn, .ref a_before])), (a_st, .inl (cI, 168, .inl v_st)), (a_now, .inl (cI, 56, .inl v_now'))] r_ :=
  c0_X7_rotor (res := (r_, v_moved', v_slipTicks', v_now')) hF
def rm_X7_sign : Room := { frames := 2, cells := 0, slots := 0, locals := 46 }
theorem cv_X7_sign : CV yX7_sign cX7_sign 2 (some .int) rm_X7_sign RX7 1 := ⟨kw4_182, kw4_183, kw1_8, kw4_184, by decide +kernel, rfl, rfl⟩
set_option maxHeartbeats 4000000 in
set_option maxRecDepth 100000 in
theorem c_X7_sign {l : Launch} {D : va_G} {cI cB cZ cR cM cS : ClassId} {a_this : Nat} {a_st : Nat} {a_now : Nat} {a_isKept : Nat} {a_draft : Nat} {a_tape : Nat} {a_wereAt : Nat} {a_byPlace : Nat} {a_lanes : Nat} {a_sizes : Nat} {a_cells : Nat} {a_before : Nat} {v_hasSigns : Int32} {v_hasEvery : Int32} {v_taped : Int32} {v_pos : Int32} {v_begun : Int32} {v_sort : Int32} {v_value : Int32} {v_fault : Int32} {v_wrongAt : Int32} {v_moved : Int32} {v_slipTicks : Int32} {v_bestCode : Int32} {v_bestMuch : Int32} {v_straightSum : Int64} {v_movedSum : Int64} {v_allWays : Int64} {v_torn : Int32} {v_st : Nat → Int32} {x1 : Int32} {res : Int32} (hF : F_X7_sign v_st x1 = some res) : MI l yX7_sign cX7_sign 2 .int rm_X7_sign D (TS cI cB cZ cR cM cS) [.ref a_this, .int x1] [(a_this, .inr (7, [.ref a_st, .ref a_now, .ref a_isKept, .ref a_draft, .int v_hasSigns, .int v_hasEvery, .ref a_tape, .int v_taped, .int v_pos, .int v_begun, .int v_sort, .int v_value, .int v_fault, .int v_wrongAt, .int v_moved, .int v_slipTicks, .int v_bestCode, .int v_bestMuch, .long v_straightSum, .long v_movedSum, .long v_allWays, .ref a_wereAt, .ref a_byPlace, .ref a_lanes, .ref a_sizes, .ref a_cells, .int v_torn, .ref a_before])), (a_st, .inl (cI, 168, .inl v_st))] [(a_this, .inr (7, [.ref a_st, .ref a_now, .ref a_isKept, .ref a_draft, .int v_hasSigns, .int v_hasEvery, .ref a_tape, .int v_taped, .int v_pos, .int v_begun, .int v_sort, .int v_value, .int v_fault, .int v_wrongAt, .int v_moved, .int v_slipTicks, .int v_bestCode, .int v_bestMuch, .long v_straightSum, .long v_movedSum, .long v_allWays, .ref a_wereAt, .ref a_byPlace, .ref a_lanes, .ref a_sizes, .ref a_cells, .int v_torn, .ref a_before])), (a_st, .inl (cI, 168, .inl v_st))] res :=
  MI_of (by decide) (Nat.le_of_ble_eq_true rfl) (fun p e s m args below meth c A ls C hr hlk hK hA hP hD hS hl => by
    have C : CX p m c cX7_sign 2 s args RX7 := C
    have hl : lv_has ls 2 [(0, .ref a_this), (1, .int x1)] := hl
    unfold F_X7_sign at hF
    refine lv_aload_n C.1 C.2.1 dX7_sign_0 rfl (lv_at hl 0 rfl) ?_
    refine lv_iload_n C.1 C.2.1 dX7_sign_1 rfl (lv_at hl 1 rfl) ?_
    obtain ⟨r1, h2, hF⟩ := fb hF
    refine callVI C hK hA hP hD hS [0, 1] (c_X7_isSign (a_this := a_this) (a_st := a_st) (a_now := a_now) (a_isKept := a_isKept) (a_draft := a_draft) (a_tape := a_tape) (a_wereAt := a_wereAt) (a_byPlace := a_byPlace) (a_lanes := a_lanes) (a_sizes := a_sizes) (a_cells := a_cells) (a_before := a_before) (v_hasSigns := v_hasSigns) (v_hasEvery := v_hasEvery) (v_taped := v_taped) (v_pos := v_pos) (v_begun := v_begun) (v_sort := v_sort) (v_value := v_value) (v_fault := v_fault) (v_wrongAt := v_wrongAt) (v_moved := v_moved) (v_slipTicks := v_slipTicks) (v_bestCode := v_bestCode) (v_bestMuch := v_bestMuch) (v_straightSum := v_straightSum) (v_movedSum := v_movedSum) (v_allWays := v_allWays) (v_torn := v_torn) (v_st := v_st) h2) cv_X7_isSign kw4_185 rfl (by decide) rfl rfl rfl ⟨Nat.le_of_ble_eq_true rfl, Nat.le_of_ble_eq_true rfl⟩ ⟨Nat.zero_le _, Nat.zero_le _⟩ hl.1 rfl (Nat.le_of_ble_eq_true rfl) dX7_sign_2 (fun H locs hP hD hS => ?_)
    have hP : va_P D vwCl [(a_this, .inr (7, [.ref a_st, .ref a_now, .ref a_isKept, .ref a_draft, .int v_hasSigns, .int v_hasEvery, .ref a_tape, .int v_taped, .int v_pos, .int v_begun, .int v_sort, .int v_value, .int v_fault, .int v_wrongAt, .int v_moved, .int v_slipTicks, .int v_bestCode, .int v_bestMuch, .long v_straightSum, .long v_movedSum, .long v_allWays, .ref a_wereAt, .ref a_byPlace, .ref a_lanes, .ref a_sizes, .ref a_cells, .int v_torn, .ref a_before])), (a_st, .inl (cI, 168, .inl v_st))] H := hP
    have hD : va_D A [(a_this, .inr (7, [.ref a_st, .ref a_now, .ref a_isKept, .ref a_draft, .int v_hasSigns, .int v_hasEvery, .ref a_tape, .int v_taped, .int v_pos, .int v_begun, .int v_sort, .int v_value, .int v_fault, .int v_wrongAt, .int v_moved, .int v_slipTicks, .int v_bestCode, .int v_bestMuch, .long v_straightSum, .long v_movedSum, .long v_allWays, .ref a_wereAt, .ref a_byPlace, .ref a_lanes, .ref a_sizes, .ref a_cells, .int v_torn, .ref a_before])), (a_st, .inl (cI, 168, .inl v_st))] := hD
    refine lv_if_eq (tgt := 19) C.1 C.2.1 dX7_sign_5 (by decide) (fun c3 => ?_) (fun c3 => ?_)
    · have hF := fp hF c3
      refine lv_iconst (v := (-1)) C.1 C.2.1 dX7_sign_19 (by decide) ?_
      have hF := Option.some.inj hF
      subst hF
      exact retI C hr hlk hP hD hS dX7_sign_20
    · have hF := fn hF c3
      refine lv_aload_n C.1 C.2.1 dX7_sign_8 rfl (lv_at hl 0 rfl) ?_
      refine gf_7_7_st C hK hP 0 rfl rfl dX7_sign_9 ?_
      refine lv_iconst (v := 1) C.1 C.2.1 dX7_sign_12 (by decide) ?_
      refine lv_iload_n C.1 C.2.1 dX7_sign_13 rfl (lv_at hl 1 rfl) ?_
      refine lv_iadd C.1 C.2.1 dX7_sign_14 ?_
      obtain ⟨h4, hF⟩ := fk hF
      refine va_iald C.1 C.2.1 hK.1 hP 1 0 rfl rfl h4 dX7_sign_15 ?_
      refine lv_goto (tgt := 20) C.1 C.2.1 dX7_sign_16 (by decide) ?_
      have hF := Option.some.inj hF
      subst hF
      exact retI C hr hlk hP hD hS dX7_sign_20)
def rm_X7_becomes : Room := { frames := 0, cells := 0, slots := 0, locals := 0 }
theorem cv_X7_becomes : CV yX7_becomes cX7_becomes 4 (some .int) rm_X7_becomes RX7 2 := ⟨kw4_196, kwp_44, kw1_8, kw4_197, by decide +kernel, rfl, rfl⟩
set_option maxHeartbeats 4000000 in
set_option maxRecDepth 100000 in
theorem c0_X7_becomes {l : Launch} {D : va_G} {cI cB cZ cR cM cS : ClassId} {a_this : Nat} {a_st : Nat} {a_now : Nat} {a_isKept : Nat} {a_draft : Nat} {a_tape : Nat} {a_wereAt : Nat} {a_byPlace : Nat} {a_lanes : Nat} {a_sizes : Nat} {a_cells : Nat} {a_before : Nat} {v_hasSigns : Int32} {v_hasEvery : Int32} {v_taped : Int32} {v_pos : Int32} {v_begun : Int32} {v_sort : Int32} {v_value : Int32} {v_fault : Int32} {v_wrongAt : Int32} {v_moved : Int32} {v_slipTicks : Int32} {v_bestCode : Int32} {v_bestMuch : Int32} {v_straightSum : Int64} {v_movedSum : Int64} {v_allWays : Int64} {v_torn : Int32} {v_st : Nat → Int32} {x1 : Int32} {x2 : Int32} {res : Int32 × (Nat → Int32)} (hF : F_X7_becomes v_st x1 x2 = some res) : MI l yX7_becomes cX7_becomes 4 .int rm_X7_becomes D (TS cI cB cZ cR cM cS) [.ref a_this, .int x1, .int x2] [(a_this, .inr (7, [.ref a_st, .ref a_now, .ref a_isKept, .ref a_draft, .int v_hasSigns, .int v_hasEvery, .ref a_tape, .int v_taped, .int v_pos, .int v_begun, .int v_sort, .int v_value, .int v_fault, .int v_wrongAt, .int v_moved, .int v_slipTicks, .int v_bestCode, .int v_bestMuch, .long v_straightSum, .long v_movedSum, .long v_allWays, .ref a_wereAt, .ref a_byPlace, .ref a_lanes, .ref a_sizes, .ref a_cells, .int v_torn, .ref a_before])), (a_st, .inl (cI, 168, .inl v_st))] [(a_this, .inr (7, [.ref a_st, .ref a_now, .ref a_isKept, .ref a_draft, .int v_hasSigns, .int v_hasEvery, .ref a_tape, .int v_taped, .int v_pos, .int v_begun, .int v_sort, .int v_value, .int v_fault, .int v_wrongAt, .int v_moved, .int v_slipTicks, .int v_bestCode, .int v_bestMuch, .long v_straightSum, .long v_movedSum, .long v_allWays, .ref a_wereAt, .ref a_byPlace, .ref a_lanes, .ref a_sizes, .ref a_cells, .int v_torn, .ref a_before])), (a_st, .inl (cI, 168, .inl res.2))] res.1 :=
  MI_of (by decide) (Nat.le_of_ble_eq_true rfl) (fun p e s m args below meth c A ls C hr hlk hK hA hP hD hS hl => by
    have C : CX p m c cX7_becomes 4 s args RX7 := C
    have hl : lv_has ls 4 [(0, .ref a_this), (1, .int x1), (2, .int x2)] := hl
    unfold F_X7_becomes at hF
    refine lv_aload_n C.1 C.2.1 dX7_becomes_0 rfl (lv_at hl 0 rfl) ?_
    refine gf_7_7_st C hK hP 0 rfl rfl dX7_becomes_1 ?_
    refine lv_iload_n C.1 C.2.1 dX7_becomes_4 rfl (lv_at hl 1 rfl) ?_
    obtain ⟨h1, hF⟩ := fk hF
    refine va_iald C.1 C.2.1 hK.1 hP 1 0 rfl rfl h1 dX7_becomes_5 ?_
    refine lv_istore_n (lv' := [(3, .int (v_st x1.toNatClampNeg)), (0, .ref a_this), (1, .int x1), (2, .int x2)]) C.1 C.2.1 dX7_becomes_6 rfl hl (by decide) rfl (fun ls hl => ?_)
    refine lv_aload_n C.1 C.2.1 dX7_becomes_7 rfl (lv_at hl 1 rfl) ?_
    refine gf_7_7_st C hK hP 0 rfl rfl dX7_becomes_8 ?_
    refine lv_iload_n C.1 C.2.1 dX7_becomes_11 rfl (lv_at hl 2 rfl) ?_
    refine lv_iload_n C.1 C.2.1 dX7_becomes_12 rfl (lv_at hl 3 rfl) ?_
    obtain ⟨h2, hF⟩ := fk hF
    refine va_iast C.1 C.2.1 hK.1 hP hD hS 1 0 rfl rfl h2 dX7_becomes_13 (fun H locs hP hD hS => ?_)
    have hP : va_P D vwCl [(a_this, .inr (7, [.ref a_st, .ref a_now, .ref a_isKept, .ref a_draft, .int v_hasSigns, .int v_hasEvery, .ref a_tape, .int v_taped, .int v_pos, .int v_begun, .int v_sort, .int v_value, .int v_fault, .int v_wrongAt, .int v_moved, .int v_slipTicks, .int v_bestCode, .int v_bestMuch, .long v_straightSum, .long v_movedSum, .long v_allWays, .ref a_wereAt, .ref a_byPlace, .ref a_lanes, .ref a_sizes, .ref a_cells, .int v_torn, .ref a_before])), (a_st, .inl (cI, 168, .inl (upd v_st x1.toNatClampNeg x2)))] H := hP
    have hD : va_D A [(a_this, .inr (7, [.ref a_st, .ref a_now, .ref a_isKept, .ref a_draft, .int v_hasSigns, .int v_hasEvery, .ref a_tape, .int v_taped, .int v_pos, .int v_begun, .int v_sort, .int v_value, .int v_fault, .int v_wrongAt, .int v_moved, .int v_slipTicks, .int v_bestCode, .int v_bestMuch, .long v_straightSum, .long v_movedSum, .long v_allWays, .ref a_wereAt, .ref a_byPlace, .ref a_lanes, .ref a_sizes, .ref a_cells, .int v_torn, .ref a_before])), (a_st, .inl (cI, 168, .inl (upd v_st x1.toNatClampNeg x2)))] := hD
    refine lv_iload_n C.1 C.2.1 dX7_becomes_14 rfl (lv_at hl 0 rfl) ?_
    have hF := Option.some.inj hF
    subst hF
    exact retI C hr hlk hP hD hS dX7_becomes_15)
theorem c_X7_becomes {l : Launch} {D : va_G} {cI cB cZ cR cM cS : ClassId} {a_this : Nat} {a_st : Nat} {a_now : Nat} {a_isKept : Nat} {a_draft : Nat} {a_tape : Nat} {a_wereAt : Nat} {a_byPlace : Nat} {a_lanes : Nat} {a_sizes : Nat} {a_cells : Nat} {a_before : Nat} {v_hasSigns : Int32} {v_hasEvery : Int32} {v_taped : Int32} {v_pos : Int32} {v_begun : Int32} {v_sort : Int32} {v_value : Int32} {v_fault : Int32} {v_wrongAt : Int32} {v_moved : Int32} {v_slipTicks : Int32} {v_bestCode : Int32} {v_bestMuch : Int32} {v_straightSum : Int64} {v_movedSum : Int64} {v_allWays : Int64} {v_torn : Int32} {v_st : Nat → Int32} {x1 : Int32} {x2 : Int32} {r_ : Int32} {v_st' : Nat → Int32} (hF : F_X7_becomes v_st x1 x2 = some (r_, v_st')) : MI l yX7_becomes cX7_becomes 4 .int rm_X7_becomes D (TS cI cB cZ cR cM cS) [.ref a_this, .int x1, .int x2] [(a_this, .inr (7, [.ref a_st, .ref a_now, .ref a_isKept, .ref a_draft, .int v_hasSigns, .int v_hasEvery, .ref a_tape, .int v_taped, .int v_pos, .int v_begun, .int v_sort, .int v_value, .int v_fault, .int v_wrongAt, .int v_moved, .int v_slipTicks, .int v_bestCode, .int v_bestMuch, .long v_straightSum, .long v_movedSum, .long v_allWays, .ref a_wereAt, .ref a_byPlace, .ref a_lanes, .ref a_sizes, .ref a_cells, .int v_torn, .ref a_before])), (a_st, .inl (cI, 168, .inl v_st))] [(a_this, .inr (7, [.ref a_st, .ref a_now, .ref a_isKept, .ref a_draft, .int v_hasSigns, .int v_hasEvery, .ref a_tape, .int v_taped, .int v_pos, .int v_begun, .int v_sort, .int v_value, .int v_fault, .int v_wrongAt, .int v_moved, .int v_slipTicks, .int v_bestCode, .int v_bestMuch, .long v_straightSum, .long v_movedSum, .long v_allWays, .ref a_wereAt, .ref a_byPlace, .ref a_lanes, .ref a_sizes, .ref a_cells, .int v_torn, .ref a_before])), (a_st, .inl (cI, 168, .inl v_st'))] r_ :=
  c0_X7_becomes (res := (r_, v_st')) hF
def rm_X7_alter : Room := { frames := 2, cells := 0, slots := 0, locals := 46 }
theorem cv_X7_alter : CV yX7_alter cX7_alter 5 (some .int) rm_X7_alter RX7 3 := ⟨kw4_190, kw4_191, kw1_8, kw4_192, by decide +kernel, rfl, rfl⟩
set_option maxHeartbeats 4000000 in
set_option maxRecDepth 100000 in
theorem b_X7_alter_38 {l : Launch} {D : va_G} {cI cB cZ cR cM cS : ClassId} {a_this : Nat} {a_st : Nat} {a_now : Nat} {a_isKept : Nat} {a_draft : Nat} {a_tape : Nat} {a_wereAt : Nat} {a_byPlace : Nat} {a_lanes : Nat} {a_sizes : Nat} {a_cells : Nat} {a_before : Nat} {v_hasSigns : Int32} {v_hasEvery : Int32} {v_taped : Int32} {v_pos : Int32} {v_begun : Int32} {v_sort : Int32} {v_value : Int32} {v_fault : Int32} {v_wrongAt : Int32} {v_moved : Int32} {v_slipTicks : Int32} {v_bestCode : Int32} {v_bestMuch : Int32} {v_straightSum : Int64} {v_movedSum : Int64} {v_allWays : Int64} {v_torn : Int32} {p : Program} {e : Env} {s : State} {m : MethodId} {args : Array Value} {below : List Frame} {meth : Method} {c : Code} {A : Nat → Prop} {res : Int32 × (Nat → Int32)} (C : CX p m c cX7_alter 5 s args RX7) (hr : meth.sig.returnType = (some .int)) (hlk : meth.locks = false) (hK : KK D (TS cI cB cZ cR cM cS) s) (hA : ∀ q, s.heap.size ≤ q → A q) : ∀ (v_st : Nat → Int32) (x1 : Int32) (x2 : Int32) (x3 : Int32) (s0 : Int32) (H : Heap) (locs : List Loc) (ls : Array Slot), F_X7_alter_38 v_st x1 x2 x3 s0 = some res → va_P D vwCl [(a_this, .inr (7, [.ref a_st, .ref a_now, .ref a_isKept, .ref a_draft, .int v_hasSigns, .int v_hasEvery, .ref a_tape, .int v_taped, .int v_pos, .int v_begun, .int v_sort, .int v_value, .int v_fault, .int v_wrongAt, .int v_moved, .int v_slipTicks, .int v_bestCode, .int v_bestMuch, .long v_straightSum, .long v_movedSum, .long v_allWays, .ref a_wereAt, .ref a_byPlace, .ref a_lanes, .ref a_sizes, .ref a_cells, .int v_torn, .ref a_before])), (a_st, .inl (cI, 168, .inl v_st))] H → va_D A [(a_this, .inr (7, [.ref a_st, .ref a_now, .ref a_isKept, .ref a_draft, .int v_hasSigns, .int v_hasEvery, .ref a_tape, .int v_taped, .int v_pos, .int v_begun, .int v_sort, .int v_value, .int v_fault, .int v_wrongAt, .int v_moved, .int v_slipTicks, .int v_bestCode, .int v_bestMuch, .long v_straightSum, .long v_movedSum, .long v_allWays, .ref a_wereAt, .ref a_byPlace, .ref a_lanes, .ref a_sizes, .ref a_cells, .int v_torn, .ref a_before])), (a_st, .inl (cI, 168, .inl v_st))] → va_S A s.heap H locs → lv_has ls 5 [(0, .ref a_this), (1, .int x1), (2, .int x2), (3, .int x3)] → W p l e rm_X7_alter s m args below meth c H locs 0 0 (MQ below (va_Qi (fun x (_ : Unit) => x = res.1) (BW D A [(a_this, .inr (7, [.ref a_st, .ref a_now, .ref a_isKept, .ref a_draft, .int v_hasSigns, .int v_hasEvery, .ref a_tape, .int v_taped, .int v_pos, .int v_begun, .int v_sort, .int v_value, .int v_fault, .int v_wrongAt, .int v_moved, .int v_slipTicks, .int v_bestCode, .int v_bestMuch, .long v_straightSum, .long v_movedSum, .long v_allWays, .ref a_wereAt, .ref a_byPlace, .ref a_lanes, .ref a_sizes, .ref a_cells, .int v_torn, .ref a_before])), (a_st, .inl (cI, 168, .inl res.2))]) A) args s 0 0 A) (F0 m 38 ls [.int s0]) := by
  intro v_st x1 x2 x3 s0 H locs ls hF  hP hD hS hl
  unfold F_X7_alter_38 at hF
  refine lv_istore (lv' := [(4, .int s0), (0, .ref a_this), (1, .int x1), (2, .int x2), (3, .int x3)]) C.1 C.2.1 dX7_alter_38 hl (by decide) rfl (fun ls hl => ?_)
  refine lv_aload_n C.1 C.2.1 dX7_alter_40 rfl (lv_at hl 1 rfl) ?_
  refine lv_iload_n C.1 C.2.1 dX7_alter_41 rfl (lv_at hl 2 rfl) ?_
  obtain ⟨r1, h2, hF⟩ := fb hF
  refine callVI C hK hA hP hD hS [0, 1] (c_X7_isRotor (a_this := a_this) (a_st := a_st) (a_now := a_now) (a_isKept := a_isKept) (a_draft := a_draft) (a_tape := a_tape) (a_wereAt := a_wereAt) (a_byPlace := a_byPlace) (a_lanes := a_lanes) (a_sizes := a_sizes) (a_cells := a_cells) (a_before := a_before) (v_hasSigns := v_hasSigns) (v_hasEvery := v_hasEvery) (v_taped := v_taped) (v_pos := v_pos) (v_begun := v_begun) (v_sort := v_sort) (v_value := v_value) (v_fault := v_fault) (v_wrongAt := v_wrongAt) (v_moved := v_moved) (v_slipTicks := v_slipTicks) (v_bestCode := v_bestCode) (v_bestMuch := v_bestMuch) (v_straightSum := v_straightSum) (v_movedSum := v_movedSum) (v_allWays := v_allWays) (v_torn := v_torn) (v_st := v_st) h2) cv_X7_isRotor kw4_177 rfl (by decide) rfl rfl rfl ⟨Nat.le_of_ble_eq_true rfl, Nat.le_of_ble_eq_true rfl⟩ ⟨Nat.zero_le _, Nat.zero_le _⟩ hl.1 rfl (Nat.le_of_ble_eq_true rfl) dX7_alter_42 (fun H locs hP hD hS => ?_)
  have hP : va_P D vwCl [(a_this, .inr (7, [.ref a_st, .ref a_now, .ref a_isKept, .ref a_draft, .int v_hasSigns, .int v_hasEvery, .ref a_tape, .int v_taped, .int v_pos, .int v_begun, .int v_sort, .int v_value, .int v_fault, .int v_wrongAt, .int v_moved, .int v_slipTicks, .int v_bestCode, .int v_bestMuch, .long v_straightSum, .long v_movedSum, .long v_allWays, .ref a_wereAt, .ref a_byPlace, .ref a_lanes, .ref a_sizes, .ref a_cells, .int v_torn, .ref a_before])), (a_st, .inl (cI, 168, .inl v_st))] H := hP
  have hD : va_D A [(a_this, .inr (7, [.ref a_st, .ref a_now, .ref a_isKept, .ref a_draft, .int v_hasSigns, .int v_hasEvery, .ref a_tape, .int v_taped, .int v_pos, .int v_begun, .int v_sort, .int v_value, .int v_fault, .int v_wrongAt, .int v_moved, .int v_slipTicks, .int v_bestCode, .int v_bestMuch, .long v_straightSum, .long v_movedSum, .long v_allWays, .ref a_wereAt, .ref a_byPlace, .ref a_lanes, .ref a_sizes, .ref a_cells, .int v_torn, .ref a_before])), (a_st, .inl (cI, 168, .inl v_st))] := hD
  refine lv_if_eq (tgt := 69) C.1 C.2.1 dX7_alter_45 (by decide) (fun c3 => ?_) (fun c3 => ?_)
  · have hF := fp hF c3
    refine lv_iconst (v := (-1)) C.1 C.2.1 dX7_alter_69 (by decide) ?_
    have hF := Option.some.inj hF
    subst hF
    exact retI C hr hlk hP hD hS dX7_alter_70
  · have hF := fn hF c3
    refine lv_iload C.1 C.2.1 dX7_alter_48 (lv_at hl 0 rfl) ?_
    refine lv_if_eq (tgt := 69) C.1 C.2.1 dX7_alter_50 (by decide) (fun c4 => ?_) (fun c4 => ?_)
    · have hF := fp hF c4
      refine lv_iconst (v := (-1)) C.1 C.2.1 dX7_alter_69 (by decide) ?_
      have hF := Option.some.inj hF
      subst hF
      exact retI C hr hlk hP hD hS dX7_alter_70
    · have hF := fn hF c4
      refine lv_aload_n C.1 C.2.1 dX7_alter_53 rfl (lv_at hl 1 rfl) ?_
      refine lv_bipush (v := 20) C.1 C.2.1 dX7_alter_54 (by decide) ?_
      refine lv_iconst (v := 4) C.1 C.2.1 dX7_alter_56 (by decide) ?_
      refine lv_iload_n C.1 C.2.1 dX7_alter_57 rfl (lv_at hl 2 rfl) ?_
      refine lv_imul C.1 C.2.1 dX7_alter_58 ?_
      refine lv_iadd C.1 C.2.1 dX7_alter_59 ?_
      refine lv_iload_n C.1 C.2.1 dX7_alter_60 rfl (lv_at hl 3 rfl) ?_
      refine lv_iadd C.1 C.2.1 dX7_alter_61 ?_
      refine lv_iload_n C.1 C.2.1 dX7_alter_62 rfl (lv_at hl 4 rfl) ?_
      obtain ⟨⟨r5, w6⟩, h7, hF⟩ := fb hF
      refine callVI C hK hA hP hD hS [0, 1] (c_X7_becomes (a_this := a_this) (a_st := a_st) (a_now := a_now) (a_isKept := a_isKept) (a_draft := a_draft) (a_tape := a_tape) (a_wereAt := a_wereAt) (a_byPlace := a_byPlace) (a_lanes := a_lanes) (a_sizes := a_sizes) (a_cells := a_cells) (a_before := a_before) (v_hasSigns := v_hasSigns) (v_hasEvery := v_hasEvery) (v_taped := v_taped) (v_pos := v_pos) (v_begun := v_begun) (v_sort := v_sort) (v_value := v_value) (v_fault := v_fault) (v_wrongAt := v_wrongAt) (v_moved := v_moved) (v_slipTicks := v_slipTicks) (v_bestCode := v_bestCode) (v_bestMuch := v_bestMuch) (v_straightSum := v_straightSum) (v_movedSum := v_movedSum) (v_allWays := v_allWays) (v_torn := v_torn) (v_st := v_st) h7) cv_X7_becomes kw4_194 rfl (by decide) rfl rfl rfl ⟨Nat.le_of_ble_eq_true rfl, Nat.le_of_ble_eq_true rfl⟩ ⟨Nat.zero_le _, Nat.zero_le _⟩ hl.1 rfl (Nat.le_of_ble_eq_true rfl) dX7_alter_63 (fun H locs hP hD hS => ?_)
      have hP : va_P D vwCl [(a_this, .inr (7, [.ref a_st, .ref a_now, .ref a_isKept, .ref a_draft, .int v_hasSigns, .int v_hasEvery, .ref a_tape, .int v_taped, .int v_pos, .int v_begun, .int v_sort, .int v_value, .int v_fault, .int v_wrongAt, .int v_moved, .int v_slipTicks, .int v_bestCode, .int v_bestMuch, .long v_straightSum, .long v_movedSum, .long v_allWays, .ref a_wereAt, .ref a_byPlace, .ref a_lanes, .ref a_sizes, .ref a_cells, .int v_torn, .ref a_before])), (a_st, .inl (cI, 168, .inl w6))] H := hP
      have hD : va_D A [(a_this, .inr (7, [.ref a_st, .ref a_now, .ref a_isKept, .ref a_draft, .int v_hasSigns, .int v_hasEvery, .ref a_tape, .int v_taped, .int v_pos, .int v_begun, .int v_sort, .int v_value, .int v_fault, .int v_wrongAt, .int v_moved, .int v_slipTicks, .int v_bestCode, .int v_bestMuch, .long v_straightSum, .long v_movedSum, .long v_allWays, .ref a_wereAt, .ref a_byPlace, .ref a_lanes, .ref a_sizes, .ref a_cells, .int v_torn, .ref a_before])), (a_st, .inl (cI, 168, .inl w6))] := hD
      refine lv_goto (tgt := 70) C.1 C.2.1 dX7_alter_66 (by decide) ?_
      have hF := Option.some.inj hF
      subst hF
      exact retI C hr hlk hP hD hS dX7_alter_70
set_option maxHeartbeats 4000000 in
set_option maxRecDepth 100000 in
theorem b_X7_alter_37 {l : Launch} {D : va_G} {cI cB cZ cR cM cS : ClassId} {a_this : Nat} {a_st : Nat} {a_now : Nat} {a_isKept : Nat} {a_draft : Nat} {a_tape : Nat} {a_wereAt : Nat} {a_byPlace : Nat} {a_lanes : Nat} {a_sizes : Nat} {a_cells : Nat} {a_before : Nat} {v_hasSigns : Int32} {v_hasEvery : Int32} {v_taped : Int32} {v_pos : Int32} {v_begun : Int32} {v_sort : Int32} {v_value : Int32} {v_fault : Int32} {v_wrongAt : Int32} {v_moved : Int32} {v_slipTicks : Int32} {v_bestCode : Int32} {v_bestMuch : Int32} {v_straightSum : Int64} {v_movedSum : Int64} {v_allWays : Int64} {v_torn : Int32} {p : Program} {e : Env} {s : State} {m : MethodId} {args : Array Value} {below : List Frame} {meth : Method} {c : Code} {A : Nat → Prop} {res : Int32 × (Nat → Int32)} (C : CX p m c cX7_alter 5 s args RX7) (hr : meth.sig.returnType = (some .int)) (hlk : meth.locks = false) (hK : KK D (TS cI cB cZ cR cM cS) s) (hA : ∀ q, s.heap.size ≤ q → A q) : ∀ (v_st : Nat → Int32) (x1 : Int32) (x2 : Int32) (x3 : Int32) (H : Heap) (locs : List Loc) (ls : Array Slot), F_X7_alter_37 v_st x1 x2 x3 = some res → va_P D vwCl [(a_this, .inr (7, [.ref a_st, .ref a_now, .ref a_isKept, .ref a_draft, .int v_hasSigns, .int v_hasEvery, .ref a_tape, .int v_taped, .int v_pos, .int v_begun, .int v_sort, .int v_value, .int v_fault, .int v_wrongAt, .int v_moved, .int v_slipTicks, .int v_bestCode, .int v_bestMuch, .long v_straightSum, .long v_movedSum, .long v_allWays, .ref a_wereAt, .ref a_byPlace, .ref a_lanes, .ref a_sizes, .ref a_cells, .int v_torn, .ref a_before])), (a_st, .inl (cI, 168, .inl v_st))] H → va_D A [(a_this, .inr (7, [.ref a_st, .ref a_now, .ref a_isKept, .ref a_draft, .int v_hasSigns, .int v_hasEvery, .ref a_tape, .int v_taped, .int v_pos, .int v_begun, .int v_sort, .int v_value, .int v_fault, .int v_wrongAt, .int v_moved, .int v_slipTicks, .int v_bestCode, .int v_bestMuch, .long v_straightSum, .long v_movedSum, .long v_allWays, .ref a_wereAt, .ref a_byPlace, .ref a_lanes, .ref a_sizes, .ref a_cells, .int v_torn, .ref a_before])), (a_st, .inl (cI, 168, .inl v_st))] → va_S A s.heap H locs → lv_has ls 5 [(0, .ref a_this), (1, .int x1), (2, .int x2), (3, .int x3)] → W p l e rm_X7_alter s m args below meth c H locs 0 0 (MQ below (va_Qi (fun x (_ : Unit) => x = res.1) (BW D A [(a_this, .inr (7, [.ref a_st, .ref a_now, .ref a_isKept, .ref a_draft, .int v_hasSigns, .int v_hasEvery, .ref a_tape, .int v_taped, .int v_pos, .int v_begun, .int v_sort, .int v_value, .int v_fault, .int v_wrongAt, .int v_moved, .int v_slipTicks, .int v_bestCode, .int v_bestMuch, .long v_straightSum, .long v_movedSum, .long v_allWays, .ref a_wereAt, .ref a_byPlace, .ref a_lanes, .ref a_sizes, .ref a_cells, .int v_torn, .ref a_before])), (a_st, .inl (cI, 168, .inl res.2))]) A) args s 0 0 A) (F0 m 37 ls []) := by
  intro v_st x1 x2 x3 H locs ls hF  hP hD hS hl
  unfold F_X7_alter_37 at hF
  refine lv_iconst (v := 0) C.1 C.2.1 dX7_alter_37 (by decide) ?_
  exact b_X7_alter_38 C hr hlk hK hA v_st x1 x2 x3 (0 : Int32) _ _ _ hF hP hD hS (lv_sub hl [0, 1, 2, 3] rfl)
set_option maxHeartbeats 4000000 in
set_option maxRecDepth 100000 in
theorem c0_X7_alter {l : Launch} {D : va_G} {cI cB cZ cR cM cS : ClassId} {a_this : Nat} {a_st : Nat} {a_now : Nat} {a_isKept : Nat} {a_draft : Nat} {a_tape : Nat} {a_wereAt : Nat} {a_byPlace : Nat} {a_lanes : Nat} {a_sizes : Nat} {a_cells : Nat} {a_before : Nat} {v_hasSigns : Int32} {v_hasEvery : Int32} {v_taped : Int32} {v_pos : Int32} {v_begun : Int32} {v_sort : Int32} {v_value : Int32} {v_fault : Int32} {v_wrongAt : Int32} {v_moved : Int32} {v_slipTicks : Int32} {v_bestCode : Int32} {v_bestMuch : Int32} {v_straightSum : Int64} {v_movedSum : Int64} {v_allWays : Int64} {v_torn : Int32} {v_st : Nat → Int32} {x1 : Int32} {x2 : Int32} {x3 : Int32} {res : Int32 × (Nat → Int32)} (hF : F_X7_alter v_st x1 x2 x3 = some res) : MI l yX7_alter cX7_alter 5 .int rm_X7_alter D (TS cI cB cZ cR cM cS) [.ref a_this, .int x1, .int x2, .int x3] [(a_this, .inr (7, [.ref a_st, .ref a_now, .ref a_isKept, .ref a_draft, .int v_hasSigns, .int v_hasEvery, .ref a_tape, .int v_taped, .int v_pos, .int v_begun, .int v_sort, .int v_value, .int v_fault, .int v_wrongAt, .int v_moved, .int v_slipTicks, .int v_bestCode, .int v_bestMuch, .long v_straightSum, .long v_movedSum, .long v_allWays, .ref a_wereAt, .ref a_byPlace, .ref a_lanes, .ref a_sizes, .ref a_cells, .int v_torn, .ref a_before])), (a_st, .inl (cI, 168, .inl v_st))] [(a_this, .inr (7, [.ref a_st, .ref a_now, .ref a_isKept, .ref a_draft, .int v_hasSigns, .int v_hasEvery, .ref a_tape, .int v_taped, .int v_pos, .int v_begun, .int v_sort, .int v_value, .int v_fault, .int v_wrongAt, .int v_moved, .int v_slipTicks, .int v_bestCode, .int v_bestMuch, .long v_straightSum, .long v_movedSum, .long v_allWays, .ref a_wereAt, .ref a_byPlace, .ref a_lanes, .ref a_sizes, .ref a_cells, .int v_torn, .ref a_before])), (a_st, .inl (cI, 168, .inl res.2))] res.1 :=
  MI_of (by decide) (Nat.le_of_ble_eq_true rfl) (fun p e s m args below meth c A ls C hr hlk hK hA hP hD hS hl => by
    have C : CX p m c cX7_alter 5 s args RX7 := C
    have hl : lv_has ls 5 [(0, .ref a_this), (1, .int x1), (2, .int x2), (3, .int x3)] := hl
    unfold F_X7_alter at hF
    refine lv_iload_n C.1 C.2.1 dX7_alter_0 rfl (lv_at hl 2 rfl) ?_
    refine lv_if_ne (tgt := 16) C.1 C.2.1 dX7_alter_1 (by decide) (fun c1 => ?_) (fun c1 => ?_)
    · have hF := fn hF c1
      refine lv_iload_n C.1 C.2.1 dX7_alter_16 rfl (lv_at hl 2 rfl) ?_
      refine lv_iconst (v := 1) C.1 C.2.1 dX7_alter_17 (by decide) ?_
      refine lv_icmp_ne (tgt := 37) C.1 C.2.1 dX7_alter_18 (by decide) (fun c2 => ?_) (fun c2 => ?_)
      · have hF := fn hF c2
        exact b_X7_alter_37 C hr hlk hK hA v_st x1 x2 x3 _ _ _ hF hP hD hS (lv_sub hl [0, 1, 2, 3] rfl)
      · have hF := fp hF c2
        refine lv_iload_n C.1 C.2.1 dX7_alter_21 rfl (lv_at hl 3 rfl) ?_
        refine lv_i2l (v := x3.toInt64) C.1 C.2.1 dX7_alter_22 rfl ?_
        refine lv_lconst (v := 0) C.1 C.2.1 dX7_alter_23 rfl ?_
        refine lv_ldc2 (v := 3) C.1 C.2.1 C.2.2.2.1 (C.2.2.2.2 _ kw4_193) dX7_alter_24 ?_
        obtain ⟨r3, h4, hF⟩ := fb hF
        refine callSI C hK hA hP hD hS (c_X7_in  h4) cs_X7_in kw4_76 ⟨Nat.le_of_ble_eq_true rfl, Nat.le_of_ble_eq_true rfl⟩ ⟨Nat.zero_le _, Nat.zero_le _⟩ hl.1 rfl (Nat.le_of_ble_eq_true rfl) dX7_alter_27 (fun H locs hP hD hS => ?_)
        refine lv_if_eq (tgt := 37) C.1 C.2.1 dX7_alter_30 (by decide) (fun c5 => ?_) (fun c5 => ?_)
        · have hF := fp hF c5
          exact b_X7_alter_37 C hr hlk hK hA v_st x1 x2 x3 _ _ _ hF hP hD hS (lv_sub hl [0, 1, 2, 3] rfl)
        · have hF := fn hF c5
          refine lv_iconst (v := 1) C.1 C.2.1 dX7_alter_33 (by decide) ?_
          refine lv_goto (tgt := 38) C.1 C.2.1 dX7_alter_34 (by decide) ?_
          exact b_X7_alter_38 C hr hlk hK hA v_st x1 x2 x3 (1 : Int32) _ _ _ hF hP hD hS (lv_sub hl [0, 1, 2, 3] rfl)
    · have hF := fp hF c1
      refine lv_iload_n C.1 C.2.1 dX7_alter_4 rfl (lv_at hl 3 rfl) ?_
      refine lv_i2l (v := x3.toInt64) C.1 C.2.1 dX7_alter_5 rfl ?_
      refine lv_lconst (v := 0) C.1 C.2.1 dX7_alter_6 rfl ?_
      refine lv_ldc2 (v := 3) C.1 C.2.1 C.2.2.2.1 (C.2.2.2.2 _ kw4_193) dX7_alter_7 ?_
      obtain ⟨r6, h7, hF⟩ := fb hF
      refine callSI C hK hA hP hD hS (c_X7_in  h7) cs_X7_in kw4_76 ⟨Nat.le_of_ble_eq_true rfl, Nat.le_of_ble_eq_true rfl⟩ ⟨Nat.zero_le _, Nat.zero_le _⟩ hl.1 rfl (Nat.le_of_ble_eq_true rfl) dX7_alter_10 (fun H locs hP hD hS => ?_)
      refine lv_goto (tgt := 38) C.1 C.2.1 dX7_alter_13 (by decide) ?_
      exact b_X7_alter_38 C hr hlk hK hA v_st x1 x2 x3 r6 _ _ _ hF hP hD hS (lv_sub hl [0, 1, 2, 3] rfl))
theorem c_X7_alter {l : Launch} {D : va_G} {cI cB cZ cR cM cS : ClassId} {a_this : Nat} {a_st : Nat} {a_now : Nat} {a_isKept : Nat} {a_draft : Nat} {a_tape : Nat} {a_wereAt : Nat} {a_byPlace : Nat} {a_lanes : Nat} {a_sizes : Nat} {a_cells : Nat} {a_before : Nat} {v_hasSigns : Int32} {v_hasEvery : Int32} {v_taped : Int32} {v_pos : Int32} {v_begun : Int32} {v_sort : Int32} {v_value : Int32} {v_fault : Int32} {v_wrongAt : Int32} {v_moved : Int32} {v_slipTicks : Int32} {v_bestCode : Int32} {v_bestMuch : Int32} {v_straightSum : Int64} {v_movedSum : Int64} {v_allWays : Int64} {v_torn : Int32} {v_st : Nat → Int32} {x1 : Int32} {x2 : Int32} {x3 : Int32} {r_ : Int32} {v_st' : Nat → Int32} (hF : F_X7_alter v_st x1 x2 x3 = some (r_, v_st')) : MI l yX7_alter cX7_alter 5 .int rm_X7_alter D (TS cI cB cZ cR cM cS) [.ref a_this, .int x1, .int x2, .int x3] [(a_this, .inr (7, [.ref a_st, .ref a_now, .ref a_isKept, .ref a_draft, .int v_hasSigns, .int v_hasEvery, .ref a_tape, .int v_taped, .int v_pos, .int v_begun, .int v_sort, .int v_value, .int v_fault, .int v_wrongAt, .int v_moved, .int v_slipTicks, .int v_bestCode, .int v_bestMuch, .long v_straightSum, .long v_movedSum, .long v_allWays, .ref a_wereAt, .ref a_byPlace, .ref a_lanes, .ref a_sizes, .ref a_cells, .int v_torn, .ref a_before])), (a_st, .inl (cI, 168, .inl v_st))] [(a_this, .inr (7, [.ref a_st, .ref a_now, .ref a_isKept, .ref a_draft, .int v_hasSigns, .int v_hasEvery, .ref a_tape, .int v_taped, .int v_pos, .int v_begun, .int v_sort, .int v_value, .int v_fault, .int v_wrongAt, .int v_moved, .int v_slipTicks, .int v_bestCode, .int v_bestMuch, .long v_straightSum, .long v_movedSum, .long v_allWays, .ref a_wereAt, .ref a_byPlace, .ref a_lanes, .ref a_sizes, .ref a_cells, .int v_torn, .ref a_before])), (a_st, .inl (cI, 168, .inl v_st'))] r_ :=
  c0_X7_alter (res := (r_, v_st')) hF
def rm_X7_turn : Room := { frames := 2, cells := 0, slots := 0, locals := 46 }
theorem cv_X7_turn : CV yX7_turn cX7_turn 4 (some .int) rm_X7_turn RX7 2 := ⟨kw4_199, kw4_200, kw1_8, kw4_201, by decide +kernel, rfl, rfl⟩
set_option maxHeartbeats 4000000 in
set_option maxRecDepth 100000 in
theorem c0_X7_turn {l : Launch} {D : va_G} {cI cB cZ cR cM cS : ClassId} {a_this : Nat} {a_st : Nat} {a_now : Nat} {a_isKept : Nat} {a_draft : Nat} {a_tape : Nat} {a_wereAt : Nat} {a_byPlace : Nat} {a_lanes : Nat} {a_sizes : Nat} {a_cells : Nat} {a_before : Nat} {v_hasSigns : Int32} {v_hasEvery : Int32} {v_taped : Int32} {v_pos : Int32} {v_begun : Int32} {v_sort : Int32} {v_value : Int32} {v_fault : Int32} {v_wrongAt : Int32} {v_moved : Int32} {v_slipTicks : Int32} {v_bestCode : Int32} {v_bestMuch : Int32} {v_straightSum : Int64} {v_movedSum : Int64} {v_allWays : Int64} {v_torn : Int32} {v_st : Nat → Int32} {x1 : Int32} {x2 : Int32} {res : Int32 × (Nat → Int32)} (hF : F_X7_turn v_st x1 x2 = some res) : MI l yX7_turn cX7_turn 4 .int rm_X7_turn D (TS cI cB cZ cR cM cS) [.ref a_this, .int x1, .int x2] [(a_this, .inr (7, [.ref a_st, .ref a_now, .ref a_isKept, .ref a_draft, .int v_hasSigns, .int v_hasEvery, .ref a_tape, .int v_taped, .int v_pos, .int v_begun, .int v_sort, .int v_value, .int v_fault, .int v_wrongAt, .int v_moved, .int v_slipTicks, .int v_bestCode, .int v_bestMuch, .long v_straightSum, .long v_movedSum, .long v_allWays, .ref a_wereAt, .ref a_byPlace, .ref a_lanes, .ref a_sizes, .ref a_cells, .int v_torn, .ref a_before])), (a_st, .inl (cI, 168, .inl v_st))] [(a_this, .inr (7, [.ref a_st, .ref a_now, .ref a_isKept, .ref a_draft, .int v_hasSigns, .int v_hasEvery, .ref a_tape, .int v_taped, .int v_pos, .int v_begun, .int v_sort, .int v_value, .int v_fault, .int v_wrongAt, .int v_moved, .int v_slipTicks, .int v_bestCode, .int v_bestMuch, .long v_straightSum, .long v_movedSum, .long v_allWays, .ref a_wereAt, .ref a_byPlace, .ref a_lanes, .ref a_sizes, .ref a_cells, .int v_torn, .ref a_before])), (a_st, .inl (cI, 168, .inl res.2))] res.1 :=
  MI_of (by decide) (Nat.le_of_ble_eq_true rfl) (fun p e s m args below meth c A ls C hr hlk hK hA hP hD hS hl => by
    have C : CX p m c cX7_turn 4 s args RX7 := C
    have hl : lv_has ls 4 [(0, .ref a_this), (1, .int x1), (2, .int x2)] := hl
    unfold F_X7_turn at hF
    refine lv_aload_n C.1 C.2.1 dX7_turn_0 rfl (lv_at hl 0 rfl) ?_
    refine lv_iload_n C.1 C.2.1 dX7_turn_1 rfl (lv_at hl 1 rfl) ?_
    obtain ⟨r1, h2, hF⟩ := fb hF
    refine callVI C hK hA hP hD hS [0, 1] (c_X7_isRotor (a_this := a_this) (a_st := a_st) (a_now := a_now) (a_isKept := a_isKept) (a_draft := a_draft) (a_tape := a_tape) (a_wereAt := a_wereAt) (a_byPlace := a_byPlace) (a_lanes := a_lanes) (a_sizes := a_sizes) (a_cells := a_cells) (a_before := a_before) (v_hasSigns := v_hasSigns) (v_hasEvery := v_hasEvery) (v_taped := v_taped) (v_pos := v_pos) (v_begun := v_begun) (v_sort := v_sort) (v_value := v_value) (v_fault := v_fault) (v_wrongAt := v_wrongAt) (v_moved := v_moved) (v_slipTicks := v_slipTicks) (v_bestCode := v_bestCode) (v_bestMuch := v_bestMuch) (v_straightSum := v_straightSum) (v_movedSum := v_movedSum) (v_allWays := v_allWays) (v_torn := v_torn) (v_st := v_st) h2) cv_X7_isRotor kw4_177 rfl (by decide) rfl rfl rfl ⟨Nat.le_of_ble_eq_true rfl, Nat.le_of_ble_eq_true rfl⟩ ⟨Nat.zero_le _, Nat.zero_le _⟩ hl.1 rfl (Nat.le_of_ble_eq_true rfl) dX7_turn_2 (fun H locs hP hD hS => ?_)
    have hP : va_P D vwCl [(a_this, .inr (7, [.ref a_st, .ref a_now, .ref a_isKept, .ref a_draft, .int v_hasSigns, .int v_hasEvery, .ref a_tape, .int v_taped, .int v_pos, .int v_begun, .int v_sort, .int v_value, .int v_fault, .int v_wrongAt, .int v_moved, .int v_slipTicks, .int v_bestCode, .int v_bestMuch, .long v_straightSum, .long v_movedSum, .long v_allWays, .ref a_wereAt, .ref a_byPlace, .ref a_lanes, .ref a_sizes, .ref a_cells, .int v_torn, .ref a_before])), (a_st, .inl (cI, 168, .inl v_st))] H := hP
    have hD : va_D A [(a_this, .inr (7, [.ref a_st, .ref a_now, .ref a_isKept, .ref a_draft, .int v_hasSigns, .int v_hasEvery, .ref a_tape, .int v_taped, .int v_pos, .int v_begun, .int v_sort, .int v_value, .int v_fault, .int v_wrongAt, .int v_moved, .int v_slipTicks, .int v_bestCode, .int v_bestMuch, .long v_straightSum, .long v_movedSum, .long v_allWays, .ref a_wereAt, .ref a_byPlace, .ref a_lanes, .ref a_sizes, .ref a_cells, .int v_torn, .ref a_before])), (a_st, .inl (cI, 168, .inl v_st))] := hD
    refine lv_if_eq (tgt := 20) C.1 C.2.1 dX7_turn_5 (by decide) (fun c3 => ?_) (fun c3 => ?_)
    · have hF := fp hF c3
      refine lv_iconst (v := (-1)) C.1 C.2.1 dX7_turn_20 (by decide) ?_
      have hF := Option.some.inj hF
      subst hF
      exact retI C hr hlk hP hD hS dX7_turn_21
    · have hF := fn hF c3
      refine lv_iload_n C.1 C.2.1 dX7_turn_8 rfl (lv_at hl 2 rfl) ?_
      refine lv_i2l (v := x2.toInt64) C.1 C.2.1 dX7_turn_9 rfl ?_
      refine lv_lconst (v := 0) C.1 C.2.1 dX7_turn_10 rfl ?_
      refine lv_ldc2 (v := 16) C.1 C.2.1 C.2.2.2.1 (C.2.2.2.2 _ kw4_202) dX7_turn_11 ?_
      obtain ⟨r4, h5, hF⟩ := fb hF
      refine callSI C hK hA hP hD hS (c_X7_in  h5) cs_X7_in kw4_76 ⟨Nat.le_of_ble_eq_true rfl, Nat.le_of_ble_eq_true rfl⟩ ⟨Nat.zero_le _, Nat.zero_le _⟩ hl.1 rfl (Nat.le_of_ble_eq_true rfl) dX7_turn_14 (fun H locs hP hD hS => ?_)
      refine lv_if_ne (tgt := 22) C.1 C.2.1 dX7_turn_17 (by decide) (fun c6 => ?_) (fun c6 => ?_)
      · have hF := fn hF c6
        refine lv_bipush (v := 20) C.1 C.2.1 dX7_turn_22 (by decide) ?_
        refine lv_iconst (v := 4) C.1 C.2.1 dX7_turn_24 (by decide) ?_
        refine lv_iload_n C.1 C.2.1 dX7_turn_25 rfl (lv_at hl 1 rfl) ?_
        refine lv_imul C.1 C.2.1 dX7_turn_26 ?_
        refine lv_iadd C.1 C.2.1 dX7_turn_27 ?_
        refine lv_istore_n (lv' := [(3, .int ((20 : Int32) + ((4 : Int32) * x1))), (0, .ref a_this), (1, .int x1), (2, .int x2)]) C.1 C.2.1 dX7_turn_28 rfl hl (by decide) rfl (fun ls hl => ?_)
        refine lv_aload_n C.1 C.2.1 dX7_turn_29 rfl (lv_at hl 1 rfl) ?_
        refine gf_7_7_st C hK hP 0 rfl rfl dX7_turn_30 ?_
        refine lv_iload_n C.1 C.2.1 dX7_turn_33 rfl (lv_at hl 0 rfl) ?_
        refine lv_iconst (v := 2) C.1 C.2.1 dX7_turn_34 (by decide) ?_
        refine lv_iadd C.1 C.2.1 dX7_turn_35 ?_
        obtain ⟨h7, hF⟩ := fk hF
        refine va_iald C.1 C.2.1 hK.1 hP 1 0 rfl rfl h7 dX7_turn_36 ?_
        refine lv_iload_n C.1 C.2.1 dX7_turn_37 rfl (lv_at hl 3 rfl) ?_
        refine lv_iadd C.1 C.2.1 dX7_turn_38 ?_
        refine lv_bipush (v := 8) C.1 C.2.1 dX7_turn_39 (by decide) ?_
        refine lv_isub C.1 C.2.1 dX7_turn_41 ?_
        obtain ⟨r8, h9, hF⟩ := fb hF
        refine callSI C hK hA hP hD hS (c_X7_amount  h9) cs_X7_amount kw4_159 ⟨Nat.le_of_ble_eq_true rfl, Nat.le_of_ble_eq_true rfl⟩ ⟨Nat.zero_le _, Nat.zero_le _⟩ hl.1 rfl (Nat.le_of_ble_eq_true rfl) dX7_turn_42 (fun H locs hP hD hS => ?_)
        refine lv_sipush (v := 30000) C.1 C.2.1 dX7_turn_45 (by decide) ?_
        refine lv_icmp_le (tgt := 54) C.1 C.2.1 dX7_turn_48 (by decide) (fun c10 => ?_) (fun c10 => ?_)
        · have hF := fp hF c10
          refine lv_aload_n C.1 C.2.1 dX7_turn_54 rfl (lv_at hl 1 rfl) ?_
          refine gf_7_7_st C hK hP 0 rfl rfl dX7_turn_55 ?_
          refine lv_iload_n C.1 C.2.1 dX7_turn_58 rfl (lv_at hl 0 rfl) ?_
          refine lv_iconst (v := 2) C.1 C.2.1 dX7_turn_59 (by decide) ?_
          refine lv_iadd C.1 C.2.1 dX7_turn_60 ?_
          refine lv_dup2_11 C.1 C.2.1 dX7_turn_61 rfl rfl ?_
          obtain ⟨h11, hF⟩ := fk hF
          refine va_iald C.1 C.2.1 hK.1 hP 1 0 rfl rfl h11 dX7_turn_62 ?_
          refine lv_iload_n C.1 C.2.1 dX7_turn_63 rfl (lv_at hl 3 rfl) ?_
          refine lv_bipush (v := 8) C.1 C.2.1 dX7_turn_64 (by decide) ?_
          refine lv_isub C.1 C.2.1 dX7_turn_66 ?_
          refine lv_iadd C.1 C.2.1 dX7_turn_67 ?_
          obtain ⟨h12, hF⟩ := fk hF
          refine va_iast C.1 C.2.1 hK.1 hP hD hS 1 0 rfl rfl h12 dX7_turn_68 (fun H locs hP hD hS => ?_)
          have hP : va_P D vwCl [(a_this, .inr (7, [.ref a_st, .ref a_now, .ref a_isKept, .ref a_draft, .int v_hasSigns, .int v_hasEvery, .ref a_tape, .int v_taped, .int v_pos, .int v_begun, .int v_sort, .int v_value, .int v_fault, .int v_wrongAt, .int v_moved, .int v_slipTicks, .int v_bestCode, .int v_bestMuch, .long v_straightSum, .long v_movedSum, .long v_allWays, .ref a_wereAt, .ref a_byPlace, .ref a_lanes, .ref a_sizes, .ref a_cells, .int v_torn, .ref a_before])), (a_st, .inl (cI, 168, .inl (upd v_st (((20 : Int32) + ((4 : Int32) * x1)) + (2 : Int32)).toNatClampNeg ((v_st (((20 : Int32) + ((4 : Int32) * x1)) + (2 : Int32)).toNatClampNeg) + (x2 - (8 : Int32))))))] H := hP
          have hD : va_D A [(a_this, .inr (7, [.ref a_st, .ref a_now, .ref a_isKept, .ref a_draft, .int v_hasSigns, .int v_hasEvery, .ref a_tape, .int v_taped, .int v_pos, .int v_begun, .int v_sort, .int v_value, .int v_fault, .int v_wrongAt, .int v_moved, .int v_slipTicks, .int v_bestCode, .int v_bestMuch, .long v_straightSum, .long v_movedSum, .long v_allWays, .ref a_wereAt, .ref a_byPlace, .ref a_lanes, .ref a_sizes, .ref a_cells, .int v_torn, .ref a_before])), (a_st, .inl (cI, 168, .inl (upd v_st (((20 : Int32) + ((4 : Int32) * x1)) + (2 : Int32)).toNatClampNeg ((v_st (((20 : Int32) + ((4 : Int32) * x1)) + (2 : Int32)).toNatClampNeg) + (x2 - (8 : Int32))))))] := hD
          refine lv_aload_n C.1 C.2.1 dX7_turn_69 rfl (lv_at hl 1 rfl) ?_
          refine gf_7_7_st C hK hP 0 rfl rfl dX7_turn_70 ?_
          refine lv_iload_n C.1 C.2.1 dX7_turn_73 rfl (lv_at hl 0 rfl) ?_
          refine lv_iconst (v := 3) C.1 C.2.1 dX7_turn_74 (by decide) ?_
          refine lv_iadd C.1 C.2.1 dX7_turn_75 ?_
          refine lv_iconst (v := 0) C.1 C.2.1 dX7_turn_76 (by decide) ?_
          obtain ⟨h13, hF⟩ := fk hF
          refine va_iast C.1 C.2.1 hK.1 hP hD hS 1 0 rfl rfl h13 dX7_turn_77 (fun H locs hP hD hS => ?_)
          have hP : va_P D vwCl [(a_this, .inr (7, [.ref a_st, .ref a_now, .ref a_isKept, .ref a_draft, .int v_hasSigns, .int v_hasEvery, .ref a_tape, .int v_taped, .int v_pos, .int v_begun, .int v_sort, .int v_value, .int v_fault, .int v_wrongAt, .int v_moved, .int v_slipTicks, .int v_bestCode, .int v_bestMuch, .long v_straightSum, .long v_movedSum, .long v_allWays, .ref a_wereAt, .ref a_byPlace, .ref a_lanes, .ref a_sizes, .ref a_cells, .int v_torn, .ref a_before])), (a_st, .inl (cI, 168, .inl (upd (upd v_st (((20 : Int32) + ((4 : Int32) * x1)) + (2 : Int32)).toNatClampNeg ((v_st (((20 : Int32) + ((4 : Int32) * x1)) + (2 : Int32)).toNatClampNeg) + (x2 - (8 : Int32)))) (((20 : Int32) + ((4 : Int32) * x1)) + (3 : Int32)).toNatClampNeg (0 : Int32))))] H := hP
          have hD : va_D A [(a_this, .inr (7, [.ref a_st, .ref a_now, .ref a_isKept, .ref a_draft, .int v_hasSigns, .int v_hasEvery, .ref a_tape, .int v_taped, .int v_pos, .int v_begun, .int v_sort, .int v_value, .int v_fault, .int v_wrongAt, .int v_moved, .int v_slipTicks, .int v_bestCode, .int v_bestMuch, .long v_straightSum, .long v_movedSum, .long v_allWays, .ref a_wereAt, .ref a_byPlace, .ref a_lanes, .ref a_sizes, .ref a_cells, .int v_torn, .ref a_before])), (a_st, .inl (cI, 168, .inl (upd (upd v_st (((20 : Int32) + ((4 : Int32) * x1)) + (2 : Int32)).toNatClampNeg ((v_st (((20 : Int32) + ((4 : Int32) * x1)) + (2 : Int32)).toNatClampNeg) + (x2 - (8 : Int32)))) (((20 : Int32) + ((4 : Int32) * x1)) + (3 : Int32)).toNatClampNeg (0 : Int32))))] := hD
          refine lv_ldc (v := 100000) C.1 C.2.1 C.2.2.2.1 (C.2.2.2.2 _ kw4_139) dX7_turn_78 ?_
          refine lv_aload_n C.1 C.2.1 dX7_turn_80 rfl (lv_at hl 1 rfl) ?_
          refine gf_7_7_st C hK hP 0 rfl rfl dX7_turn_81 ?_
          refine lv_iload_n C.1 C.2.1 dX7_turn_84 rfl (lv_at hl 0 rfl) ?_
          refine lv_iconst (v := 2) C.1 C.2.1 dX7_turn_85 (by decide) ?_
          refine lv_iadd C.1 C.2.1 dX7_turn_86 ?_
          obtain ⟨h14, hF⟩ := fk hF
          refine va_iald C.1 C.2.1 hK.1 hP 1 0 rfl rfl h14 dX7_turn_87 ?_
          refine lv_iadd C.1 C.2.1 dX7_turn_88 ?_
          have hF := Option.some.inj hF
          subst hF
          exact retI C hr hlk hP hD hS dX7_turn_89
        · have hF := fn hF c10
          refine lv_bipush (v := (-3)) C.1 C.2.1 dX7_turn_51 (by decide) ?_
          have hF := Option.some.inj hF
          subst hF
          exact retI C hr hlk hP hD hS dX7_turn_53
      · have hF := fp hF c6
        refine lv_iconst (v := (-1)) C.1 C.2.1 dX7_turn_20 (by decide) ?_
        have hF := Option.some.inj hF
        subst hF
        exact retI C hr hlk hP hD hS dX7_turn_21)
theorem c_X7_turn {l : Launch} {D : va_G} {cI cB cZ cR cM cS : ClassId} {a_this : Nat} {a_st : Nat} {a_now : Nat} {a_isKept : Nat} {a_draft : Nat} {a_tape : Nat} {a_wereAt : Nat} {a_byPlace : Nat} {a_lanes : Nat} {a_sizes : Nat} {a_cells : Nat} {a_before : Nat} {v_hasSigns : Int32} {v_hasEvery : Int32} {v_taped : Int32} {v_pos : Int32} {v_begun : Int32} {v_sort : Int32} {v_value : Int32} {v_fault : Int32} {v_wrongAt : Int32} {v_moved : Int32} {v_slipTicks : Int32} {v_bestCode : Int32} {v_bestMuch : Int32} {v_straightSum : Int64} {v_movedSum : Int64} {v_allWays : Int64} {v_torn : Int32} {v_st : Nat → Int32} {x1 : Int32} {x2 : Int32} {r_ : Int32} {v_st' : Nat → Int32} (hF : F_X7_turn v_st x1 x2 = some (r_, v_st')) : MI l yX7_turn cX7_turn 4 .int rm_X7_turn D (TS cI cB cZ cR cM cS) [.ref a_this, .int x1, .int x2] [(a_this, .inr (7, [.ref a_st, .ref a_now, .ref a_isKept, .ref a_draft, .int v_hasSigns, .int v_hasEvery, .ref a_tape, .int v_taped, .int v_pos, .int v_begun, .int v_sort, .int v_value, .int v_fault, .int v_wrongAt, .int v_moved, .int v_slipTicks, .int v_bestCode, .int v_bestMuch, .long v_straightSum, .long v_movedSum, .long v_allWays, .ref a_wereAt, .ref a_byPlace, .ref a_lanes, .ref a_sizes, .ref a_cells, .int v_torn, .ref a_before])), (a_st, .inl (cI, 168, .inl v_st))] [(a_this, .inr (7, [.ref a_st, .ref a_now, .ref a_isKept, .ref a_draft, .int v_hasSigns, .int v_hasEvery, .ref a_tape, .int v_taped, .int v_pos, .int v_begun, .int v_sort, .int v_value, .int v_fault, .int v_wrongAt, .int v_moved, .int v_slipTicks, .int v_bestCode, .int v_bestMuch, .long v_straightSum, .long v_movedSum, .long v_allWays, .ref a_wereAt, .ref a_byPlace, .ref a_lanes, .ref a_sizes, .ref a_cells, .int v_torn, .ref a_before])), (a_st, .inl (cI, 168, .inl v_st'))] r_ :=
  c0_X7_turn (res := (r_, v_st')) hF
def rm_X7_set : Room := { frames := 2, cells := 0, slots := 0, locals := 46 }
theorem cv_X7_set : CV yX7_set cX7_set 3 (some .int) rm_X7_set RX7 2 := ⟨kw4_204, kw4_205, kw1_8, kw4_206, by decide +kernel, rfl, rfl⟩
set_option maxHeartbeats 4000000 in
set_option maxRecDepth 100000 in
theorem c0_X7_set {l : Launch} {D : va_G} {cI cB cZ cR cM cS : ClassId} {a_this : Nat} {a_st : Nat} {a_now : Nat} {a_isKept : Nat} {a_draft : Nat} {a_tape : Nat} {a_wereAt : Nat} {a_byPlace : Nat} {a_lanes : Nat} {a_sizes : Nat} {a_cells : Nat} {a_before : Nat} {v_hasSigns : Int32} {v_hasEvery : Int32} {v_taped : Int32} {v_pos : Int32} {v_begun : Int32} {v_sort : Int32} {v_value : Int32} {v_fault : Int32} {v_wrongAt : Int32} {v_moved : Int32} {v_slipTicks : Int32} {v_bestCode : Int32} {v_bestMuch : Int32} {v_straightSum : Int64} {v_movedSum : Int64} {v_allWays : Int64} {v_torn : Int32} {v_st : Nat → Int32} {x1 : Int32} {x2 : Int32} {res : Int32 × (Nat → Int32)} (hF : F_X7_set v_st x1 x2 = some res) : MI l yX7_set cX7_set 3 .int rm_X7_set D (TS cI cB cZ cR cM cS) [.ref a_this, .int x1, .int x2] [(a_this, .inr (7, [.ref a_st, .ref a_now, .ref a_isKept, .ref a_draft, .int v_hasSigns, .int v_hasEvery, .ref a_tape, .int v_taped, .int v_pos, .int v_begun, .int v_sort, .int v_value, .int v_fault, .int v_wrongAt, .int v_moved, .int v_slipTicks, .int v_bestCode, .int v_bestMuch, .long v_straightSum, .long v_movedSum, .long v_allWays, .ref a_wereAt, .ref a_byPlace, .ref a_lanes, .ref a_sizes, .ref a_cells, .int v_torn, .ref a_before])), (a_st, .inl (cI, 168, .inl v_st))] [(a_this, .inr (7, [.ref a_st, .ref a_now, .ref a_isKept, .ref a_draft, .int v_hasSigns, .int v_hasEvery, .ref a_tape, .int v_taped, .int v_pos, .int v_begun, .int v_sort, .int v_value, .int v_fault, .int v_wrongAt, .int v_moved, .int v_slipTicks, .int v_bestCode, .int v_bestMuch, .long v_straightSum, .long v_movedSum, .long v_allWays, .ref a_wereAt, .ref a_byPlace, .ref a_lanes, .ref a_sizes, .ref a_cells, .int v_torn, .ref a_before])), (a_st, .inl (cI, 168, .inl res.2))] res.1 :=
  MI_of (by decide) (Nat.le_of_ble_eq_true rfl) (fun p e s m args below meth c A ls C hr hlk hK hA hP hD hS hl => by
    have C : CX p m c cX7_set 3 s args RX7 := C
    have hl : lv_has ls 3 [(0, .ref a_this), (1, .int x1), (2, .int x2)] := hl
    unfold F_X7_set at hF
    refine lv_aload_n C.1 C.2.1 dX7_set_0 rfl (lv_at hl 0 rfl) ?_
    refine lv_iload_n C.1 C.2.1 dX7_set_1 rfl (lv_at hl 1 rfl) ?_
    obtain ⟨r1, h2, hF⟩ := fb hF
    refine callVI C hK hA hP hD hS [0, 1] (c_X7_isSign (a_this := a_this) (a_st := a_st) (a_now := a_now) (a_isKept := a_isKept) (a_draft := a_draft) (a_tape := a_tape) (a_wereAt := a_wereAt) (a_byPlace := a_byPlace) (a_lanes := a_lanes) (a_sizes := a_sizes) (a_cells := a_cells) (a_before := a_before) (v_hasSigns := v_hasSigns) (v_hasEvery := v_hasEvery) (v_taped := v_taped) (v_pos := v_pos) (v_begun := v_begun) (v_sort := v_sort) (v_value := v_value) (v_fault := v_fault) (v_wrongAt := v_wrongAt) (v_moved := v_moved) (v_slipTicks := v_slipTicks) (v_bestCode := v_bestCode) (v_bestMuch := v_bestMuch) (v_straightSum := v_straightSum) (v_movedSum := v_movedSum) (v_allWays := v_allWays) (v_torn := v_torn) (v_st := v_st) h2) cv_X7_isSign kw4_185 rfl (by decide) rfl rfl rfl ⟨Nat.le_of_ble_eq_true rfl, Nat.le_of_ble_eq_true rfl⟩ ⟨Nat.zero_le _, Nat.zero_le _⟩ hl.1 rfl (Nat.le_of_ble_eq_true rfl) dX7_set_2 (fun H locs hP hD hS => ?_)
    have hP : va_P D vwCl [(a_this, .inr (7, [.ref a_st, .ref a_now, .ref a_isKept, .ref a_draft, .int v_hasSigns, .int v_hasEvery, .ref a_tape, .int v_taped, .int v_pos, .int v_begun, .int v_sort, .int v_value, .int v_fault, .int v_wrongAt, .int v_moved, .int v_slipTicks, .int v_bestCode, .int v_bestMuch, .long v_straightSum, .long v_movedSum, .long v_allWays, .ref a_wereAt, .ref a_byPlace, .ref a_lanes, .ref a_sizes, .ref a_cells, .int v_torn, .ref a_before])), (a_st, .inl (cI, 168, .inl v_st))] H := hP
    have hD : va_D A [(a_this, .inr (7, [.ref a_st, .ref a_now, .ref a_isKept, .ref a_draft, .int v_hasSigns, .int v_hasEvery, .ref a_tape, .int v_taped, .int v_pos, .int v_begun, .int v_sort, .int v_value, .int v_fault, .int v_wrongAt, .int v_moved, .int v_slipTicks, .int v_bestCode, .int v_bestMuch, .long v_straightSum, .long v_movedSum, .long v_allWays, .ref a_wereAt, .ref a_byPlace, .ref a_lanes, .ref a_sizes, .ref a_cells, .int v_torn, .ref a_before])), (a_st, .inl (cI, 168, .inl v_st))] := hD
    refine lv_if_eq (tgt := 31) C.1 C.2.1 dX7_set_5 (by decide) (fun c3 => ?_) (fun c3 => ?_)
    · have hF := fp hF c3
      refine lv_iconst (v := (-1)) C.1 C.2.1 dX7_set_31 (by decide) ?_
      have hF := Option.some.inj hF
      subst hF
      exact retI C hr hlk hP hD hS dX7_set_32
    · have hF := fn hF c3
      refine lv_iload_n C.1 C.2.1 dX7_set_8 rfl (lv_at hl 2 rfl) ?_
      refine lv_i2l (v := x2.toInt64) C.1 C.2.1 dX7_set_9 rfl ?_
      refine lv_lconst (v := 0) C.1 C.2.1 dX7_set_10 rfl ?_
      refine lv_ldc2 (v := 3) C.1 C.2.1 C.2.2.2.1 (C.2.2.2.2 _ kw4_193) dX7_set_11 ?_
      obtain ⟨r4, h5, hF⟩ := fb hF
      refine callSI C hK hA hP hD hS (c_X7_in  h5) cs_X7_in kw4_76 ⟨Nat.le_of_ble_eq_true rfl, Nat.le_of_ble_eq_true rfl⟩ ⟨Nat.zero_le _, Nat.zero_le _⟩ hl.1 rfl (Nat.le_of_ble_eq_true rfl) dX7_set_14 (fun H locs hP hD hS => ?_)
      refine lv_if_eq (tgt := 31) C.1 C.2.1 dX7_set_17 (by decide) (fun c6 => ?_) (fun c6 => ?_)
      · have hF := fp hF c6
        refine lv_iconst (v := (-1)) C.1 C.2.1 dX7_set_31 (by decide) ?_
        have hF := Option.some.inj hF
        subst hF
        exact retI C hr hlk hP hD hS dX7_set_32
      · have hF := fn hF c6
        refine lv_aload_n C.1 C.2.1 dX7_set_20 rfl (lv_at hl 0 rfl) ?_
        refine lv_iconst (v := 1) C.1 C.2.1 dX7_set_21 (by decide) ?_
        refine lv_iload_n C.1 C.2.1 dX7_set_22 rfl (lv_at hl 1 rfl) ?_
        refine lv_iadd C.1 C.2.1 dX7_set_23 ?_
        refine lv_iload_n C.1 C.2.1 dX7_set_24 rfl (lv_at hl 2 rfl) ?_
        obtain ⟨⟨r7, w8⟩, h9, hF⟩ := fb hF
        refine callVI C hK hA hP hD hS [0, 1] (c_X7_becomes (a_this := a_this) (a_st := a_st) (a_now := a_now) (a_isKept := a_isKept) (a_draft := a_draft) (a_tape := a_tape) (a_wereAt := a_wereAt) (a_byPlace := a_byPlace) (a_lanes := a_lanes) (a_sizes := a_sizes) (a_cells := a_cells) (a_before := a_before) (v_hasSigns := v_hasSigns) (v_hasEvery := v_hasEvery) (v_taped := v_taped) (v_pos := v_pos) (v_begun := v_begun) (v_sort := v_sort) (v_value := v_value) (v_fault := v_fault) (v_wrongAt := v_wrongAt) (v_moved := v_moved) (v_slipTicks := v_slipTicks) (v_bestCode := v_bestCode) (v_bestMuch := v_bestMuch) (v_straightSum := v_straightSum) (v_movedSum := v_movedSum) (v_allWays := v_allWays) (v_torn := v_torn) (v_st := v_st) h9) cv_X7_becomes kw4_194 rfl (by decide) rfl rfl rfl ⟨Nat.le_of_ble_eq_true rfl, Nat.le_of_ble_eq_true rfl⟩ ⟨Nat.zero_le _, Nat.zero_le _⟩ hl.1 rfl (Nat.le_of_ble_eq_true rfl) dX7_set_25 (fun H locs hP hD hS => ?_)
        have hP : va_P D vwCl [(a_this, .inr (7, [.ref a_st, .ref a_now, .ref a_isKept, .ref a_draft, .int v_hasSigns, .int v_hasEvery, .ref a_tape, .int v_taped, .int v_pos, .int v_begun, .int v_sort, .int v_value, .int v_fault, .int v_wrongAt, .int v_moved, .int v_slipTicks, .int v_bestCode, .int v_bestMuch, .long v_straightSum, .long v_movedSum, .long v_allWays, .ref a_wereAt, .ref a_byPlace, .ref a_lanes, .ref a_sizes, .ref a_cells, .int v_torn, .ref a_before])), (a_st, .inl (cI, 168, .inl w8))] H := hP
        have hD : va_D A [(a_this, .inr (7, [.ref a_st, .ref a_now, .ref a_isKept, .ref a_draft, .int v_hasSigns, .int v_hasEvery, .ref a_tape, .int v_taped, .int v_pos, .int v_begun, .int v_sort, .int v_value, .int v_fault, .int v_wrongAt, .int v_moved, .int v_slipTicks, .int v_bestCode, .int v_bestMuch, .long v_straightSum, .long v_movedSum, .long v_allWays, .ref a_wereAt, .ref a_byPlace, .ref a_lanes, .ref a_sizes, .ref a_cells, .int v_torn, .ref a_before])), (a_st, .inl (cI, 168, .inl w8))] := hD
        refine lv_goto (tgt := 32) C.1 C.2.1 dX7_set_28 (by decide) ?_
        have hF := Option.some.inj hF
        subst hF
        exact retI C hr hlk hP hD hS dX7_set_32)
theorem c_X7_set {l : Launch} {D : va_G} {cI cB cZ cR cM cS : ClassId} {a_this : Nat} {a_st : Nat} {a_now : Nat} {a_isKept : Nat} {a_draft : Nat} {a_tape : Nat} {a_wereAt : Nat} {a_byPlace : Nat} {a_lanes : Nat} {a_sizes : Nat} {a_cells : Nat} {a_before : Nat} {v_hasSigns : Int32} {v_hasEvery : Int32} {v_taped : Int32} {v_pos : Int32} {v_begun : Int32} {v_sort : Int32} {v_value : Int32} {v_fault : Int32} {v_wrongAt : Int32} {v_moved : Int32} {v_slipTicks : Int32} {v_bestCode : Int32} {v_bestMuch : Int32} {v_straightSum : Int64} {v_movedSum : Int64} {v_allWays : Int64} {v_torn : Int32} {v_st : Nat → Int32} {x1 : Int32} {x2 : Int32} {r_ : Int32} {v_st' : Nat → Int32} (hF : F_X7_set v_st x1 x2 = some (r_, v_st')) : MI l yX7_set cX7_set 3 .int rm_X7_set D (TS cI cB cZ cR cM cS) [.ref a_this, .int x1, .int x2] [(a_this, .inr (7, [.ref a_st, .ref a_now, .ref a_isKept, .ref a_draft, .int v_hasSigns, .int v_hasEvery, .ref a_tape, .int v_taped, .int v_pos, .int v_begun, .int v_sort, .int v_value, .int v_fault, .int v_wrongAt, .int v_moved, .int v_slipTicks, .int v_bestCode, .int v_bestMuch, .long v_straightSum, .long v_movedSum, .long v_allWays, .ref a_wereAt, .ref a_byPlace, .ref a_lanes, .ref a_sizes, .ref a_cells, .int v_torn, .ref a_before])), (a_st, .inl (cI, 168, .inl v_st))] [(a_this, .inr (7, [.ref a_st, .ref a_now, .ref a_isKept, .ref a_draft, .int v_hasSigns, .int v_hasEvery, .ref a_tape, .int v_taped, .int v_pos, .int v_begun, .int v_sort, .int v_value, .int v_fault, .int v_wrongAt, .int v_moved, .int v_slipTicks, .int v_bestCode, .int v_bestMuch, .long v_straightSum, .long v_movedSum, .long v_allWays, .ref a_wereAt, .ref a_byPlace, .ref a_lanes, .ref a_sizes, .ref a_cells, .int v_torn, .ref a_before])), (a_st, .inl (cI, 168, .inl v_st'))] r_ :=
  c0_X7_set (res := (r_, v_st')) hF
def rm_X7_every : Room := { frames := 1, cells := 0, slots := 0, locals := 25 }
theorem cv_X7_every : CV yX7_every cX7_every 2 (some .int) rm_X7_every RX7 1 := ⟨kw4_208, kw4_209, kw1_8, kw4_210, by decide +kernel, rfl, rfl⟩
set_option maxHeartbeats 4000000 in
set_option maxRecDepth 100000 in
theorem c0_X7_every {l : Launch} {D : va_G} {cI cB cZ cR cM cS : ClassId} {a_this : Nat} {a_st : Nat} {a_now : Nat} {a_isKept : Nat} {a_draft : Nat} {a_tape : Nat} {a_wereAt : Nat} {a_byPlace : Nat} {a_lanes : Nat} {a_sizes : Nat} {a_cells : Nat} {a_before : Nat} {v_hasSigns : Int32} {v_hasEvery : Int32} {v_taped : Int32} {v_pos : Int32} {v_begun : Int32} {v_sort : Int32} {v_value : Int32} {v_fault : Int32} {v_wrongAt : Int32} {v_moved : Int32} {v_slipTicks : Int32} {v_bestCode : Int32} {v_bestMuch : Int32} {v_straightSum : Int64} {v_movedSum : Int64} {v_allWays : Int64} {v_torn : Int32} {v_st : Nat → Int32} {x1 : Int32} {res : Int32 × (Nat → Int32)} (hF : F_X7_every v_st x1 = some res) : MI l yX7_every cX7_every 2 .int rm_X7_every D (TS cI cB cZ cR cM cS) [.ref a_this, .int x1] [(a_this, .inr (7, [.ref a_st, .ref a_now, .ref a_isKept, .ref a_draft, .int v_hasSigns, .int v_hasEvery, .ref a_tape, .int v_taped, .int v_pos, .int v_begun, .int v_sort, .int v_value, .int v_fault, .int v_wrongAt, .int v_moved, .int v_slipTicks, .int v_bestCode, .int v_bestMuch, .long v_straightSum, .long v_movedSum, .long v_allWays, .ref a_wereAt, .ref a_byPlace, .ref a_lanes, .ref a_sizes, .ref a_cells, .int v_torn, .ref a_before])), (a_st, .inl (cI, 168, .inl v_st))] [(a_this, .inr (7, [.ref a_st, .ref a_now, .ref a_isKept, .ref a_draft, .int v_hasSigns, .int v_hasEvery, .ref a_tape, .int v_taped, .int v_pos, .int v_begun, .int v_sort, .int v_value, .int v_fault, .int v_wrongAt, .int v_moved, .int v_slipTicks, .int v_bestCode, .int v_bestMuch, .long v_straightSum, .long v_movedSum, .long v_allWays, .ref a_wereAt, .ref a_byPlace, .ref a_lanes, .ref a_sizes, .ref a_cells, .int v_torn, .ref a_before])), (a_st, .inl (cI, 168, .inl res.2))] res.1 :=
  MI_of (by decide) (Nat.le_of_ble_eq_true rfl) (fun p e s m args below meth c A ls C hr hlk hK hA hP hD hS hl => by
    have C : CX p m c cX7_every 2 s args RX7 := C
    have hl : lv_has ls 2 [(0, .ref a_this), (1, .int x1)] := hl
    unfold F_X7_every at hF
    refine lv_iload_n C.1 C.2.1 dX7_every_0 rfl (lv_at hl 1 rfl) ?_
    refine lv_i2l (v := x1.toInt64) C.1 C.2.1 dX7_every_1 rfl ?_
    refine lv_lconst (v := 1) C.1 C.2.1 dX7_every_2 rfl ?_
    refine lv_ldc2 (v := 9) C.1 C.2.1 C.2.2.2.1 (C.2.2.2.2 _ kw4_211) dX7_every_3 ?_
    obtain ⟨r1, h2, hF⟩ := fb hF
    refine callSI C hK hA hP hD hS (c_X7_in  h2) cs_X7_in kw4_76 ⟨Nat.le_of_ble_eq_true rfl, Nat.le_of_ble_eq_true rfl⟩ ⟨Nat.zero_le _, Nat.zero_le _⟩ hl.1 rfl (Nat.le_of_ble_eq_true rfl) dX7_every_6 (fun H locs hP hD hS => ?_)
    refine lv_if_eq (tgt := 22) C.1 C.2.1 dX7_every_9 (by decide) (fun c3 => ?_) (fun c3 => ?_)
    · have hF := fp hF c3
      refine lv_iconst (v := (-1)) C.1 C.2.1 dX7_every_22 (by decide) ?_
      have hF := Option.some.inj hF
      subst hF
      exact retI C hr hlk hP hD hS dX7_every_23
    · have hF := fn hF c3
      refine lv_aload_n C.1 C.2.1 dX7_every_12 rfl (lv_at hl 0 rfl) ?_
      refine lv_bipush (v := 18) C.1 C.2.1 dX7_every_13 (by decide) ?_
      refine lv_iload_n C.1 C.2.1 dX7_every_15 rfl (lv_at hl 1 rfl) ?_
      obtain ⟨⟨r4, w5⟩, h6, hF⟩ := fb hF
      refine callVI C hK hA hP hD hS [0, 1] (c_X7_becomes (a_this := a_this) (a_st := a_st) (a_now := a_now) (a_isKept := a_isKept) (a_draft := a_draft) (a_tape := a_tape) (a_wereAt := a_wereAt) (a_byPlace := a_byPlace) (a_lanes := a_lanes) (a_sizes := a_sizes) (a_cells := a_cells) (a_before := a_before) (v_hasSigns := v_hasSigns) (v_hasEvery := v_hasEvery) (v_taped := v_taped) (v_pos := v_pos) (v_begun := v_begun) (v_sort := v_sort) (v_value := v_value) (v_fault := v_fault) (v_wrongAt := v_wrongAt) (v_moved := v_moved) (v_slipTicks := v_slipTicks) (v_bestCode := v_bestCode) (v_bestMuch := v_bestMuch) (v_straightSum := v_straightSum) (v_movedSum := v_movedSum) (v_allWays := v_allWays) (v_torn := v_torn) (v_st := v_st) h6) cv_X7_becomes kw4_194 rfl (by decide) rfl rfl rfl ⟨Nat.le_of_ble_eq_true rfl, Nat.le_of_ble_eq_true rfl⟩ ⟨Nat.zero_le _, Nat.zero_le _⟩ hl.1 rfl (Nat.le_of_ble_eq_true rfl) dX7_every_16 (fun H locs hP hD hS => ?_)
      have hP : va_P D vwCl [(a_this, .inr (7, [.ref a_st, .ref a_now, .ref a_isKept, .ref a_draft, .int v_hasSigns, .int v_hasEvery, .ref a_tape, .int v_taped, .int v_pos, .int v_begun, .int v_sort, .int v_value, .int v_fault, .int v_wrongAt, .int v_moved, .int v_slipTicks, .int v_bestCode, .int v_bestMuch, .long v_straightSum, .long v_movedSum, .long v_allWays, .ref a_wereAt, .ref a_byPlace, .ref a_lanes, .ref a_sizes, .ref a_cells, .int v_torn, .ref a_before])), (a_st, .inl (cI, 168, .inl w5))] H := hP
      have hD : va_D A [(a_this, .inr (7, [.ref a_st, .ref a_now, .ref a_isKept, .ref a_draft, .int v_hasSigns, .int v_hasEvery, .ref a_tape, .int v_taped, .int v_pos, .int v_begun, .int v_sort, .int v_value, .int v_fault, .int v_wrongAt, .int v_moved, .int v_slipTicks, .int v_bestCode, .int v_bestMuch, .long v_straightSum, .long v_movedSum, .long v_allWays, .ref a_wereAt, .ref a_byPlace, .ref a_lanes, .ref a_sizes, .ref a_cells, .int v_torn, .ref a_before])), (a_st, .inl (cI, 168, .inl w5))] := hD
      refine lv_goto (tgt := 23) C.1 C.2.1 dX7_every_19 (by decide) ?_
      have hF := Option.some.inj hF
      subst hF
      exact retI C hr hlk hP hD hS dX7_every_23)
theorem c_X7_every {l : Launch} {D : va_G} {cI cB cZ cR cM cS : ClassId} {a_this : Nat} {a_st : Nat} {a_now : Nat} {a_isKept : Nat} {a_draft : Nat} {a_tape : Nat} {a_wereAt : Nat} {a_byPlace : Nat} {a_lanes : Nat} {a_sizes : Nat} {a_cells : Nat} {a_before : Nat} {v_hasSigns : Int32} {v_hasEvery : Int32} {v_taped : Int32} {v_pos : Int32} {v_begun : Int32} {v_sort : Int32} {v_value : Int32} {v_fault : Int32} {v_wrongAt : Int32} {v_moved : Int32} {v_slipTicks : Int32} {v_bestCode : Int32} {v_bestMuch : Int32} {v_straightSum : Int64} {v_movedSum : Int64} {v_allWays : Int64} {v_torn : Int32} {v_st : Nat → Int32} {x1 : Int32} {r_ : Int32} {v_st' : Nat → Int32} (hF : F_X7_every v_st x1 = some (r_, v_st')) : MI l yX7_every cX7_every 2 .int rm_X7_every D (TS cI cB cZ cR cM cS) [.ref a_this, .int x1] [(a_this, .inr (7, [.ref a_st, .ref a_now, .ref a_isKept, .ref a_draft, .int v_hasSigns, .int v_hasEvery, .ref a_tape, .int v_taped, .int v_pos, .int v_begun, .int v_sort, .int v_value, .int v_fault, .int v_wrongAt, .int v_moved, .int v_slipTicks, .int v_bestCode, .int v_bestMuch, .long v_straightSum, .long v_movedSum, .long v_allWays, .ref a_wereAt, .ref a_byPlace, .ref a_lanes, .ref a_sizes, .ref a_cells, .int v_torn, .ref a_before])), (a_st, .inl (cI, 168, .inl v_st))] [(a_this, .inr (7, [.ref a_st, .ref a_now, .ref a_isKept, .ref a_draft, .int v_hasSigns, .int v_hasEvery, .ref a_tape, .int v_taped, .int v_pos, .int v_begun, .int v_sort, .int v_value, .int v_fault, .int v_wrongAt, .int v_moved, .int v_slipTicks, .int v_bestCode, .int v_bestMuch, .long v_straightSum, .long v_movedSum, .long v_allWays, .ref a_wereAt, .ref a_byPlace, .ref a_lanes, .ref a_sizes, .ref a_cells, .int v_torn, .ref a_before])), (a_st, .inl (cI, 168, .inl v_st'))] r_ :=
  c0_X7_every (res := (r_, v_st')) hF
def rm_X7_add : Room := { frames := 1, cells := 0, slots := 0, locals := 25 }
theorem cv_X7_add : CV yX7_add cX7_add 2 (some .int) rm_X7_add RX7 1 := ⟨kw4_213, kw4_214, kw1_8, kw4_215, by decide +kernel, rfl, rfl⟩
set_option maxHeartbeats 4000000 in
set_option maxRecDepth 100000 in
theorem c0_X7_add {l : Launch} {D : va_G} {cI cB cZ cR cM cS : ClassId} {a_this : Nat} {a_st : Nat} {a_now : Nat} {a_isKept : Nat} {a_draft : Nat} {a_tape : Nat} {a_wereAt : Nat} {a_byPlace : Nat} {a_lanes : Nat} {a_sizes : Nat} {a_cells : Nat} {a_before : Nat} {v_hasSigns : Int32} {v_hasEvery : Int32} {v_taped : Int32} {v_pos : Int32} {v_begun : Int32} {v_sort : Int32} {v_value : Int32} {v_fault : Int32} {v_wrongAt : Int32} {v_moved : Int32} {v_slipTicks : Int32} {v_bestCode : Int32} {v_bestMuch : Int32} {v_straightSum : Int64} {v_movedSum : Int64} {v_allWays : Int64} {v_torn : Int32} {v_st : Nat → Int32} {x1 : Int32} {res : Int32 × (Nat → Int32)} (hF : F_X7_add v_st x1 = some res) : MI l yX7_add cX7_add 2 .int rm_X7_add D (TS cI cB cZ cR cM cS) [.ref a_this, .int x1] [(a_this, .inr (7, [.ref a_st, .ref a_now, .ref a_isKept, .ref a_draft, .int v_hasSigns, .int v_hasEvery, .ref a_tape, .int v_taped, .int v_pos, .int v_begun, .int v_sort, .int v_value, .int v_fault, .int v_wrongAt, .int v_moved, .int v_slipTicks, .int v_bestCode, .int v_bestMuch, .long v_straightSum, .long v_movedSum, .long v_allWays, .ref a_wereAt, .ref a_byPlace, .ref a_lanes, .ref a_sizes, .ref a_cells, .int v_torn, .ref a_before])), (a_st, .inl (cI, 168, .inl v_st))] [(a_this, .inr (7, [.ref a_st, .ref a_now, .ref a_isKept, .ref a_draft, .int v_hasSigns, .int v_hasEvery, .ref a_tape, .int v_taped, .int v_pos, .int v_begun, .int v_sort, .int v_value, .int v_fault, .int v_wrongAt, .int v_moved, .int v_slipTicks, .int v_bestCode, .int v_bestMuch, .long v_straightSum, .long v_movedSum, .long v_allWays, .ref a_wereAt, .ref a_byPlace, .ref a_lanes, .ref a_sizes, .ref a_cells, .int v_torn, .ref a_before])), (a_st, .inl (cI, 168, .inl res.2))] res.1 :=
  MI_of (by decide) (Nat.le_of_ble_eq_true rfl) (fun p e s m args below meth c A ls C hr hlk hK hA hP hD hS hl => by
    have C : CX p m c cX7_add 2 s args RX7 := C
    have hl : lv_has ls 2 [(0, .ref a_this), (1, .int x1)] := hl
    unfold F_X7_add at hF
    refine lv_iload_n C.1 C.2.1 dX7_add_0 rfl (lv_at hl 1 rfl) ?_
    refine lv_i2l (v := x1.toInt64) C.1 C.2.1 dX7_add_1 rfl ?_
    refine lv_lconst (v := 0) C.1 C.2.1 dX7_add_2 rfl ?_
    refine lv_ldc2 (v := 3) C.1 C.2.1 C.2.2.2.1 (C.2.2.2.2 _ kw4_193) dX7_add_3 ?_
    obtain ⟨r1, h2, hF⟩ := fb hF
    refine callSI C hK hA hP hD hS (c_X7_in  h2) cs_X7_in kw4_76 ⟨Nat.le_of_ble_eq_true rfl, Nat.le_of_ble_eq_true rfl⟩ ⟨Nat.zero_le _, Nat.zero_le _⟩ hl.1 rfl (Nat.le_of_ble_eq_true rfl) dX7_add_6 (fun H locs hP hD hS => ?_)
    refine lv_if_ne (tgt := 14) C.1 C.2.1 dX7_add_9 (by decide) (fun c3 => ?_) (fun c3 => ?_)
    · have hF := fn hF c3
      refine lv_aload_n C.1 C.2.1 dX7_add_14 rfl (lv_at hl 0 rfl) ?_
      refine gf_7_7_st C hK hP 0 rfl rfl dX7_add_15 ?_
      refine lv_bipush (v := 17) C.1 C.2.1 dX7_add_18 (by decide) ?_
      obtain ⟨h4, hF⟩ := fk hF
      refine va_iald C.1 C.2.1 hK.1 hP 1 0 rfl rfl h4 dX7_add_20 ?_
      refine lv_bipush (v := 16) C.1 C.2.1 dX7_add_21 (by decide) ?_
      refine lv_icmp_ne (tgt := 29) C.1 C.2.1 dX7_add_23 (by decide) (fun c5 => ?_) (fun c5 => ?_)
      · have hF := fn hF c5
        refine lv_aload_n C.1 C.2.1 dX7_add_29 rfl (lv_at hl 0 rfl) ?_
        refine gf_7_7_st C hK hP 0 rfl rfl dX7_add_30 ?_
        refine lv_iconst (v := 1) C.1 C.2.1 dX7_add_33 (by decide) ?_
        refine lv_aload_n C.1 C.2.1 dX7_add_34 rfl (lv_at hl 0 rfl) ?_
        refine gf_7_7_st C hK hP 0 rfl rfl dX7_add_35 ?_
        refine lv_bipush (v := 17) C.1 C.2.1 dX7_add_38 (by decide) ?_
        obtain ⟨h6, hF⟩ := fk hF
        refine va_iald C.1 C.2.1 hK.1 hP 1 0 rfl rfl h6 dX7_add_40 ?_
        refine lv_iadd C.1 C.2.1 dX7_add_41 ?_
        refine lv_iload_n C.1 C.2.1 dX7_add_42 rfl (lv_at hl 1 rfl) ?_
        obtain ⟨h7, hF⟩ := fk hF
        refine va_iast C.1 C.2.1 hK.1 hP hD hS 1 0 rfl rfl h7 dX7_add_43 (fun H locs hP hD hS => ?_)
        have hP : va_P D vwCl [(a_this, .inr (7, [.ref a_st, .ref a_now, .ref a_isKept, .ref a_draft, .int v_hasSigns, .int v_hasEvery, .ref a_tape, .int v_taped, .int v_pos, .int v_begun, .int v_sort, .int v_value, .int v_fault, .int v_wrongAt, .int v_moved, .int v_slipTicks, .int v_bestCode, .int v_bestMuch, .long v_straightSum, .long v_movedSum, .long v_allWays, .ref a_wereAt, .ref a_byPlace, .ref a_lanes, .ref a_sizes, .ref a_cells, .int v_torn, .ref a_before])), (a_st, .inl (cI, 168, .inl (upd v_st ((1 : Int32) + (v_st (17 : Int32).toNatClampNeg)).toNatClampNeg x1)))] H := hP
        have hD : va_D A [(a_this, .inr (7, [.ref a_st, .ref a_now, .ref a_isKept, .ref a_draft, .int v_hasSigns, .int v_hasEvery, .ref a_tape, .int v_taped, .int v_pos, .int v_begun, .int v_sort, .int v_value, .int v_fault, .int v_wrongAt, .int v_moved, .int v_slipTicks, .int v_bestCode, .int v_bestMuch, .long v_straightSum, .long v_movedSum, .long v_allWays, .ref a_wereAt, .ref a_byPlace, .ref a_lanes, .ref a_sizes, .ref a_cells, .int v_torn, .ref a_before])), (a_st, .inl (cI, 168, .inl (upd v_st ((1 : Int32) + (v_st (17 : Int32).toNatClampNeg)).toNatClampNeg x1)))] := hD
        refine lv_aload_n C.1 C.2.1 dX7_add_44 rfl (lv_at hl 0 rfl) ?_
        refine gf_7_7_st C hK hP 0 rfl rfl dX7_add_45 ?_
        refine lv_bipush (v := 17) C.1 C.2.1 dX7_add_48 (by decide) ?_
        refine lv_dup2_11 C.1 C.2.1 dX7_add_50 rfl rfl ?_
        obtain ⟨h8, hF⟩ := fk hF
        refine va_iald C.1 C.2.1 hK.1 hP 1 0 rfl rfl h8 dX7_add_51 ?_
        refine lv_iconst (v := 1) C.1 C.2.1 dX7_add_52 (by decide) ?_
        refine lv_iadd C.1 C.2.1 dX7_add_53 ?_
        obtain ⟨h9, hF⟩ := fk hF
        refine va_iast C.1 C.2.1 hK.1 hP hD hS 1 0 rfl rfl h9 dX7_add_54 (fun H locs hP hD hS => ?_)
        have hP : va_P D vwCl [(a_this, .inr (7, [.ref a_st, .ref a_now, .ref a_isKept, .ref a_draft, .int v_hasSigns, .int v_hasEvery, .ref a_tape, .int v_taped, .int v_pos, .int v_begun, .int v_sort, .int v_value, .int v_fault, .int v_wrongAt, .int v_moved, .int v_slipTicks, .int v_bestCode, .int v_bestMuch, .long v_straightSum, .long v_movedSum, .long v_allWays, .ref a_wereAt, .ref a_byPlace, .ref a_lanes, .ref a_sizes, .ref a_cells, .int v_torn, .ref a_before])), (a_st, .inl (cI, 168, .inl (upd (upd v_st ((1 : Int32) + (v_st (17 : Int32).toNatClampNeg)).toNatClampNeg x1) (17 : Int32).toNatClampNeg (((upd v_st ((1 : Int32) + (v_st (17 : Int32).toNatClampNeg)).toNatClampNeg x1) (17 : Int32).toNatClampNeg) + (1 : Int32)))))] H := hP
        have hD : va_D A [(a_this, .inr (7, [.ref a_st, .ref a_now, .ref a_isKept, .ref a_draft, .int v_hasSigns, .int v_hasEvery, .ref a_tape, .int v_taped, .int v_pos, .int v_begun, .int v_sort, .int v_value, .int v_fault, .int v_wrongAt, .int v_moved, .int v_slipTicks, .int v_bestCode, .int v_bestMuch, .long v_straightSum, .long v_movedSum, .long v_allWays, .ref a_wereAt, .ref a_byPlace, .ref a_lanes, .ref a_sizes, .ref a_cells, .int v_torn, .ref a_before])), (a_st, .inl (cI, 168, .inl (upd (upd v_st ((1 : Int32) + (v_st (17 : Int32).toNatClampNeg)).toNatClampNeg x1) (17 : Int32).toNatClampNeg (((upd v_st ((1 : Int32) + (v_st (17 : Int32).toNatClampNeg)).toNatClampNeg x1) (17 : Int32).toNatClampNeg) + (1 : Int32)))))] := hD
        refine lv_aload_n C.1 C.2.1 dX7_add_55 rfl (lv_at hl 0 rfl) ?_
        refine gf_7_7_st C hK hP 0 rfl rfl dX7_add_56 ?_
        refine lv_bipush (v := 17) C.1 C.2.1 dX7_add_59 (by decide) ?_
        obtain ⟨h10, hF⟩ := fk hF
        refine va_iald C.1 C.2.1 hK.1 hP 1 0 rfl rfl h10 dX7_add_61 ?_
        have hF := Option.some.inj hF
        subst hF
        exact retI C hr hlk hP hD hS dX7_add_62
      · have hF := fp hF c5
        refine lv_bipush (v := (-3)) C.1 C.2.1 dX7_add_26 (by decide) ?_
        have hF := Option.some.inj hF
        subst hF
        exact retI C hr hlk hP hD hS dX7_add_28
    · have hF := fp hF c3
      refine lv_iconst (v := (-1)) C.1 C.2.1 dX7_add_12 (by decide) ?_
      have hF := Option.some.inj hF
      subst hF
      exact retI C hr hlk hP hD hS dX7_add_13)
theorem c_X7_add {l : Launch} {D : va_G} {cI cB cZ cR cM cS : ClassId} {a_this : Nat} {a_st : Nat} {a_now : Nat} {a_isKept : Nat} {a_draft : Nat} {a_tape : Nat} {a_wereAt : Nat} {a_byPlace : Nat} {a_lanes : Nat} {a_sizes : Nat} {a_cells : Nat} {a_before : Nat} {v_hasSigns : Int32} {v_hasEvery : Int32} {v_taped : Int32} {v_pos : Int32} {v_begun : Int32} {v_sort : Int32} {v_value : Int32} {v_fault : Int32} {v_wrongAt : Int32} {v_moved : Int32} {v_slipTicks : Int32} {v_bestCode : Int32} {v_bestMuch : Int32} {v_straightSum : Int64} {v_movedSum : Int64} {v_allWays : Int64} {v_torn : Int32} {v_st : Nat → Int32} {x1 : Int32} {r_ : Int32} {v_st' : Nat → Int32} (hF : F_X7_add v_st x1 = some (r_, v_st')) : MI l yX7_add cX7_add 2 .int rm_X7_add D (TS cI cB cZ cR cM cS) [.ref a_this, .int x1] [(a_this, .inr (7, [.ref a_st, .ref a_now, .ref a_isKept, .ref a_draft, .int v_hasSigns, .int v_hasEvery, .ref a_tape, .int v_taped, .int v_pos, .int v_begun, .int v_sort, .int v_value, .int v_fault, .int v_wrongAt, .int v_moved, .int v_slipTicks, .int v_bestCode, .int v_bestMuch, .long v_straightSum, .long v_movedSum, .long v_allWays, .ref a_wereAt, .ref a_byPlace, .ref a_lanes, .ref a_sizes, .ref a_cells, .int v_torn, .ref a_before])), (a_st, .inl (cI, 168, .inl v_st))] [(a_this, .inr (7, [.ref a_st, .ref a_now, .ref a_isKept, .ref a_draft, .int v_hasSigns, .int v_hasEvery, .ref a_tape, .int v_taped, .int v_pos, .int v_begun, .int v_sort, .int v_value, .int v_fault, .int v_wrongAt, .int v_moved, .int v_slipTicks, .int v_bestCode, .int v_bestMuch, .long v_straightSum, .long v_movedSum, .long v_allWays, .ref a_wereAt, .ref a_byPlace, .ref a_lanes, .ref a_sizes, .ref a_cells, .int v_torn, .ref a_before])), (a_st, .inl (cI, 168, .inl v_st'))] r_ :=
  c0_X7_add (res := (r_, v_st')) hF
def rm_X7_cut : Room := { frames := 1, cells := 0, slots := 0, locals := 25 }
theorem cv_X7_cut : CV yX7_cut cX7_cut 2 (some .int) rm_X7_cut RX7 1 := ⟨kw4_217, kw4_218, kw1_8, kw4_219, by decide +kernel, rfl, rfl⟩
set_option maxHeartbeats 4000000 in
set_option maxRecDepth 100000 in
theorem c0_X7_cut {l : Launch} {D : va_G} {cI cB cZ cR cM cS : ClassId} {a_this : Nat} {a_st : Nat} {a_now : Nat} {a_isKept : Nat} {a_draft : Nat} {a_tape : Nat} {a_wereAt : Nat} {a_byPlace : Nat} {a_lanes : Nat} {a_sizes : Nat} {a_cells : Nat} {a_before : Nat} {v_hasSigns : Int32} {v_hasEvery : Int32} {v_taped : Int32} {v_pos : Int32} {v_begun : Int32} {v_sort : Int32} {v_value : Int32} {v_fault : Int32} {v_wrongAt : Int32} {v_moved : Int32} {v_slipTicks : Int32} {v_bestCode : Int32} {v_bestMuch : Int32} {v_straightSum : Int64} {v_movedSum : Int64} {v_allWays : Int64} {v_torn : Int32} {v_st : Nat → Int32} {x1 : Int32} {res : Int32 × (Nat → Int32)} (hF : F_X7_cut v_st x1 = some res) : MI l yX7_cut cX7_cut 2 .int rm_X7_cut D (TS cI cB cZ cR cM cS) [.ref a_this, .int x1] [(a_this, .inr (7, [.ref a_st, .ref a_now, .ref a_isKept, .ref a_draft, .int v_hasSigns, .int v_hasEvery, .ref a_tape, .int v_taped, .int v_pos, .int v_begun, .int v_sort, .int v_value, .int v_fault, .int v_wrongAt, .int v_moved, .int v_slipTicks, .int v_bestCode, .int v_bestMuch, .long v_straightSum, .long v_movedSum, .long v_allWays, .ref a_wereAt, .ref a_byPlace, .ref a_lanes, .ref a_sizes, .ref a_cells, .int v_torn, .ref a_before])), (a_st, .inl (cI, 168, .inl v_st))] [(a_this, .inr (7, [.ref a_st, .ref a_now, .ref a_isKept, .ref a_draft, .int v_hasSigns, .int v_hasEvery, .ref a_tape, .int v_taped, .int v_pos, .int v_begun, .int v_sort, .int v_value, .int v_fault, .int v_wrongAt, .int v_moved, .int v_slipTicks, .int v_bestCode, .int v_bestMuch, .long v_straightSum, .long v_movedSum, .long v_allWays, .ref a_wereAt, .ref a_byPlace, .ref a_lanes, .ref a_sizes, .ref a_cells, .int v_torn, .ref a_before])), (a_st, .inl (cI, 168, .inl res.2))] res.1 :=
  MI_of (by decide) (Nat.le_of_ble_eq_true rfl) (fun p e s m args below meth c A ls C hr hlk hK hA hP hD hS hl => by
    have C : CX p m c cX7_cut 2 s args RX7 := C
    have hl : lv_has ls 2 [(0, .ref a_this), (1, .int x1)] := hl
    unfold F_X7_cut at hF
    refine lv_iload_n C.1 C.2.1 dX7_cut_0 rfl (lv_at hl 1 rfl) ?_
    refine lv_i2l (v := x1.toInt64) C.1 C.2.1 dX7_cut_1 rfl ?_
    refine lv_lconst (v := 0) C.1 C.2.1 dX7_cut_2 rfl ?_
    refine lv_aload_n C.1 C.2.1 dX7_cut_3 rfl (lv_at hl 0 rfl) ?_
    refine gf_7_7_st C hK hP 0 rfl rfl dX7_cut_4 ?_
    refine lv_bipush (v := 17) C.1 C.2.1 dX7_cut_7 (by decide) ?_
    obtain ⟨h1, hF⟩ := fk hF
    refine va_iald C.1 C.2.1 hK.1 hP 1 0 rfl rfl h1 dX7_cut_9 ?_
    refine lv_i2l (v := (v_st (17 : Int32).toNatClampNeg).toInt64) C.1 C.2.1 dX7_cut_10 rfl ?_
    obtain ⟨r2, h3, hF⟩ := fb hF
    refine callSI C hK hA hP hD hS (c_X7_in  h3) cs_X7_in kw4_76 ⟨Nat.le_of_ble_eq_true rfl, Nat.le_of_ble_eq_true rfl⟩ ⟨Nat.zero_le _, Nat.zero_le _⟩ hl.1 rfl (Nat.le_of_ble_eq_true rfl) dX7_cut_11 (fun H locs hP hD hS => ?_)
    refine lv_if_eq (tgt := 27) C.1 C.2.1 dX7_cut_14 (by decide) (fun c4 => ?_) (fun c4 => ?_)
    · have hF := fp hF c4
      refine lv_iconst (v := (-1)) C.1 C.2.1 dX7_cut_27 (by decide) ?_
      have hF := Option.some.inj hF
      subst hF
      exact retI C hr hlk hP hD hS dX7_cut_28
    · have hF := fn hF c4
      refine lv_aload_n C.1 C.2.1 dX7_cut_17 rfl (lv_at hl 0 rfl) ?_
      refine lv_bipush (v := 17) C.1 C.2.1 dX7_cut_18 (by decide) ?_
      refine lv_iload_n C.1 C.2.1 dX7_cut_20 rfl (lv_at hl 1 rfl) ?_
      obtain ⟨⟨r5, w6⟩, h7, hF⟩ := fb hF
      refine callVI C hK hA hP hD hS [0, 1] (c_X7_becomes (a_this := a_this) (a_st := a_st) (a_now := a_now) (a_isKept := a_isKept) (a_draft := a_draft) (a_tape := a_tape) (a_wereAt := a_wereAt) (a_byPlace := a_byPlace) (a_lanes := a_lanes) (a_sizes := a_sizes) (a_cells := a_cells) (a_before := a_before) (v_hasSigns := v_hasSigns) (v_hasEvery := v_hasEvery) (v_taped := v_taped) (v_pos := v_pos) (v_begun := v_begun) (v_sort := v_sort) (v_value := v_value) (v_fault := v_fault) (v_wrongAt := v_wrongAt) (v_moved := v_moved) (v_slipTicks := v_slipTicks) (v_bestCode := v_bestCode) (v_bestMuch := v_bestMuch) (v_straightSum := v_straightSum) (v_movedSum := v_movedSum) (v_allWays := v_allWays) (v_torn := v_torn) (v_st := v_st) h7) cv_X7_becomes kw4_194 rfl (by decide) rfl rfl rfl ⟨Nat.le_of_ble_eq_true rfl, Nat.le_of_ble_eq_true rfl⟩ ⟨Nat.zero_le _, Nat.zero_le _⟩ hl.1 rfl (Nat.le_of_ble_eq_true rfl) dX7_cut_21 (fun H locs hP hD hS => ?_)
      have hP : va_P D vwCl [(a_this, .inr (7, [.ref a_st, .ref a_now, .ref a_isKept, .ref a_draft, .int v_hasSigns, .int v_hasEvery, .ref a_tape, .int v_taped, .int v_pos, .int v_begun, .int v_sort, .int v_value, .int v_fault, .int v_wrongAt, .int v_moved, .int v_slipTicks, .int v_bestCode, .int v_bestMuch, .long v_straightSum, .long v_movedSum, .long v_allWays, .ref a_wereAt, .ref a_byPlace, .ref a_lanes, .ref a_sizes, .ref a_cells, .int v_torn, .ref a_before])), (a_st, .inl (cI, 168, .inl w6))] H := hP
      have hD : va_D A [(a_this, .inr (7, [.ref a_st, .ref a_now, .ref a_isKept, .ref a_draft, .int v_hasSigns, .int v_hasEvery, .ref a_tape, .int v_taped, .int v_pos, .int v_begun, .int v_sort, .int v_value, .int v_fault, .int v_wrongAt, .int v_moved, .int v_slipTicks, .int v_bestCode, .int v_bestMuch, .long v_straightSum, .long v_movedSum, .long v_allWays, .ref a_wereAt, .ref a_byPlace, .ref a_lanes, .ref a_sizes, .ref a_cells, .int v_torn, .ref a_before])), (a_st, .inl (cI, 168, .inl w6))] := hD
      refine lv_goto (tgt := 28) C.1 C.2.1 dX7_cut_24 (by decide) ?_
      have hF := Option.some.inj hF
      subst hF
      exact retI C hr hlk hP hD hS dX7_cut_28)
theorem c_X7_cut {l : Launch} {D : va_G} {cI cB cZ cR cM cS : ClassId} {a_this : Nat} {a_st : Nat} {a_now : Nat} {a_isKept : Nat} {a_draft : Nat} {a_tape : Nat} {a_wereAt : Nat} {a_byPlace : Nat} {a_lanes : Nat} {a_sizes : Nat} {a_cells : Nat} {a_before : Nat} {v_hasSigns : Int32} {v_hasEvery : Int32} {v_taped : Int32} {v_pos : Int32} {v_begun : Int32} {v_sort : Int32} {v_value : Int32} {v_fault : Int32} {v_wrongAt : Int32} {v_moved : Int32} {v_slipTicks : Int32} {v_bestCode : Int32} {v_bestMuch : Int32} {v_straightSum : Int64} {v_movedSum : Int64} {v_allWays : Int64} {v_torn : Int32} {v_st : Nat → Int32} {x1 : Int32} {r_ : Int32} {v_st' : Nat → Int32} (hF : F_X7_cut v_st x1 = some (r_, v_st')) : MI l yX7_cut cX7_cut 2 .int rm_X7_cut D (TS cI cB cZ cR cM cS) [.ref a_this, .int x1] [(a_this, .inr (7, [.ref a_st, .ref a_now, .ref a_isKept, .ref a_draft, .int v_hasSigns, .int v_hasEvery, .ref a_tape, .int v_taped, .int v_pos, .int v_begun, .int v_sort, .int v_value, .int v_fault, .int v_wrongAt, .int v_moved, .int v_slipTicks, .int v_bestCode, .int v_bestMuch, .long v_straightSum, .long v_movedSum, .long v_allWays, .ref a_wereAt, .ref a_byPlace, .ref a_lanes, .ref a_sizes, .ref a_cells, .int v_torn, .ref a_before])), (a_st, .inl (cI, 168, .inl v_st))] [(a_this, .inr (7, [.ref a_st, .ref a_now, .ref a_isKept, .ref a_draft, .int v_hasSigns, .int v_hasEvery, .ref a_tape, .int v_taped, .int v_pos, .int v_begun, .int v_sort, .int v_value, .int v_fault, .int v_wrongAt, .int v_moved, .int v_slipTicks, .int v_bestCode, .int v_bestMuch, .long v_straightSum, .long v_movedSum, .long v_allWays, .ref a_wereAt, .ref a_byPlace, .ref a_lanes, .ref a_sizes, .ref a_cells, .int v_torn, .ref a_before])), (a_st, .inl (cI, 168, .inl v_st'))] r_ :=
  c0_X7_cut (res := (r_, v_st')) hF
def rm_X7_ticks : Room := { frames := 6, cells := 0, slots := 0, locals := 133 }
theorem cv_X7_ticks : CV yX7_ticks cX7_ticks 2 (some .int) rm_X7_ticks RX7 1 := ⟨kw4_221, kw4_222, kw1_8, kw4_223, by decide +kernel, rfl, rfl⟩
set_option maxHeartbeats 4000000 in
set_option maxRecDepth 100000 in
theorem c0_X7_ticks {l : Launch} {D : va_G} {cI cB cZ cR cM cS : ClassId} {a_this : Nat} {a_st : Nat} {a_now : Nat} {a_isKept : Nat} {a_draft : Nat} {a_tape : Nat} {a_wereAt : Nat} {a_byPlace : Nat} {a_lanes : Nat} {a_sizes : Nat} {a_cells : Nat} {a_before : Nat} {v_hasSigns : Int32} {v_hasEvery : Int32} {v_taped : Int32} {v_pos : Int32} {v_begun : Int32} {v_sort : Int32} {v_value : Int32} {v_fault : Int32} {v_wrongAt : Int32} {v_moved : Int32} {v_slipTicks : Int32} {v_bestCode : Int32} {v_bestMuch : Int32} {v_straightSum : Int64} {v_movedSum : Int64} {v_allWays : Int64} {v_torn : Int32} {v_st : Nat → Int32} {v_now : Nat → Int32} {x1 : Int32} {res : Int32 × Int32 × Int32 × (Nat → Int32) × (Nat → Int32)} (hF : F_X7_ticks v_moved v_slipTicks v_st v_now x1 = some res) : MI l yX7_ticks cX7_ticks 2 .int rm_X7_ticks D (TS cI cB cZ cR cM cS) [.ref a_this, .int x1] [(a_this, .inr (7, [.ref a_st, .ref a_now, .ref a_isKept, .ref a_draft, .int v_hasSigns, .int v_hasEvery, .ref a_tape, .int v_taped, .int v_pos, .int v_begun, .int v_sort, .int v_value, .int v_fault, .int v_wrongAt, .int v_moved, .int v_slipTicks, .int v_bestCode, .int v_bestMuch, .long v_straightSum, .long v_movedSum, .long v_allWays, .ref a_wereAt, .ref a_byPlace, .ref a_lanes, .ref a_sizes, .ref a_cells, .int v_torn, .ref a_before])), (a_st, .inl (cI, 168, .inl v_st)), (a_now, .inl (cI, 56, .inl v_now))] [(a_this, .inr (7, [.ref a_st, .ref a_now, .ref a_isKept, .ref a_draft, .int v_hasSigns, .int v_hasEvery, .ref a_tape, .int v_taped, .int v_pos, .int v_begun, .int v_sort, .int v_value, .int v_fault, .int v_wrongAt, .int res.2.1, .int res.2.2.1, .int v_bestCode, .int v_bestMuch, .long v_straightSum, .long v_movedSum, .long v_allWays, .ref a_wereAt, .ref a_byPlace, .ref a_lanes, .ref a_sizes, .ref a_cells, .int v_torn, .ref a_before])), (a_st, .inl (cI, 168, .inl res.2.2.2.1)), (a_now, .inl (cI, 56, .inl res.2.2.2.2))] res.1 :=
  MI_of (by decide) (Nat.le_of_ble_eq_true rfl) (fun p e s m args below meth c A ls C hr hlk hK hA hP hD hS hl => by
    have C : CX p m c cX7_ticks 2 s args RX7 := C
    have hl : lv_has ls 2 [(0, .ref a_this), (1, .int x1)] := hl
    unfold F_X7_ticks at hF
    refine lv_iload_n C.1 C.2.1 dX7_ticks_0 rfl (lv_at hl 1 rfl) ?_
    refine lv_i2l (v := x1.toInt64) C.1 C.2.1 dX7_ticks_1 rfl ?_
    refine lv_lconst (v := 0) C.1 C.2.1 dX7_ticks_2 rfl ?_
    refine lv_ldc2 (v := 100) C.1 C.2.1 C.2.2.2.1 (C.2.2.2.2 _ kw4_224) dX7_ticks_3 ?_
    obtain ⟨r1, h2, hF⟩ := fb hF
    refine callSI C hK hA hP hD hS (c_X7_in  h2) cs_X7_in kw4_76 ⟨Nat.le_of_ble_eq_true rfl, Nat.le_of_ble_eq_true rfl⟩ ⟨Nat.zero_le _, Nat.zero_le _⟩ hl.1 rfl (Nat.le_of_ble_eq_true rfl) dX7_ticks_6 (fun H locs hP hD hS => ?_)
    refine lv_if_ne (tgt := 14) C.1 C.2.1 dX7_ticks_9 (by decide) (fun c3 => ?_) (fun c3 => ?_)
    · have hF := fn hF c3
      refine lv_aload_n C.1 C.2.1 dX7_ticks_14 rfl (lv_at hl 0 rfl) ?_
      refine gf_7_7_st C hK hP 0 rfl rfl dX7_ticks_15 ?_
      refine lv_bipush (v := 19) C.1 C.2.1 dX7_ticks_18 (by decide) ?_
      obtain ⟨h4, hF⟩ := fk hF
      refine va_iald C.1 C.2.1 hK.1 hP 1 0 rfl rfl h4 dX7_ticks_20 ?_
      refine lv_iload_n C.1 C.2.1 dX7_ticks_21 rfl (lv_at hl 1 rfl) ?_
      refine lv_iadd C.1 C.2.1 dX7_ticks_22 ?_
      refine lv_sipush (v := 9999) C.1 C.2.1 dX7_ticks_23 (by decide) ?_
      refine lv_icmp_le (tgt := 32) C.1 C.2.1 dX7_ticks_26 (by decide) (fun c5 => ?_) (fun c5 => ?_)
      · have hF := fp hF c5
        refine lv_aload_n C.1 C.2.1 dX7_ticks_32 rfl (lv_at hl 0 rfl) ?_
        obtain ⟨⟨w6, w7, w8⟩, h9, hF⟩ := fb hF
        refine callVV C hK hA hP hD hS [0, 1, 2] (c_X7_takesAll (a_this := a_this) (a_st := a_st) (a_now := a_now) (a_isKept := a_isKept) (a_draft := a_draft) (a_tape := a_tape) (a_wereAt := a_wereAt) (a_byPlace := a_byPlace) (a_lanes := a_lanes) (a_sizes := a_sizes) (a_cells := a_cells) (a_before := a_before) (v_hasSigns := v_hasSigns) (v_hasEvery := v_hasEvery) (v_taped := v_taped) (v_pos := v_pos) (v_begun := v_begun) (v_sort := v_sort) (v_value := v_value) (v_fault := v_fault) (v_wrongAt := v_wrongAt) (v_moved := v_moved) (v_slipTicks := v_slipTicks) (v_bestCode := v_bestCode) (v_bestMuch := v_bestMuch) (v_straightSum := v_straightSum) (v_movedSum := v_movedSum) (v_allWays := v_allWays) (v_torn := v_torn) (v_st := v_st) (v_now := v_now) h9) cv_X7_takesAll kw4_135 rfl (by decide) rfl rfl rfl ⟨Nat.le_of_ble_eq_true rfl, Nat.le_of_ble_eq_true rfl⟩ ⟨Nat.zero_le _, Nat.zero_le _⟩ hl.1 rfl (Nat.le_of_ble_eq_true rfl) dX7_ticks_33 (fun H locs hP hD hS => ?_)
        have hP : va_P D vwCl [(a_this, .inr (7, [.ref a_st, .ref a_now, .ref a_isKept, .ref a_draft, .int v_hasSigns, .int v_hasEvery, .ref a_tape, .int v_taped, .int v_pos, .int v_begun, .int v_sort, .int v_value, .int v_fault, .int v_wrongAt, .int w6, .int w7, .int v_bestCode, .int v_bestMuch, .long v_straightSum, .long v_movedSum, .long v_allWays, .ref a_wereAt, .ref a_byPlace, .ref a_lanes, .ref a_sizes, .ref a_cells, .int v_torn, .ref a_before])), (a_st, .inl (cI, 168, .inl v_st)), (a_now, .inl (cI, 56, .inl w8))] H := hP
        have hD : va_D A [(a_this, .inr (7, [.ref a_st, .ref a_now, .ref a_isKept, .ref a_draft, .int v_hasSigns, .int v_hasEvery, .ref a_tape, .int v_taped, .int v_pos, .int v_begun, .int v_sort, .int v_value, .int v_fault, .int v_wrongAt, .int w6, .int w7, .int v_bestCode, .int v_bestMuch, .long v_straightSum, .long v_movedSum, .long v_allWays, .ref a_wereAt, .ref a_byPlace, .ref a_lanes, .ref a_sizes, .ref a_cells, .int v_torn, .ref a_before])), (a_st, .inl (cI, 168, .inl v_st)), (a_now, .inl (cI, 56, .inl w8))] := hD
        refine lv_aload_n C.1 C.2.1 dX7_ticks_36 rfl (lv_at hl 0 rfl) ?_
        refine lv_iload_n C.1 C.2.1 dX7_ticks_37 rfl (lv_at hl 1 rfl) ?_
        obtain ⟨⟨w10, w11, w12⟩, h13, hF⟩ := fb hF
        refine callVV C hK hA hP hD hS [0, 2] (c_X7_ticksGo (a_this := a_this) (a_st := a_st) (a_now := a_now) (a_isKept := a_isKept) (a_draft := a_draft) (a_tape := a_tape) (a_wereAt := a_wereAt) (a_byPlace := a_byPlace) (a_lanes := a_lanes) (a_sizes := a_sizes) (a_cells := a_cells) (a_before := a_before) (v_hasSigns := v_hasSigns) (v_hasEvery := v_hasEvery) (v_taped := v_taped) (v_pos := v_pos) (v_begun := v_begun) (v_sort := v_sort) (v_value := v_value) (v_fault := v_fault) (v_wrongAt := v_wrongAt) (v_moved := w6) (v_slipTicks := w7) (v_bestCode := v_bestCode) (v_bestMuch := v_bestMuch) (v_straightSum := v_straightSum) (v_movedSum := v_movedSum) (v_allWays := v_allWays) (v_torn := v_torn) (v_now := w8) h13) cv_X7_ticksGo kw4_225 rfl (by decide) rfl rfl rfl ⟨Nat.le_of_ble_eq_true rfl, Nat.le_of_ble_eq_true rfl⟩ ⟨Nat.zero_le _, Nat.zero_le _⟩ hl.1 rfl (Nat.le_of_ble_eq_true rfl) dX7_ticks_38 (fun H locs hP hD hS => ?_)
        have hP : va_P D vwCl [(a_this, .inr (7, [.ref a_st, .ref a_now, .ref a_isKept, .ref a_draft, .int v_hasSigns, .int v_hasEvery, .ref a_tape, .int v_taped, .int v_pos, .int v_begun, .int v_sort, .int v_value, .int v_fault, .int v_wrongAt, .int w10, .int w11, .int v_bestCode, .int v_bestMuch, .long v_straightSum, .long v_movedSum, .long v_allWays, .ref a_wereAt, .ref a_byPlace, .ref a_lanes, .ref a_sizes, .ref a_cells, .int v_torn, .ref a_before])), (a_st, .inl (cI, 168, .inl v_st)), (a_now, .inl (cI, 56, .inl w12))] H := hP
        have hD : va_D A [(a_this, .inr (7, [.ref a_st, .ref a_now, .ref a_isKept, .ref a_draft, .int v_hasSigns, .int v_hasEvery, .ref a_tape, .int v_taped, .int v_pos, .int v_begun, .int v_sort, .int v_value, .int v_fault, .int v_wrongAt, .int w10, .int w11, .int v_bestCode, .int v_bestMuch, .long v_straightSum, .long v_movedSum, .long v_allWays, .ref a_wereAt, .ref a_byPlace, .ref a_lanes, .ref a_sizes, .ref a_cells, .int v_torn, .ref a_before])), (a_st, .inl (cI, 168, .inl v_st)), (a_now, .inl (cI, 56, .inl w12))] := hD
        refine lv_aload_n C.1 C.2.1 dX7_ticks_41 rfl (lv_at hl 0 rfl) ?_
        obtain ⟨w14, h15, hF⟩ := fb hF
        refine callVV C hK hA hP hD hS [0, 1, 2] (c_X7_settles (a_this := a_this) (a_st := a_st) (a_now := a_now) (a_isKept := a_isKept) (a_draft := a_draft) (a_tape := a_tape) (a_wereAt := a_wereAt) (a_byPlace := a_byPlace) (a_lanes := a_lanes) (a_sizes := a_sizes) (a_cells := a_cells) (a_before := a_before) (v_hasSigns := v_hasSigns) (v_hasEvery := v_hasEvery) (v_taped := v_taped) (v_pos := v_pos) (v_begun := v_begun) (v_sort := v_sort) (v_value := v_value) (v_fault := v_fault) (v_wrongAt := v_wrongAt) (v_moved := w10) (v_slipTicks := w11) (v_bestCode := v_bestCode) (v_bestMuch := v_bestMuch) (v_straightSum := v_straightSum) (v_movedSum := v_movedSum) (v_allWays := v_allWays) (v_torn := v_torn) (v_st := v_st) (v_now := w12) h15) cv_X7_settles kw5_12 rfl (by decide) rfl rfl rfl ⟨Nat.le_of_ble_eq_true rfl, Nat.le_of_ble_eq_true rfl⟩ ⟨Nat.zero_le _, Nat.zero_le _⟩ hl.1 rfl (Nat.le_of_ble_eq_true rfl) dX7_ticks_42 (fun H locs hP hD hS => ?_)
        have hP : va_P D vwCl [(a_this, .inr (7, [.ref a_st, .ref a_now, .ref a_isKept, .ref a_draft, .int v_hasSigns, .int v_hasEvery, .ref a_tape, .int v_taped, .int v_pos, .int v_begun, .int v_sort, .int v_value, .int v_fault, .int v_wrongAt, .int w10, .int w11, .int v_bestCode, .int v_bestMuch, .long v_straightSum, .long v_movedSum, .long v_allWays, .ref a_wereAt, .ref a_byPlace, .ref a_lanes, .ref a_sizes, .ref a_cells, .int v_torn, .ref a_before])), (a_st, .inl (cI, 168, .inl w14)), (a_now, .inl (cI, 56, .inl w12))] H := hP
        have hD : va_D A [(a_this, .inr (7, [.ref a_st, .ref a_now, .ref a_isKept, .ref a_draft, .int v_hasSigns, .int v_hasEvery, .ref a_tape, .int v_taped, .int v_pos, .int v_begun, .int v_sort, .int v_value, .int v_fault, .int v_wrongAt, .int w10, .int w11, .int v_bestCode, .int v_bestMuch, .long v_straightSum, .long v_movedSum, .long v_allWays, .ref a_wereAt, .ref a_byPlace, .ref a_lanes, .ref a_sizes, .ref a_cells, .int v_torn, .ref a_before])), (a_st, .inl (cI, 168, .inl w14)), (a_now, .inl (cI, 56, .inl w12))] := hD
        refine lv_aload_n C.1 C.2.1 dX7_ticks_45 rfl (lv_at hl 0 rfl) ?_
        refine gf_7_7_moved C hK hP 0 rfl rfl dX7_ticks_46 ?_
        have hF := Option.some.inj hF
        subst hF
        exact retI C hr hlk hP hD hS dX7_ticks_49
      · have hF := fn hF c5
        refine lv_bipush (v := (-3)) C.1 C.2.1 dX7_ticks_29 (by decide) ?_
        have hF := Option.some.inj hF
        subst hF
        exact retI C hr hlk hP hD hS dX7_ticks_31
    · have hF := fp hF c3
      refine lv_iconst (v := (-1)) C.1 C.2.1 dX7_ticks_12 (by decide) ?_
      have hF := Option.some.inj hF
      subst hF
      exact retI C hr hlk hP hD hS dX7_ticks_13)
theorem c_X7_ticks {l : Launch} {D : va_G} {cI cB cZ cR cM cS : ClassId} {a_this : Nat} {a_st : Nat} {a_now : Nat} {a_isKept : Nat} {a_draft : Nat} {a_tape : Nat} {a_wereAt : Nat} {a_byPlace : Nat} {a_lanes : Nat} {a_sizes : Nat} {a_cells : Nat} {a_before : Nat} {v_hasSigns : Int32} {v_hasEvery : Int32} {v_taped : Int32} {v_pos : Int32} {v_begun : Int32} {v_sort : Int32} {v_value : Int32} {v_fault : Int32} {v_wrongAt : Int32} {v_moved : Int32} {v_slipTicks : Int32} {v_bestCode : Int32} {v_bestMuch : Int32} {v_straightSum : Int64} {v_movedSum : Int64} {v_allWays : Int64} {v_torn : Int32} {v_st : Nat → Int32} {v_now : Nat → Int32} {x1 : Int32} {r_ : Int32} {v_moved' : Int32} {v_slipTicks' : Int32} {v_st' : Nat → Int32} {v_now' : Nat → Int32} (hF : F_X7_ticks v_moved v_slipTicks v_st v_now x1 = some (r_, v_moved', v_slipTicks', v_st', v_now')) : MI l yX7_ticks cX7_ticks 2 .int rm_X7_ticks D (TS cI cB cZ cR cM cS) [.ref a_this, .int x1] [(a_this, .inr (7, [.ref a_st, .ref a_now, .ref a_isKept, .ref a_draft, .int v_hasSigns, .int v_hasEvery, .ref a_tape, .int v_taped, .int v_pos, .int v_begun, .int v_sort, .int v_value, .int v_fault, .int v_wrongAt, .int v_moved, .int v_slipTicks, .int v_bestCode, .int v_bestMuch, .long v_straightSum, .long v_movedSum, .long v_allWays, .ref a_wereAt, .ref a_byPlace, .ref a_lanes, .ref a_sizes, .ref a_cells, .int v_torn, .ref a_before])), (a_st, .inl (cI, 168, .inl v_st)), (a_now, .inl (cI, 56, .inl v_now))] [(a_this, .inr (7, [.ref a_st, .ref a_now, .ref a_isKept, .ref a_draft, .int v_hasSigns, .int v_hasEvery, .ref a_tape, .int v_taped, .int v_pos, .int v_begun, .int v_sort, .int v_value, .int v_fault, .int v_wrongAt, .int v_moved', .int v_slipTicks', .int v_bestCode, .int v_bestMuch, .long v_straightSum, .long v_movedSum, .long v_allWays, .ref a_wereAt, .ref a_byPlace, .ref a_lanes, .ref a_sizes, .ref a_cells, .int v_torn, .ref a_before])), (a_st, .inl (cI, 168, .inl v_st')), (a_now, .inl (cI, 56, .inl v_now'))] r_ :=
  c0_X7_ticks (res := (r_, v_moved', v_slipTicks', v_st', v_now')) hF
def rm_X7_isFar : Room := { frames := 1, cells := 0, slots := 0, locals := 25 }
theorem cs_X7_isFar : CS yX7_isFar cX7_isFar 1 (some .boolean) rm_X7_isFar RX7 1 := ⟨kw5_21, kw1_8, kw5_22, by decide +kernel, rfl, rfl⟩
set_option maxHeartbeats 4000000 in
set_option maxRecDepth 100000 in
theorem c_X7_isFar {l : Launch} {D : va_G} {cI cB cZ cR cM cS : ClassId} {x0 : Int32} {res : Int32} (hF : F_X7_isFar x0 = some res) : MI l yX7_isFar cX7_isFar 1 .boolean rm_X7_isFar D (TS cI cB cZ cR cM cS) [.int x0] [] [] res :=
  MI_of (by decide) (Nat.le_of_ble_eq_true rfl) (fun p e s m args below meth c A ls C hr hlk hK hA hP hD hS hl => by
    have C : CX p m c cX7_isFar 1 s args RX7 := C
    have hl : lv_has ls 1 [(0, .int x0)] := hl
    unfold F_X7_isFar at hF
    refine lv_iload_n C.1 C.2.1 dX7_isFar_0 rfl (lv_at hl 0 rfl) ?_
    refine lv_i2l (v := x0.toInt64) C.1 C.2.1 dX7_isFar_1 rfl ?_
    refine lv_lconst (v := 0) C.1 C.2.1 dX7_isFar_2 rfl ?_
    refine lv_ldc2 (v := 200) C.1 C.2.1 C.2.2.2.1 (C.2.2.2.2 _ kw5_23) dX7_isFar_3 ?_
    obtain ⟨r1, h2, hF⟩ := fb hF
    refine callSI C hK hA hP hD hS (c_X7_in  h2) cs_X7_in kw4_76 ⟨Nat.le_of_ble_eq_true rfl, Nat.le_of_ble_eq_true rfl⟩ ⟨Nat.zero_le _, Nat.zero_le _⟩ hl.1 rfl (Nat.le_of_ble_eq_true rfl) dX7_isFar_6 (fun H locs hP hD hS => ?_)
    obtain ⟨h3, hF⟩ := fk hF
    have hF := Option.some.inj hF
    subst hF
    exact retZ C hr hlk (narZ h3) hP hD hS dX7_isFar_9)
