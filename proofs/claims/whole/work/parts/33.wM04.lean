def rm_X7_movesBy : Room := { frames := 1, cells := 0, slots := 0, locals := 22 }
theorem cv_X7_movesBy : CV yX7_movesBy cX7_movesBy 5 (some .int) rm_X7_movesBy RX7 2 := ⟨kw5_11, kwp_50, kw1_8, kw5_12, by decide +kernel, rfl, rfl⟩
set_option maxHeartbeats 4000000 in
set_option maxRecDepth 100000 in
theorem b_X7_movesBy_9 {l : Launch} {D : va_G} {cI cB cZ cR cM cS : ClassId} {a_this : Nat} {a_st : Nat} {a_now : Nat} {a_isKept : Nat} {a_draft : Nat} {a_tape : Nat} {a_wereAt : Nat} {a_byPlace : Nat} {a_lanes : Nat} {a_sizes : Nat} {a_cells : Nat} {a_before : Nat} {v_hasSigns : Int32} {v_hasEvery : Int32} {v_taped : Int32} {v_pos : Int32} {v_begun : Int32} {v_sort : Int32} {v_value : Int32} {v_fault : Int32} {v_wrongAt : Int32} {v_moved : Int32} {v_slipTicks : Int32} {v_bestCode : Int32} {v_bestMuch : Int32} {v_straightSum : Int64} {v_movedSum : Int64} {v_allWays : Int64} {v_torn : Int32} {p : Program} {e : Env} {s : State} {m : MethodId} {args : Array Value} {below : List Frame} {meth : Method} {c : Code} {A : Nat → Prop} {r_ : Int32} (C : CX p m c cX7_movesBy 5 s args RX7) (hr : meth.sig.returnType = (some .int)) (hlk : meth.locks = false) (hK : KK D (TS cI cB cZ cR cM cS) s) (hA : ∀ q, s.heap.size ≤ q → A q) : ∀ (v_now : Nat → Int32) (x1 : Int32) (x2 : Int32) (s0 : Int32) (H : Heap) (locs : List Loc) (ls : Array Slot), F_X7_movesBy_9 v_now x1 x2 s0 = some r_ → va_P D vwCl [(a_this, .inr (7, [.ref a_st, .ref a_now, .ref a_isKept, .ref a_draft, .int v_hasSigns, .int v_hasEvery, .ref a_tape, .int v_taped, .int v_pos, .int v_begun, .int v_sort, .int v_value, .int v_fault, .int v_wrongAt, .int v_moved, .int v_slipTicks, .int v_bestCode, .int v_bestMuch, .long v_straightSum, .long v_movedSum, .long v_allWays, .ref a_wereAt, .ref a_byPlace, .ref a_lanes, .ref a_sizes, .ref a_cells, .int v_torn, .ref a_before])), (a_now, .inl (cI, 56, .inl v_now))] H → va_D A [(a_this, .inr (7, [.ref a_st, .ref a_now, .ref a_isKept, .ref a_draft, .int v_hasSigns, .int v_hasEvery, .ref a_tape, .int v_taped, .int v_pos, .int v_begun, .int v_sort, .int v_value, .int v_fault, .int v_wrongAt, .int v_moved, .int v_slipTicks, .int v_bestCode, .int v_bestMuch, .long v_straightSum, .long v_movedSum, .long v_allWays, .ref a_wereAt, .ref a_byPlace, .ref a_lanes, .ref a_sizes, .ref a_cells, .int v_torn, .ref a_before])), (a_now, .inl (cI, 56, .inl v_now))] → va_S A s.heap H locs → lv_has ls 5 [(0, .ref a_this), (1, .int x1), (2, .int x2)] → W p l e rm_X7_movesBy s m args below meth c H locs 0 0 (MQ below (va_Qi (fun x (_ : Unit) => x = r_) (BW D A [(a_this, .inr (7, [.ref a_st, .ref a_now, .ref a_isKept, .ref a_draft, .int v_hasSigns, .int v_hasEvery, .ref a_tape, .int v_taped, .int v_pos, .int v_begun, .int v_sort, .int v_value, .int v_fault, .int v_wrongAt, .int v_moved, .int v_slipTicks, .int v_bestCode, .int v_bestMuch, .long v_straightSum, .long v_movedSum, .long v_allWays, .ref a_wereAt, .ref a_byPlace, .ref a_lanes, .ref a_sizes, .ref a_cells, .int v_torn, .ref a_before])), (a_now, .inl (cI, 56, .inl v_now))]) A) args s 0 0 A) (F0 m 9 ls [.int s0]) := by
  intro v_now x1 x2 s0 H locs ls hF  hP hD hS hl
  unfold F_X7_movesBy_9 at hF
  refine lv_istore_n (lv' := [(3, .int s0), (0, .ref a_this), (1, .int x1), (2, .int x2)]) C.1 C.2.1 dX7_movesBy_9 rfl hl (by decide) rfl (fun ls hl => ?_)
  refine lv_iload_n C.1 C.2.1 dX7_movesBy_10 rfl (lv_at hl 3 rfl) ?_
  obtain ⟨r1, h2, hF⟩ := fb hF
  refine callSI C hK hA hP hD hS (c_X7_amount  h2) cs_X7_amount kw4_160 ⟨Nat.le_of_ble_eq_true rfl, Nat.le_of_ble_eq_true rfl⟩ ⟨Nat.zero_le _, Nat.zero_le _⟩ hl.1 rfl (Nat.le_of_ble_eq_true rfl) dX7_movesBy_11 (fun H locs hP hD hS => ?_)
  refine lv_istore (lv' := [(4, .int r1), (3, .int s0), (0, .ref a_this), (1, .int x1), (2, .int x2)]) C.1 C.2.1 dX7_movesBy_14 hl (by decide) rfl (fun ls hl => ?_)
  refine lv_aload_n C.1 C.2.1 dX7_movesBy_16 rfl (lv_at hl 2 rfl) ?_
  refine lv_iload_n C.1 C.2.1 dX7_movesBy_17 rfl (lv_at hl 3 rfl) ?_
  refine lv_iconst (v := 0) C.1 C.2.1 dX7_movesBy_18 (by decide) ?_
  obtain ⟨r3, h4, hF⟩ := fb hF
  refine callVI C hK hA hP hD hS [0, 1] (c_X7_of (a_this := a_this) (a_st := a_st) (a_now := a_now) (a_isKept := a_isKept) (a_draft := a_draft) (a_tape := a_tape) (a_wereAt := a_wereAt) (a_byPlace := a_byPlace) (a_lanes := a_lanes) (a_sizes := a_sizes) (a_cells := a_cells) (a_before := a_before) (v_hasSigns := v_hasSigns) (v_hasEvery := v_hasEvery) (v_taped := v_taped) (v_pos := v_pos) (v_begun := v_begun) (v_sort := v_sort) (v_value := v_value) (v_fault := v_fault) (v_wrongAt := v_wrongAt) (v_moved := v_moved) (v_slipTicks := v_slipTicks) (v_bestCode := v_bestCode) (v_bestMuch := v_bestMuch) (v_straightSum := v_straightSum) (v_movedSum := v_movedSum) (v_allWays := v_allWays) (v_torn := v_torn) (v_now := v_now) h4) cv_X7_of kw4_153 rfl (by decide) rfl rfl rfl ⟨Nat.le_of_ble_eq_true rfl, Nat.le_of_ble_eq_true rfl⟩ ⟨Nat.zero_le _, Nat.zero_le _⟩ hl.1 rfl (Nat.le_of_ble_eq_true rfl) dX7_movesBy_19 (fun H locs hP hD hS => ?_)
  have hP : va_P D vwCl [(a_this, .inr (7, [.ref a_st, .ref a_now, .ref a_isKept, .ref a_draft, .int v_hasSigns, .int v_hasEvery, .ref a_tape, .int v_taped, .int v_pos, .int v_begun, .int v_sort, .int v_value, .int v_fault, .int v_wrongAt, .int v_moved, .int v_slipTicks, .int v_bestCode, .int v_bestMuch, .long v_straightSum, .long v_movedSum, .long v_allWays, .ref a_wereAt, .ref a_byPlace, .ref a_lanes, .ref a_sizes, .ref a_cells, .int v_torn, .ref a_before])), (a_now, .inl (cI, 56, .inl v_now))] H := hP
  have hD : va_D A [(a_this, .inr (7, [.ref a_st, .ref a_now, .ref a_isKept, .ref a_draft, .int v_hasSigns, .int v_hasEvery, .ref a_tape, .int v_taped, .int v_pos, .int v_begun, .int v_sort, .int v_value, .int v_fault, .int v_wrongAt, .int v_moved, .int v_slipTicks, .int v_bestCode, .int v_bestMuch, .long v_straightSum, .long v_movedSum, .long v_allWays, .ref a_wereAt, .ref a_byPlace, .ref a_lanes, .ref a_sizes, .ref a_cells, .int v_torn, .ref a_before])), (a_now, .inl (cI, 56, .inl v_now))] := hD
  by_cases c5 : r3 = (1 : Int32)
  · have hF := fp hF c5
    refine lv_tableIn (tgt := 48) C.1 C.2.1 dX7_movesBy_22 (by rw [c5]; decide) (by rw [c5]; decide) (by rw [c5]; rfl) (by decide) ?_
    refine lv_iload C.1 C.2.1 dX7_movesBy_48 (lv_at hl 0 rfl) ?_
    refine lv_iconst (v := 1) C.1 C.2.1 dX7_movesBy_50 (by decide) ?_
    refine lv_icmp_le (tgt := 60) C.1 C.2.1 dX7_movesBy_51 (by decide) (fun c6 => ?_) (fun c6 => ?_)
    · have hF := fp hF c6
      refine lv_iload_n C.1 C.2.1 dX7_movesBy_60 rfl (lv_at hl 1 rfl) ?_
      cases hF
      exact retI C hr hlk hP hD hS dX7_movesBy_61
    · have hF := fn hF c6
      refine lv_iconst (v := 2) C.1 C.2.1 dX7_movesBy_54 (by decide) ?_
      refine lv_iload_n C.1 C.2.1 dX7_movesBy_55 rfl (lv_at hl 1 rfl) ?_
      refine lv_imul C.1 C.2.1 dX7_movesBy_56 ?_
      refine lv_goto (tgt := 61) C.1 C.2.1 dX7_movesBy_57 (by decide) ?_
      cases hF
      exact retI C hr hlk hP hD hS dX7_movesBy_61
  · have hF := fn hF c5
    by_cases c7 : r3 = (2 : Int32)
    · have hF := fp hF c7
      refine lv_tableIn (tgt := 62) C.1 C.2.1 dX7_movesBy_22 (by rw [c7]; decide) (by rw [c7]; decide) (by rw [c7]; rfl) (by decide) ?_
      refine lv_aload_n C.1 C.2.1 dX7_movesBy_62 rfl (lv_at hl 2 rfl) ?_
      refine lv_iload_n C.1 C.2.1 dX7_movesBy_63 rfl (lv_at hl 3 rfl) ?_
      refine lv_iconst (v := 3) C.1 C.2.1 dX7_movesBy_64 (by decide) ?_
      obtain ⟨r8, h9, hF⟩ := fb hF
      refine callVI C hK hA hP hD hS [0, 1] (c_X7_of (a_this := a_this) (a_st := a_st) (a_now := a_now) (a_isKept := a_isKept) (a_draft := a_draft) (a_tape := a_tape) (a_wereAt := a_wereAt) (a_byPlace := a_byPlace) (a_lanes := a_lanes) (a_sizes := a_sizes) (a_cells := a_cells) (a_before := a_before) (v_hasSigns := v_hasSigns) (v_hasEvery := v_hasEvery) (v_taped := v_taped) (v_pos := v_pos) (v_begun := v_begun) (v_sort := v_sort) (v_value := v_value) (v_fault := v_fault) (v_wrongAt := v_wrongAt) (v_moved := v_moved) (v_slipTicks := v_slipTicks) (v_bestCode := v_bestCode) (v_bestMuch := v_bestMuch) (v_straightSum := v_straightSum) (v_movedSum := v_movedSum) (v_allWays := v_allWays) (v_torn := v_torn) (v_now := v_now) h9) cv_X7_of kw4_153 rfl (by decide) rfl rfl rfl ⟨Nat.le_of_ble_eq_true rfl, Nat.le_of_ble_eq_true rfl⟩ ⟨Nat.zero_le _, Nat.zero_le _⟩ hl.1 rfl (Nat.le_of_ble_eq_true rfl) dX7_movesBy_65 (fun H locs hP hD hS => ?_)
      have hP : va_P D vwCl [(a_this, .inr (7, [.ref a_st, .ref a_now, .ref a_isKept, .ref a_draft, .int v_hasSigns, .int v_hasEvery, .ref a_tape, .int v_taped, .int v_pos, .int v_begun, .int v_sort, .int v_value, .int v_fault, .int v_wrongAt, .int v_moved, .int v_slipTicks, .int v_bestCode, .int v_bestMuch, .long v_straightSum, .long v_movedSum, .long v_allWays, .ref a_wereAt, .ref a_byPlace, .ref a_lanes, .ref a_sizes, .ref a_cells, .int v_torn, .ref a_before])), (a_now, .inl (cI, 56, .inl v_now))] H := hP
      have hD : va_D A [(a_this, .inr (7, [.ref a_st, .ref a_now, .ref a_isKept, .ref a_draft, .int v_hasSigns, .int v_hasEvery, .ref a_tape, .int v_taped, .int v_pos, .int v_begun, .int v_sort, .int v_value, .int v_fault, .int v_wrongAt, .int v_moved, .int v_slipTicks, .int v_bestCode, .int v_bestMuch, .long v_straightSum, .long v_movedSum, .long v_allWays, .ref a_wereAt, .ref a_byPlace, .ref a_lanes, .ref a_sizes, .ref a_cells, .int v_torn, .ref a_before])), (a_now, .inl (cI, 56, .inl v_now))] := hD
      refine lv_iload_n C.1 C.2.1 dX7_movesBy_68 rfl (lv_at hl 1 rfl) ?_
      refine lv_icmp_ne (tgt := 76) C.1 C.2.1 dX7_movesBy_69 (by decide) (fun c10 => ?_) (fun c10 => ?_)
      · have hF := fn hF c10
        refine lv_iconst (v := 0) C.1 C.2.1 dX7_movesBy_76 (by decide) ?_
        cases hF
        exact retI C hr hlk hP hD hS dX7_movesBy_77
      · have hF := fp hF c10
        refine lv_iload_n C.1 C.2.1 dX7_movesBy_72 rfl (lv_at hl 1 rfl) ?_
        refine lv_goto (tgt := 77) C.1 C.2.1 dX7_movesBy_73 (by decide) ?_
        cases hF
        exact retI C hr hlk hP hD hS dX7_movesBy_77
    · have hF := fn hF c7
      by_cases c11 : r3 = (3 : Int32)
      · have hF := fp hF c11
        refine lv_tableIn (tgt := 78) C.1 C.2.1 dX7_movesBy_22 (by rw [c11]; decide) (by rw [c11]; decide) (by rw [c11]; rfl) (by decide) ?_
        refine lv_aload_n C.1 C.2.1 dX7_movesBy_78 rfl (lv_at hl 2 rfl) ?_
        refine lv_iload_n C.1 C.2.1 dX7_movesBy_79 rfl (lv_at hl 3 rfl) ?_
        refine lv_iconst (v := 3) C.1 C.2.1 dX7_movesBy_80 (by decide) ?_
        obtain ⟨r12, h13, hF⟩ := fb hF
        refine callVI C hK hA hP hD hS [0, 1] (c_X7_of (a_this := a_this) (a_st := a_st) (a_now := a_now) (a_isKept := a_isKept) (a_draft := a_draft) (a_tape := a_tape) (a_wereAt := a_wereAt) (a_byPlace := a_byPlace) (a_lanes := a_lanes) (a_sizes := a_sizes) (a_cells := a_cells) (a_before := a_before) (v_hasSigns := v_hasSigns) (v_hasEvery := v_hasEvery) (v_taped := v_taped) (v_pos := v_pos) (v_begun := v_begun) (v_sort := v_sort) (v_value := v_value) (v_fault := v_fault) (v_wrongAt := v_wrongAt) (v_moved := v_moved) (v_slipTicks := v_slipTicks) (v_bestCode := v_bestCode) (v_bestMuch := v_bestMuch) (v_straightSum := v_straightSum) (v_movedSum := v_movedSum) (v_allWays := v_allWays) (v_torn := v_torn) (v_now := v_now) h13) cv_X7_of kw4_153 rfl (by decide) rfl rfl rfl ⟨Nat.le_of_ble_eq_true rfl, Nat.le_of_ble_eq_true rfl⟩ ⟨Nat.zero_le _, Nat.zero_le _⟩ hl.1 rfl (Nat.le_of_ble_eq_true rfl) dX7_movesBy_81 (fun H locs hP hD hS => ?_)
        have hP : va_P D vwCl [(a_this, .inr (7, [.ref a_st, .ref a_now, .ref a_isKept, .ref a_draft, .int v_hasSigns, .int v_hasEvery, .ref a_tape, .int v_taped, .int v_pos, .int v_begun, .int v_sort, .int v_value, .int v_fault, .int v_wrongAt, .int v_moved, .int v_slipTicks, .int v_bestCode, .int v_bestMuch, .long v_straightSum, .long v_movedSum, .long v_allWays, .ref a_wereAt, .ref a_byPlace, .ref a_lanes, .ref a_sizes, .ref a_cells, .int v_torn, .ref a_before])), (a_now, .inl (cI, 56, .inl v_now))] H := hP
        have hD : va_D A [(a_this, .inr (7, [.ref a_st, .ref a_now, .ref a_isKept, .ref a_draft, .int v_hasSigns, .int v_hasEvery, .ref a_tape, .int v_taped, .int v_pos, .int v_begun, .int v_sort, .int v_value, .int v_fault, .int v_wrongAt, .int v_moved, .int v_slipTicks, .int v_bestCode, .int v_bestMuch, .long v_straightSum, .long v_movedSum, .long v_allWays, .ref a_wereAt, .ref a_byPlace, .ref a_lanes, .ref a_sizes, .ref a_cells, .int v_torn, .ref a_before])), (a_now, .inl (cI, 56, .inl v_now))] := hD
        refine lv_iload_n C.1 C.2.1 dX7_movesBy_84 rfl (lv_at hl 1 rfl) ?_
        refine lv_icmp_ne (tgt := 98) C.1 C.2.1 dX7_movesBy_85 (by decide) (fun c14 => ?_) (fun c14 => ?_)
        · have hF := fn hF c14
          refine lv_iconst (v := 0) C.1 C.2.1 dX7_movesBy_98 (by decide) ?_
          cases hF
          exact retI C hr hlk hP hD hS dX7_movesBy_99
        · have hF := fp hF c14
          refine lv_iload C.1 C.2.1 dX7_movesBy_88 (lv_at hl 0 rfl) ?_
          refine lv_iconst (v := 1) C.1 C.2.1 dX7_movesBy_90 (by decide) ?_
          refine lv_icmp_le (tgt := 98) C.1 C.2.1 dX7_movesBy_91 (by decide) (fun c15 => ?_) (fun c15 => ?_)
          · have hF := fp hF c15
            refine lv_iconst (v := 0) C.1 C.2.1 dX7_movesBy_98 (by decide) ?_
            cases hF
            exact retI C hr hlk hP hD hS dX7_movesBy_99
          · have hF := fn hF c15
            refine lv_iload_n C.1 C.2.1 dX7_movesBy_94 rfl (lv_at hl 1 rfl) ?_
            refine lv_goto (tgt := 99) C.1 C.2.1 dX7_movesBy_95 (by decide) ?_
            cases hF
            exact retI C hr hlk hP hD hS dX7_movesBy_99
      · have hF := fn hF c11
        refine lv_tableOut (tgt := 100) C.1 C.2.1 dX7_movesBy_22 (by have q0 := lv_neT (k := 1) (a := 1) c5 (by decide); have q1 := lv_neT (k := 2) (a := 2) c7 (by decide); have q2 := lv_neT (k := 3) (a := 3) c11 (by decide); omega) (by decide) ?_
        refine lv_iload_n C.1 C.2.1 dX7_movesBy_100 rfl (lv_at hl 1 rfl) ?_
        cases hF
        exact retI C hr hlk hP hD hS dX7_movesBy_101
set_option maxHeartbeats 4000000 in
set_option maxRecDepth 100000 in
theorem c_X7_movesBy {l : Launch} {D : va_G} {cI cB cZ cR cM cS : ClassId} {a_this : Nat} {a_st : Nat} {a_now : Nat} {a_isKept : Nat} {a_draft : Nat} {a_tape : Nat} {a_wereAt : Nat} {a_byPlace : Nat} {a_lanes : Nat} {a_sizes : Nat} {a_cells : Nat} {a_before : Nat} {v_hasSigns : Int32} {v_hasEvery : Int32} {v_taped : Int32} {v_pos : Int32} {v_begun : Int32} {v_sort : Int32} {v_value : Int32} {v_fault : Int32} {v_wrongAt : Int32} {v_moved : Int32} {v_slipTicks : Int32} {v_bestCode : Int32} {v_bestMuch : Int32} {v_straightSum : Int64} {v_movedSum : Int64} {v_allWays : Int64} {v_torn : Int32} {v_now : Nat → Int32} {x1 : Int32} {x2 : Int32} {r_ : Int32} (hF : F_X7_movesBy v_now x1 x2 = some r_) : MI l yX7_movesBy cX7_movesBy 5 .int rm_X7_movesBy D (TS cI cB cZ cR cM cS) [.ref a_this, .int x1, .int x2] [(a_this, .inr (7, [.ref a_st, .ref a_now, .ref a_isKept, .ref a_draft, .int v_hasSigns, .int v_hasEvery, .ref a_tape, .int v_taped, .int v_pos, .int v_begun, .int v_sort, .int v_value, .int v_fault, .int v_wrongAt, .int v_moved, .int v_slipTicks, .int v_bestCode, .int v_bestMuch, .long v_straightSum, .long v_movedSum, .long v_allWays, .ref a_wereAt, .ref a_byPlace, .ref a_lanes, .ref a_sizes, .ref a_cells, .int v_torn, .ref a_before])), (a_now, .inl (cI, 56, .inl v_now))] [(a_this, .inr (7, [.ref a_st, .ref a_now, .ref a_isKept, .ref a_draft, .int v_hasSigns, .int v_hasEvery, .ref a_tape, .int v_taped, .int v_pos, .int v_begun, .int v_sort, .int v_value, .int v_fault, .int v_wrongAt, .int v_moved, .int v_slipTicks, .int v_bestCode, .int v_bestMuch, .long v_straightSum, .long v_movedSum, .long v_allWays, .ref a_wereAt, .ref a_byPlace, .ref a_lanes, .ref a_sizes, .ref a_cells, .int v_torn, .ref a_before])), (a_now, .inl (cI, 56, .inl v_now))] r_ :=
  MI_of (by decide) (Nat.le_of_ble_eq_true rfl) (fun p e s m args below meth c A ls C hr hlk hK hA hP hD hS hl => by
    have C : CX p m c cX7_movesBy 5 s args RX7 := C
    have hl : lv_has ls 5 [(0, .ref a_this), (1, .int x1), (2, .int x2)] := hl
    unfold F_X7_movesBy at hF
    refine lv_iload_n C.1 C.2.1 dX7_movesBy_0 rfl (lv_at hl 2 rfl) ?_
    refine lv_if_ge (tgt := 8) C.1 C.2.1 dX7_movesBy_1 (by decide) (fun c1 => ?_) (fun c1 => ?_)
    · have hF := fp hF c1
      refine lv_iconst (v := 1) C.1 C.2.1 dX7_movesBy_8 (by decide) ?_
      exact b_X7_movesBy_9 C hr hlk hK hA v_now x1 x2 (1 : Int32) _ _ _ hF hP hD hS (lv_sub hl [0, 1, 2] rfl)
    · have hF := fn hF c1
      refine lv_iconst (v := (-1)) C.1 C.2.1 dX7_movesBy_4 (by decide) ?_
      refine lv_goto (tgt := 9) C.1 C.2.1 dX7_movesBy_5 (by decide) ?_
      exact b_X7_movesBy_9 C hr hlk hK hA v_now x1 x2 ((-1) : Int32) _ _ _ hF hP hD hS (lv_sub hl [0, 1, 2] rfl))
def rm_X7_rotorGoes : Room := { frames := 3, cells := 0, slots := 0, locals := 65 }
theorem cv_X7_rotorGoes : CV yX7_rotorGoes cX7_rotorGoes 5 none rm_X7_rotorGoes RX7 1 := ⟨kw5_7, kwp_49, kw1_8, kw5_8, by decide +kernel, rfl, rfl⟩
set_option maxHeartbeats 4000000 in
set_option maxRecDepth 100000 in
theorem b_X7_rotorGoes_98 {l : Launch} {D : va_G} {cI cB cZ cR cM cS : ClassId} {a_this : Nat} {a_st : Nat} {a_now : Nat} {a_isKept : Nat} {a_draft : Nat} {a_tape : Nat} {a_wereAt : Nat} {a_byPlace : Nat} {a_lanes : Nat} {a_sizes : Nat} {a_cells : Nat} {a_before : Nat} {v_hasSigns : Int32} {v_hasEvery : Int32} {v_taped : Int32} {v_pos : Int32} {v_begun : Int32} {v_sort : Int32} {v_value : Int32} {v_fault : Int32} {v_wrongAt : Int32} {v_slipTicks : Int32} {v_bestCode : Int32} {v_bestMuch : Int32} {v_straightSum : Int64} {v_movedSum : Int64} {v_allWays : Int64} {v_torn : Int32} {p : Program} {e : Env} {s : State} {m : MethodId} {args : Array Value} {below : List Frame} {meth : Method} {c : Code} {A : Nat → Prop} {v_moved' : Int32} {v_now' : Nat → Int32} (C : CX p m c cX7_rotorGoes 5 s args RX7) (hr : meth.sig.returnType = none) (hlk : meth.locks = false) (hK : KK D (TS cI cB cZ cR cM cS) s) (hA : ∀ q, s.heap.size ≤ q → A q) : ∀ (v_moved : Int32) (v_now : Nat → Int32) (s0 : Int32) (s1 : Int32) (s2 : Int32) (H : Heap) (locs : List Loc) (ls : Array Slot), F_X7_rotorGoes_98 v_moved v_now s0 s1 s2 = some (v_moved', v_now') → va_P D vwCl [(a_this, .inr (7, [.ref a_st, .ref a_now, .ref a_isKept, .ref a_draft, .int v_hasSigns, .int v_hasEvery, .ref a_tape, .int v_taped, .int v_pos, .int v_begun, .int v_sort, .int v_value, .int v_fault, .int v_wrongAt, .int v_moved, .int v_slipTicks, .int v_bestCode, .int v_bestMuch, .long v_straightSum, .long v_movedSum, .long v_allWays, .ref a_wereAt, .ref a_byPlace, .ref a_lanes, .ref a_sizes, .ref a_cells, .int v_torn, .ref a_before])), (a_now, .inl (cI, 56, .inl v_now))] H → va_D A [(a_this, .inr (7, [.ref a_st, .ref a_now, .ref a_isKept, .ref a_draft, .int v_hasSigns, .int v_hasEvery, .ref a_tape, .int v_taped, .int v_pos, .int v_begun, .int v_sort, .int v_value, .int v_fault, .int v_wrongAt, .int v_moved, .int v_slipTicks, .int v_bestCode, .int v_bestMuch, .long v_straightSum, .long v_movedSum, .long v_allWays, .ref a_wereAt, .ref a_byPlace, .ref a_lanes, .ref a_sizes, .ref a_cells, .int v_torn, .ref a_before])), (a_now, .inl (cI, 56, .inl v_now))] → va_S A s.heap H locs → lv_has ls 5 [] → W p l e rm_X7_rotorGoes s m args below meth c H locs 0 0 (MQ below (va_Qv (fun (_ : Unit) => True) (BW D A [(a_this, .inr (7, [.ref a_st, .ref a_now, .ref a_isKept, .ref a_draft, .int v_hasSigns, .int v_hasEvery, .ref a_tape, .int v_taped, .int v_pos, .int v_begun, .int v_sort, .int v_value, .int v_fault, .int v_wrongAt, .int v_moved', .int v_slipTicks, .int v_bestCode, .int v_bestMuch, .long v_straightSum, .long v_movedSum, .long v_allWays, .ref a_wereAt, .ref a_byPlace, .ref a_lanes, .ref a_sizes, .ref a_cells, .int v_torn, .ref a_before])), (a_now, .inl (cI, 56, .inl v_now'))]) A) args s 0 0 A) (F0 m 98 ls [.int s0, .int s1, .int s2, .ref a_this]) := by
  intro v_moved v_now s0 s1 s2 H locs ls hF  hP hD hS hl
  unfold F_X7_rotorGoes_98 at hF
  obtain ⟨w1, h2, hF⟩ := fb hF
  refine callVV C hK hA hP hD hS [0, 1] (c_X7_becomesOf (a_this := a_this) (a_st := a_st) (a_now := a_now) (a_isKept := a_isKept) (a_draft := a_draft) (a_tape := a_tape) (a_wereAt := a_wereAt) (a_byPlace := a_byPlace) (a_lanes := a_lanes) (a_sizes := a_sizes) (a_cells := a_cells) (a_before := a_before) (v_hasSigns := v_hasSigns) (v_hasEvery := v_hasEvery) (v_taped := v_taped) (v_pos := v_pos) (v_begun := v_begun) (v_sort := v_sort) (v_value := v_value) (v_fault := v_fault) (v_wrongAt := v_wrongAt) (v_moved := v_moved) (v_slipTicks := v_slipTicks) (v_bestCode := v_bestCode) (v_bestMuch := v_bestMuch) (v_straightSum := v_straightSum) (v_movedSum := v_movedSum) (v_allWays := v_allWays) (v_torn := v_torn) (v_now := v_now) h2) cv_X7_becomesOf kw5_1 rfl (by decide) rfl rfl rfl ⟨Nat.le_of_ble_eq_true rfl, Nat.le_of_ble_eq_true rfl⟩ ⟨Nat.zero_le _, Nat.zero_le _⟩ hl.1 rfl (Nat.le_of_ble_eq_true rfl) dX7_rotorGoes_98 (fun H locs hP hD hS => ?_)
  have hP : va_P D vwCl [(a_this, .inr (7, [.ref a_st, .ref a_now, .ref a_isKept, .ref a_draft, .int v_hasSigns, .int v_hasEvery, .ref a_tape, .int v_taped, .int v_pos, .int v_begun, .int v_sort, .int v_value, .int v_fault, .int v_wrongAt, .int v_moved, .int v_slipTicks, .int v_bestCode, .int v_bestMuch, .long v_straightSum, .long v_movedSum, .long v_allWays, .ref a_wereAt, .ref a_byPlace, .ref a_lanes, .ref a_sizes, .ref a_cells, .int v_torn, .ref a_before])), (a_now, .inl (cI, 56, .inl w1))] H := hP
  have hD : va_D A [(a_this, .inr (7, [.ref a_st, .ref a_now, .ref a_isKept, .ref a_draft, .int v_hasSigns, .int v_hasEvery, .ref a_tape, .int v_taped, .int v_pos, .int v_begun, .int v_sort, .int v_value, .int v_fault, .int v_wrongAt, .int v_moved, .int v_slipTicks, .int v_bestCode, .int v_bestMuch, .long v_straightSum, .long v_movedSum, .long v_allWays, .ref a_wereAt, .ref a_byPlace, .ref a_lanes, .ref a_sizes, .ref a_cells, .int v_torn, .ref a_before])), (a_now, .inl (cI, 56, .inl w1))] := hD
  cases hF
  exact retV C hr hlk hP hD hS dX7_rotorGoes_101
set_option maxHeartbeats 4000000 in
set_option maxRecDepth 100000 in
theorem b_X7_rotorGoes_96 {l : Launch} {D : va_G} {cI cB cZ cR cM cS : ClassId} {a_this : Nat} {a_st : Nat} {a_now : Nat} {a_isKept : Nat} {a_draft : Nat} {a_tape : Nat} {a_wereAt : Nat} {a_byPlace : Nat} {a_lanes : Nat} {a_sizes : Nat} {a_cells : Nat} {a_before : Nat} {v_hasSigns : Int32} {v_hasEvery : Int32} {v_taped : Int32} {v_pos : Int32} {v_begun : Int32} {v_sort : Int32} {v_value : Int32} {v_fault : Int32} {v_wrongAt : Int32} {v_slipTicks : Int32} {v_bestCode : Int32} {v_bestMuch : Int32} {v_straightSum : Int64} {v_movedSum : Int64} {v_allWays : Int64} {v_torn : Int32} {p : Program} {e : Env} {s : State} {m : MethodId} {args : Array Value} {below : List Frame} {meth : Method} {c : Code} {A : Nat → Prop} {v_moved' : Int32} {v_now' : Nat → Int32} (C : CX p m c cX7_rotorGoes 5 s args RX7) (hr : meth.sig.returnType = none) (hlk : meth.locks = false) (hK : KK D (TS cI cB cZ cR cM cS) s) (hA : ∀ q, s.heap.size ≤ q → A q) : ∀ (v_moved : Int32) (v_now : Nat → Int32) (x4 : Int32) (s0 : Int32) (s1 : Int32) (H : Heap) (locs : List Loc) (ls : Array Slot), F_X7_rotorGoes_96 v_moved v_now x4 s0 s1 = some (v_moved', v_now') → va_P D vwCl [(a_this, .inr (7, [.ref a_st, .ref a_now, .ref a_isKept, .ref a_draft, .int v_hasSigns, .int v_hasEvery, .ref a_tape, .int v_taped, .int v_pos, .int v_begun, .int v_sort, .int v_value, .int v_fault, .int v_wrongAt, .int v_moved, .int v_slipTicks, .int v_bestCode, .int v_bestMuch, .long v_straightSum, .long v_movedSum, .long v_allWays, .ref a_wereAt, .ref a_byPlace, .ref a_lanes, .ref a_sizes, .ref a_cells, .int v_torn, .ref a_before])), (a_now, .inl (cI, 56, .inl v_now))] H → va_D A [(a_this, .inr (7, [.ref a_st, .ref a_now, .ref a_isKept, .ref a_draft, .int v_hasSigns, .int v_hasEvery, .ref a_tape, .int v_taped, .int v_pos, .int v_begun, .int v_sort, .int v_value, .int v_fault, .int v_wrongAt, .int v_moved, .int v_slipTicks, .int v_bestCode, .int v_bestMuch, .long v_straightSum, .long v_movedSum, .long v_allWays, .ref a_wereAt, .ref a_byPlace, .ref a_lanes, .ref a_sizes, .ref a_cells, .int v_torn, .ref a_before])), (a_now, .inl (cI, 56, .inl v_now))] → va_S A s.heap H locs → lv_has ls 5 [(4, .int x4)] → W p l e rm_X7_rotorGoes s m args below meth c H locs 0 0 (MQ below (va_Qv (fun (_ : Unit) => True) (BW D A [(a_this, .inr (7, [.ref a_st, .ref a_now, .ref a_isKept, .ref a_draft, .int v_hasSigns, .int v_hasEvery, .ref a_tape, .int v_taped, .int v_pos, .int v_begun, .int v_sort, .int v_value, .int v_fault, .int v_wrongAt, .int v_moved', .int v_slipTicks, .int v_bestCode, .int v_bestMuch, .long v_straightSum, .long v_movedSum, .long v_allWays, .ref a_wereAt, .ref a_byPlace, .ref a_lanes, .ref a_sizes, .ref a_cells, .int v_torn, .ref a_before])), (a_now, .inl (cI, 56, .inl v_now'))]) A) args s 0 0 A) (F0 m 96 ls [.int s0, .int s1, .ref a_this]) := by
  intro v_moved v_now x4 s0 s1 H locs ls hF  hP hD hS hl
  unfold F_X7_rotorGoes_96 at hF
  refine lv_iload C.1 C.2.1 dX7_rotorGoes_96 (lv_at hl 0 rfl) ?_
  exact b_X7_rotorGoes_98 C hr hlk hK hA v_moved v_now x4 s0 s1 _ _ _ hF hP hD hS (lv_sub hl [] rfl)
set_option maxHeartbeats 4000000 in
set_option maxRecDepth 100000 in
theorem b_X7_rotorGoes_42 {l : Launch} {D : va_G} {cI cB cZ cR cM cS : ClassId} {a_this : Nat} {a_st : Nat} {a_now : Nat} {a_isKept : Nat} {a_draft : Nat} {a_tape : Nat} {a_wereAt : Nat} {a_byPlace : Nat} {a_lanes : Nat} {a_sizes : Nat} {a_cells : Nat} {a_before : Nat} {v_hasSigns : Int32} {v_hasEvery : Int32} {v_taped : Int32} {v_pos : Int32} {v_begun : Int32} {v_sort : Int32} {v_value : Int32} {v_fault : Int32} {v_wrongAt : Int32} {v_slipTicks : Int32} {v_bestCode : Int32} {v_bestMuch : Int32} {v_straightSum : Int64} {v_movedSum : Int64} {v_allWays : Int64} {v_torn : Int32} {p : Program} {e : Env} {s : State} {m : MethodId} {args : Array Value} {below : List Frame} {meth : Method} {c : Code} {A : Nat → Prop} {v_moved' : Int32} {v_now' : Nat → Int32} (C : CX p m c cX7_rotorGoes 5 s args RX7) (hr : meth.sig.returnType = none) (hlk : meth.locks = false) (hK : KK D (TS cI cB cZ cR cM cS) s) (hA : ∀ q, s.heap.size ≤ q → A q) : ∀ (v_moved : Int32) (v_now : Nat → Int32) (x1 : Int32) (x2 : Int32) (x3 : Int32) (s0 : Int32) (H : Heap) (locs : List Loc) (ls : Array Slot), F_X7_rotorGoes_42 v_moved v_now x1 x2 x3 s0 = some (v_moved', v_now') → va_P D vwCl [(a_this, .inr (7, [.ref a_st, .ref a_now, .ref a_isKept, .ref a_draft, .int v_hasSigns, .int v_hasEvery, .ref a_tape, .int v_taped, .int v_pos, .int v_begun, .int v_sort, .int v_value, .int v_fault, .int v_wrongAt, .int v_moved, .int v_slipTicks, .int v_bestCode, .int v_bestMuch, .long v_straightSum, .long v_movedSum, .long v_allWays, .ref a_wereAt, .ref a_byPlace, .ref a_lanes, .ref a_sizes, .ref a_cells, .int v_torn, .ref a_before])), (a_now, .inl (cI, 56, .inl v_now))] H → va_D A [(a_this, .inr (7, [.ref a_st, .ref a_now, .ref a_isKept, .ref a_draft, .int v_hasSigns, .int v_hasEvery, .ref a_tape, .int v_taped, .int v_pos, .int v_begun, .int v_sort, .int v_value, .int v_fault, .int v_wrongAt, .int v_moved, .int v_slipTicks, .int v_bestCode, .int v_bestMuch, .long v_straightSum, .long v_movedSum, .long v_allWays, .ref a_wereAt, .ref a_byPlace, .ref a_lanes, .ref a_sizes, .ref a_cells, .int v_torn, .ref a_before])), (a_now, .inl (cI, 56, .inl v_now))] → va_S A s.heap H locs → lv_has ls 5 [(0, .ref a_this), (1, .int x1), (2, .int x2), (3, .int x3)] → W p l e rm_X7_rotorGoes s m args below meth c H locs 0 0 (MQ below (va_Qv (fun (_ : Unit) => True) (BW D A [(a_this, .inr (7, [.ref a_st, .ref a_now, .ref a_isKept, .ref a_draft, .int v_hasSigns, .int v_hasEvery, .ref a_tape, .int v_taped, .int v_pos, .int v_begun, .int v_sort, .int v_value, .int v_fault, .int v_wrongAt, .int v_moved', .int v_slipTicks, .int v_bestCode, .int v_bestMuch, .long v_straightSum, .long v_movedSum, .long v_allWays, .ref a_wereAt, .ref a_byPlace, .ref a_lanes, .ref a_sizes, .ref a_cells, .int v_torn, .ref a_before])), (a_now, .inl (cI, 56, .inl v_now'))]) A) args s 0 0 A) (F0 m 42 ls [.int s0]) := by
  intro v_moved v_now x1 x2 x3 s0 H locs ls hF  hP hD hS hl
  unfold F_X7_rotorGoes_42 at hF
  refine lv_istore (lv' := [(4, .int s0), (0, .ref a_this), (1, .int x1), (2, .int x2), (3, .int x3)]) C.1 C.2.1 dX7_rotorGoes_42 hl (by decide) rfl (fun ls hl => ?_)
  refine lv_aload_n C.1 C.2.1 dX7_rotorGoes_44 rfl (lv_at hl 1 rfl) ?_
  refine lv_dup C.1 C.2.1 dX7_rotorGoes_45 rfl ?_
  refine gf_7_7_moved C hK hP 0 rfl rfl dX7_rotorGoes_46 ?_
  refine lv_iload_n C.1 C.2.1 dX7_rotorGoes_49 rfl (lv_at hl 4 rfl) ?_
  obtain ⟨r1, h2, hF⟩ := fb hF
  refine callSI C hK hA hP hD hS (c_X7_amount  h2) cs_X7_amount kw4_160 ⟨Nat.le_of_ble_eq_true rfl, Nat.le_of_ble_eq_true rfl⟩ ⟨Nat.zero_le _, Nat.zero_le _⟩ hl.1 rfl (Nat.le_of_ble_eq_true rfl) dX7_rotorGoes_50 (fun H locs hP hD hS => ?_)
  refine lv_iadd C.1 C.2.1 dX7_rotorGoes_53 ?_
  refine pf_7_7_moved C hK hP hD hS 0 rfl rfl dX7_rotorGoes_54 (fun H locs hP hD hS => ?_)
  have hP : va_P D vwCl [(a_this, .inr (7, [.ref a_st, .ref a_now, .ref a_isKept, .ref a_draft, .int v_hasSigns, .int v_hasEvery, .ref a_tape, .int v_taped, .int v_pos, .int v_begun, .int v_sort, .int v_value, .int v_fault, .int v_wrongAt, .int (v_moved + r1), .int v_slipTicks, .int v_bestCode, .int v_bestMuch, .long v_straightSum, .long v_movedSum, .long v_allWays, .ref a_wereAt, .ref a_byPlace, .ref a_lanes, .ref a_sizes, .ref a_cells, .int v_torn, .ref a_before])), (a_now, .inl (cI, 56, .inl v_now))] H := hP
  have hD : va_D A [(a_this, .inr (7, [.ref a_st, .ref a_now, .ref a_isKept, .ref a_draft, .int v_hasSigns, .int v_hasEvery, .ref a_tape, .int v_taped, .int v_pos, .int v_begun, .int v_sort, .int v_value, .int v_fault, .int v_wrongAt, .int (v_moved + r1), .int v_slipTicks, .int v_bestCode, .int v_bestMuch, .long v_straightSum, .long v_movedSum, .long v_allWays, .ref a_wereAt, .ref a_byPlace, .ref a_lanes, .ref a_sizes, .ref a_cells, .int v_torn, .ref a_before])), (a_now, .inl (cI, 56, .inl v_now))] := hD
  refine lv_aload_n C.1 C.2.1 dX7_rotorGoes_57 rfl (lv_at hl 1 rfl) ?_
  refine lv_iload_n C.1 C.2.1 dX7_rotorGoes_58 rfl (lv_at hl 2 rfl) ?_
  refine lv_iconst (v := 2) C.1 C.2.1 dX7_rotorGoes_59 (by decide) ?_
  refine lv_aload_n C.1 C.2.1 dX7_rotorGoes_60 rfl (lv_at hl 1 rfl) ?_
  refine lv_iload_n C.1 C.2.1 dX7_rotorGoes_61 rfl (lv_at hl 2 rfl) ?_
  refine lv_iconst (v := 2) C.1 C.2.1 dX7_rotorGoes_62 (by decide) ?_
  obtain ⟨r3, h4, hF⟩ := fb hF
  refine callVI C hK hA hP hD hS [0, 1] (c_X7_of (a_this := a_this) (a_st := a_st) (a_now := a_now) (a_isKept := a_isKept) (a_draft := a_draft) (a_tape := a_tape) (a_wereAt := a_wereAt) (a_byPlace := a_byPlace) (a_lanes := a_lanes) (a_sizes := a_sizes) (a_cells := a_cells) (a_before := a_before) (v_hasSigns := v_hasSigns) (v_hasEvery := v_hasEvery) (v_taped := v_taped) (v_pos := v_pos) (v_begun := v_begun) (v_sort := v_sort) (v_value := v_value) (v_fault := v_fault) (v_wrongAt := v_wrongAt) (v_moved := v_moved + r1) (v_slipTicks := v_slipTicks) (v_bestCode := v_bestCode) (v_bestMuch := v_bestMuch) (v_straightSum := v_straightSum) (v_movedSum := v_movedSum) (v_allWays := v_allWays) (v_torn := v_torn) (v_now := v_now) h4) cv_X7_of kw4_153 rfl (by decide) rfl rfl rfl ⟨Nat.le_of_ble_eq_true rfl, Nat.le_of_ble_eq_true rfl⟩ ⟨Nat.zero_le _, Nat.zero_le _⟩ hl.1 rfl (Nat.le_of_ble_eq_true rfl) dX7_rotorGoes_63 (fun H locs hP hD hS => ?_)
  have hP : va_P D vwCl [(a_this, .inr (7, [.ref a_st, .ref a_now, .ref a_isKept, .ref a_draft, .int v_hasSigns, .int v_hasEvery, .ref a_tape, .int v_taped, .int v_pos, .int v_begun, .int v_sort, .int v_value, .int v_fault, .int v_wrongAt, .int (v_moved + r1), .int v_slipTicks, .int v_bestCode, .int v_bestMuch, .long v_straightSum, .long v_movedSum, .long v_allWays, .ref a_wereAt, .ref a_byPlace, .ref a_lanes, .ref a_sizes, .ref a_cells, .int v_torn, .ref a_before])), (a_now, .inl (cI, 56, .inl v_now))] H := hP
  have hD : va_D A [(a_this, .inr (7, [.ref a_st, .ref a_now, .ref a_isKept, .ref a_draft, .int v_hasSigns, .int v_hasEvery, .ref a_tape, .int v_taped, .int v_pos, .int v_begun, .int v_sort, .int v_value, .int v_fault, .int v_wrongAt, .int (v_moved + r1), .int v_slipTicks, .int v_bestCode, .int v_bestMuch, .long v_straightSum, .long v_movedSum, .long v_allWays, .ref a_wereAt, .ref a_byPlace, .ref a_lanes, .ref a_sizes, .ref a_cells, .int v_torn, .ref a_before])), (a_now, .inl (cI, 56, .inl v_now))] := hD
  refine lv_iload_n C.1 C.2.1 dX7_rotorGoes_66 rfl (lv_at hl 4 rfl) ?_
  refine lv_iadd C.1 C.2.1 dX7_rotorGoes_67 ?_
  obtain ⟨w5, h6, hF⟩ := fb hF
  refine callVV C hK hA hP hD hS [0, 1] (c_X7_becomesOf (a_this := a_this) (a_st := a_st) (a_now := a_now) (a_isKept := a_isKept) (a_draft := a_draft) (a_tape := a_tape) (a_wereAt := a_wereAt) (a_byPlace := a_byPlace) (a_lanes := a_lanes) (a_sizes := a_sizes) (a_cells := a_cells) (a_before := a_before) (v_hasSigns := v_hasSigns) (v_hasEvery := v_hasEvery) (v_taped := v_taped) (v_pos := v_pos) (v_begun := v_begun) (v_sort := v_sort) (v_value := v_value) (v_fault := v_fault) (v_wrongAt := v_wrongAt) (v_moved := v_moved + r1) (v_slipTicks := v_slipTicks) (v_bestCode := v_bestCode) (v_bestMuch := v_bestMuch) (v_straightSum := v_straightSum) (v_movedSum := v_movedSum) (v_allWays := v_allWays) (v_torn := v_torn) (v_now := v_now) h6) cv_X7_becomesOf kw5_1 rfl (by decide) rfl rfl rfl ⟨Nat.le_of_ble_eq_true rfl, Nat.le_of_ble_eq_true rfl⟩ ⟨Nat.zero_le _, Nat.zero_le _⟩ hl.1 rfl (Nat.le_of_ble_eq_true rfl) dX7_rotorGoes_68 (fun H locs hP hD hS => ?_)
  have hP : va_P D vwCl [(a_this, .inr (7, [.ref a_st, .ref a_now, .ref a_isKept, .ref a_draft, .int v_hasSigns, .int v_hasEvery, .ref a_tape, .int v_taped, .int v_pos, .int v_begun, .int v_sort, .int v_value, .int v_fault, .int v_wrongAt, .int (v_moved + r1), .int v_slipTicks, .int v_bestCode, .int v_bestMuch, .long v_straightSum, .long v_movedSum, .long v_allWays, .ref a_wereAt, .ref a_byPlace, .ref a_lanes, .ref a_sizes, .ref a_cells, .int v_torn, .ref a_before])), (a_now, .inl (cI, 56, .inl w5))] H := hP
  have hD : va_D A [(a_this, .inr (7, [.ref a_st, .ref a_now, .ref a_isKept, .ref a_draft, .int v_hasSigns, .int v_hasEvery, .ref a_tape, .int v_taped, .int v_pos, .int v_begun, .int v_sort, .int v_value, .int v_fault, .int v_wrongAt, .int (v_moved + r1), .int v_slipTicks, .int v_bestCode, .int v_bestMuch, .long v_straightSum, .long v_movedSum, .long v_allWays, .ref a_wereAt, .ref a_byPlace, .ref a_lanes, .ref a_sizes, .ref a_cells, .int v_torn, .ref a_before])), (a_now, .inl (cI, 56, .inl w5))] := hD
  refine lv_aload_n C.1 C.2.1 dX7_rotorGoes_71 rfl (lv_at hl 1 rfl) ?_
  refine lv_iload_n C.1 C.2.1 dX7_rotorGoes_72 rfl (lv_at hl 2 rfl) ?_
  refine lv_iconst (v := 3) C.1 C.2.1 dX7_rotorGoes_73 (by decide) ?_
  refine lv_aload_n C.1 C.2.1 dX7_rotorGoes_74 rfl (lv_at hl 1 rfl) ?_
  refine lv_iload_n C.1 C.2.1 dX7_rotorGoes_75 rfl (lv_at hl 2 rfl) ?_
  refine lv_iconst (v := 0) C.1 C.2.1 dX7_rotorGoes_76 (by decide) ?_
  obtain ⟨r7, h8, hF⟩ := fb hF
  refine callVI C hK hA hP hD hS [0, 1] (c_X7_of (a_this := a_this) (a_st := a_st) (a_now := a_now) (a_isKept := a_isKept) (a_draft := a_draft) (a_tape := a_tape) (a_wereAt := a_wereAt) (a_byPlace := a_byPlace) (a_lanes := a_lanes) (a_sizes := a_sizes) (a_cells := a_cells) (a_before := a_before) (v_hasSigns := v_hasSigns) (v_hasEvery := v_hasEvery) (v_taped := v_taped) (v_pos := v_pos) (v_begun := v_begun) (v_sort := v_sort) (v_value := v_value) (v_fault := v_fault) (v_wrongAt := v_wrongAt) (v_moved := v_moved + r1) (v_slipTicks := v_slipTicks) (v_bestCode := v_bestCode) (v_bestMuch := v_bestMuch) (v_straightSum := v_straightSum) (v_movedSum := v_movedSum) (v_allWays := v_allWays) (v_torn := v_torn) (v_now := w5) h8) cv_X7_of kw4_153 rfl (by decide) rfl rfl rfl ⟨Nat.le_of_ble_eq_true rfl, Nat.le_of_ble_eq_true rfl⟩ ⟨Nat.zero_le _, Nat.zero_le _⟩ hl.1 rfl (Nat.le_of_ble_eq_true rfl) dX7_rotorGoes_77 (fun H locs hP hD hS => ?_)
  have hP : va_P D vwCl [(a_this, .inr (7, [.ref a_st, .ref a_now, .ref a_isKept, .ref a_draft, .int v_hasSigns, .int v_hasEvery, .ref a_tape, .int v_taped, .int v_pos, .int v_begun, .int v_sort, .int v_value, .int v_fault, .int v_wrongAt, .int (v_moved + r1), .int v_slipTicks, .int v_bestCode, .int v_bestMuch, .long v_straightSum, .long v_movedSum, .long v_allWays, .ref a_wereAt, .ref a_byPlace, .ref a_lanes, .ref a_sizes, .ref a_cells, .int v_torn, .ref a_before])), (a_now, .inl (cI, 56, .inl w5))] H := hP
  have hD : va_D A [(a_this, .inr (7, [.ref a_st, .ref a_now, .ref a_isKept, .ref a_draft, .int v_hasSigns, .int v_hasEvery, .ref a_tape, .int v_taped, .int v_pos, .int v_begun, .int v_sort, .int v_value, .int v_fault, .int v_wrongAt, .int (v_moved + r1), .int v_slipTicks, .int v_bestCode, .int v_bestMuch, .long v_straightSum, .long v_movedSum, .long v_allWays, .ref a_wereAt, .ref a_byPlace, .ref a_lanes, .ref a_sizes, .ref a_cells, .int v_torn, .ref a_before])), (a_now, .inl (cI, 56, .inl w5))] := hD
  refine lv_iconst (v := 3) C.1 C.2.1 dX7_rotorGoes_80 (by decide) ?_
  refine lv_icmp_ne (tgt := 96) C.1 C.2.1 dX7_rotorGoes_81 (by decide) (fun c9 => ?_) (fun c9 => ?_)
  · have hF := fn hF c9
    exact b_X7_rotorGoes_96 C hr hlk hK hA (v_moved + r1) w5 s0 (3 : Int32) x1 _ _ _ hF hP hD hS (lv_sub hl [0] rfl)
  · have hF := fp hF c9
    refine lv_iload_n C.1 C.2.1 dX7_rotorGoes_84 rfl (lv_at hl 3 rfl) ?_
    obtain ⟨r10, h11, hF⟩ := fb hF
    refine callSI C hK hA hP hD hS (c_X7_amount  h11) cs_X7_amount kw4_160 ⟨Nat.le_of_ble_eq_true rfl, Nat.le_of_ble_eq_true rfl⟩ ⟨Nat.zero_le _, Nat.zero_le _⟩ hl.1 rfl (Nat.le_of_ble_eq_true rfl) dX7_rotorGoes_85 (fun H locs hP hD hS => ?_)
    refine lv_iconst (v := 1) C.1 C.2.1 dX7_rotorGoes_88 (by decide) ?_
    refine lv_icmp_ne (tgt := 96) C.1 C.2.1 dX7_rotorGoes_89 (by decide) (fun c12 => ?_) (fun c12 => ?_)
    · have hF := fn hF c12
      exact b_X7_rotorGoes_96 C hr hlk hK hA (v_moved + r1) w5 s0 (3 : Int32) x1 _ _ _ hF hP hD hS (lv_sub hl [0] rfl)
    · have hF := fp hF c12
      refine lv_iconst (v := 0) C.1 C.2.1 dX7_rotorGoes_92 (by decide) ?_
      refine lv_goto (tgt := 98) C.1 C.2.1 dX7_rotorGoes_93 (by decide) ?_
      exact b_X7_rotorGoes_98 C hr hlk hK hA (v_moved + r1) w5 (0 : Int32) (3 : Int32) x1 _ _ _ hF hP hD hS (lv_sub hl [] rfl)
set_option maxHeartbeats 4000000 in
set_option maxRecDepth 100000 in
theorem b_X7_rotorGoes_18 {l : Launch} {D : va_G} {cI cB cZ cR cM cS : ClassId} {a_this : Nat} {a_st : Nat} {a_now : Nat} {a_isKept : Nat} {a_draft : Nat} {a_tape : Nat} {a_wereAt : Nat} {a_byPlace : Nat} {a_lanes : Nat} {a_sizes : Nat} {a_cells : Nat} {a_before : Nat} {v_hasSigns : Int32} {v_hasEvery : Int32} {v_taped : Int32} {v_pos : Int32} {v_begun : Int32} {v_sort : Int32} {v_value : Int32} {v_fault : Int32} {v_wrongAt : Int32} {v_slipTicks : Int32} {v_bestCode : Int32} {v_bestMuch : Int32} {v_straightSum : Int64} {v_movedSum : Int64} {v_allWays : Int64} {v_torn : Int32} {p : Program} {e : Env} {s : State} {m : MethodId} {args : Array Value} {below : List Frame} {meth : Method} {c : Code} {A : Nat → Prop} {v_moved' : Int32} {v_now' : Nat → Int32} (C : CX p m c cX7_rotorGoes 5 s args RX7) (hr : meth.sig.returnType = none) (hlk : meth.locks = false) (hK : KK D (TS cI cB cZ cR cM cS) s) (hA : ∀ q, s.heap.size ≤ q → A q) : ∀ (v_moved : Int32) (v_now : Nat → Int32) (x1 : Int32) (H : Heap) (locs : List Loc) (ls : Array Slot), F_X7_rotorGoes_18 v_moved v_now x1 = some (v_moved', v_now') → va_P D vwCl [(a_this, .inr (7, [.ref a_st, .ref a_now, .ref a_isKept, .ref a_draft, .int v_hasSigns, .int v_hasEvery, .ref a_tape, .int v_taped, .int v_pos, .int v_begun, .int v_sort, .int v_value, .int v_fault, .int v_wrongAt, .int v_moved, .int v_slipTicks, .int v_bestCode, .int v_bestMuch, .long v_straightSum, .long v_movedSum, .long v_allWays, .ref a_wereAt, .ref a_byPlace, .ref a_lanes, .ref a_sizes, .ref a_cells, .int v_torn, .ref a_before])), (a_now, .inl (cI, 56, .inl v_now))] H → va_D A [(a_this, .inr (7, [.ref a_st, .ref a_now, .ref a_isKept, .ref a_draft, .int v_hasSigns, .int v_hasEvery, .ref a_tape, .int v_taped, .int v_pos, .int v_begun, .int v_sort, .int v_value, .int v_fault, .int v_wrongAt, .int v_moved, .int v_slipTicks, .int v_bestCode, .int v_bestMuch, .long v_straightSum, .long v_movedSum, .long v_allWays, .ref a_wereAt, .ref a_byPlace, .ref a_lanes, .ref a_sizes, .ref a_cells, .int v_torn, .ref a_before])), (a_now, .inl (cI, 56, .inl v_now))] → va_S A s.heap H locs → lv_has ls 5 [(0, .ref a_this), (1, .int x1)] → W p l e rm_X7_rotorGoes s m args below meth c H locs 0 0 (MQ below (va_Qv (fun (_ : Unit) => True) (BW D A [(a_this, .inr (7, [.ref a_st, .ref a_now, .ref a_isKept, .ref a_draft, .int v_hasSigns, .int v_hasEvery, .ref a_tape, .int v_taped, .int v_pos, .int v_begun, .int v_sort, .int v_value, .int v_fault, .int v_wrongAt, .int v_moved', .int v_slipTicks, .int v_bestCode, .int v_bestMuch, .long v_straightSum, .long v_movedSum, .long v_allWays, .ref a_wereAt, .ref a_byPlace, .ref a_lanes, .ref a_sizes, .ref a_cells, .int v_torn, .ref a_before])), (a_now, .inl (cI, 56, .inl v_now'))]) A) args s 0 0 A) (F0 m 18 ls []) := by
  intro v_moved v_now x1 H locs ls hF  hP hD hS hl
  unfold F_X7_rotorGoes_18 at hF
  refine lv_aload_n C.1 C.2.1 dX7_rotorGoes_18 rfl (lv_at hl 0 rfl) ?_
  refine lv_iload_n C.1 C.2.1 dX7_rotorGoes_19 rfl (lv_at hl 1 rfl) ?_
  refine lv_iconst (v := 3) C.1 C.2.1 dX7_rotorGoes_20 (by decide) ?_
  refine lv_iconst (v := 0) C.1 C.2.1 dX7_rotorGoes_21 (by decide) ?_
  obtain ⟨w1, h2, hF⟩ := fb hF
  refine callVV C hK hA hP hD hS [0, 1] (c_X7_becomesOf (a_this := a_this) (a_st := a_st) (a_now := a_now) (a_isKept := a_isKept) (a_draft := a_draft) (a_tape := a_tape) (a_wereAt := a_wereAt) (a_byPlace := a_byPlace) (a_lanes := a_lanes) (a_sizes := a_sizes) (a_cells := a_cells) (a_before := a_before) (v_hasSigns := v_hasSigns) (v_hasEvery := v_hasEvery) (v_taped := v_taped) (v_pos := v_pos) (v_begun := v_begun) (v_sort := v_sort) (v_value := v_value) (v_fault := v_fault) (v_wrongAt := v_wrongAt) (v_moved := v_moved) (v_slipTicks := v_slipTicks) (v_bestCode := v_bestCode) (v_bestMuch := v_bestMuch) (v_straightSum := v_straightSum) (v_movedSum := v_movedSum) (v_allWays := v_allWays) (v_torn := v_torn) (v_now := v_now) h2) cv_X7_becomesOf kw5_1 rfl (by decide) rfl rfl rfl ⟨Nat.le_of_ble_eq_true rfl, Nat.le_of_ble_eq_true rfl⟩ ⟨Nat.zero_le _, Nat.zero_le _⟩ hl.1 rfl (Nat.le_of_ble_eq_true rfl) dX7_rotorGoes_22 (fun H locs hP hD hS => ?_)
  have hP : va_P D vwCl [(a_this, .inr (7, [.ref a_st, .ref a_now, .ref a_isKept, .ref a_draft, .int v_hasSigns, .int v_hasEvery, .ref a_tape, .int v_taped, .int v_pos, .int v_begun, .int v_sort, .int v_value, .int v_fault, .int v_wrongAt, .int v_moved, .int v_slipTicks, .int v_bestCode, .int v_bestMuch, .long v_straightSum, .long v_movedSum, .long v_allWays, .ref a_wereAt, .ref a_byPlace, .ref a_lanes, .ref a_sizes, .ref a_cells, .int v_torn, .ref a_before])), (a_now, .inl (cI, 56, .inl w1))] H := hP
  have hD : va_D A [(a_this, .inr (7, [.ref a_st, .ref a_now, .ref a_isKept, .ref a_draft, .int v_hasSigns, .int v_hasEvery, .ref a_tape, .int v_taped, .int v_pos, .int v_begun, .int v_sort, .int v_value, .int v_fault, .int v_wrongAt, .int v_moved, .int v_slipTicks, .int v_bestCode, .int v_bestMuch, .long v_straightSum, .long v_movedSum, .long v_allWays, .ref a_wereAt, .ref a_byPlace, .ref a_lanes, .ref a_sizes, .ref a_cells, .int v_torn, .ref a_before])), (a_now, .inl (cI, 56, .inl w1))] := hD
  cases hF
  exact retV C hr hlk hP hD hS dX7_rotorGoes_25
set_option maxHeartbeats 4000000 in
set_option maxRecDepth 100000 in
theorem c_X7_rotorGoes {l : Launch} {D : va_G} {cI cB cZ cR cM cS : ClassId} {a_this : Nat} {a_st : Nat} {a_now : Nat} {a_isKept : Nat} {a_draft : Nat} {a_tape : Nat} {a_wereAt : Nat} {a_byPlace : Nat} {a_lanes : Nat} {a_sizes : Nat} {a_cells : Nat} {a_before : Nat} {v_hasSigns : Int32} {v_hasEvery : Int32} {v_taped : Int32} {v_pos : Int32} {v_begun : Int32} {v_sort : Int32} {v_value : Int32} {v_fault : Int32} {v_wrongAt : Int32} {v_moved : Int32} {v_slipTicks : Int32} {v_bestCode : Int32} {v_bestMuch : Int32} {v_straightSum : Int64} {v_movedSum : Int64} {v_allWays : Int64} {v_torn : Int32} {v_now : Nat → Int32} {x1 : Int32} {v_moved' : Int32} {v_now' : Nat → Int32} (hF : F_X7_rotorGoes v_moved v_now x1 = some (v_moved', v_now')) : MV l yX7_rotorGoes cX7_rotorGoes 5 rm_X7_rotorGoes D (TS cI cB cZ cR cM cS) [.ref a_this, .int x1] [(a_this, .inr (7, [.ref a_st, .ref a_now, .ref a_isKept, .ref a_draft, .int v_hasSigns, .int v_hasEvery, .ref a_tape, .int v_taped, .int v_pos, .int v_begun, .int v_sort, .int v_value, .int v_fault, .int v_wrongAt, .int v_moved, .int v_slipTicks, .int v_bestCode, .int v_bestMuch, .long v_straightSum, .long v_movedSum, .long v_allWays, .ref a_wereAt, .ref a_byPlace, .ref a_lanes, .ref a_sizes, .ref a_cells, .int v_torn, .ref a_before])), (a_now, .inl (cI, 56, .inl v_now))] [(a_this, .inr (7, [.ref a_st, .ref a_now, .ref a_isKept, .ref a_draft, .int v_hasSigns, .int v_hasEvery, .ref a_tape, .int v_taped, .int v_pos, .int v_begun, .int v_sort, .int v_value, .int v_fault, .int v_wrongAt, .int v_moved', .int v_slipTicks, .int v_bestCode, .int v_bestMuch, .long v_straightSum, .long v_movedSum, .long v_allWays, .ref a_wereAt, .ref a_byPlace, .ref a_lanes, .ref a_sizes, .ref a_cells, .int v_torn, .ref a_before])), (a_now, .inl (cI, 56, .inl v_now'))] :=
  MV_of (by decide) (Nat.le_of_ble_eq_true rfl) (fun p e s m args below meth c A ls C hr hlk hK hA hP hD hS hl => by
    have C : CX p m c cX7_rotorGoes 5 s args RX7 := C
    have hl : lv_has ls 5 [(0, .ref a_this), (1, .int x1)] := hl
    unfold F_X7_rotorGoes at hF
    refine lv_aload_n C.1 C.2.1 dX7_rotorGoes_0 rfl (lv_at hl 0 rfl) ?_
    refine lv_iload_n C.1 C.2.1 dX7_rotorGoes_1 rfl (lv_at hl 1 rfl) ?_
    obtain ⟨r1, h2, hF⟩ := fb hF
    refine callVI C hK hA hP hD hS [0, 1] (c_X7_off (a_this := a_this) (a_st := a_st) (a_now := a_now) (a_isKept := a_isKept) (a_draft := a_draft) (a_tape := a_tape) (a_wereAt := a_wereAt) (a_byPlace := a_byPlace) (a_lanes := a_lanes) (a_sizes := a_sizes) (a_cells := a_cells) (a_before := a_before) (v_hasSigns := v_hasSigns) (v_hasEvery := v_hasEvery) (v_taped := v_taped) (v_pos := v_pos) (v_begun := v_begun) (v_sort := v_sort) (v_value := v_value) (v_fault := v_fault) (v_wrongAt := v_wrongAt) (v_moved := v_moved) (v_slipTicks := v_slipTicks) (v_bestCode := v_bestCode) (v_bestMuch := v_bestMuch) (v_straightSum := v_straightSum) (v_movedSum := v_movedSum) (v_allWays := v_allWays) (v_torn := v_torn) (v_now := v_now) h2) cv_X7_off kw4_149 rfl (by decide) rfl rfl rfl ⟨Nat.le_of_ble_eq_true rfl, Nat.le_of_ble_eq_true rfl⟩ ⟨Nat.zero_le _, Nat.zero_le _⟩ hl.1 rfl (Nat.le_of_ble_eq_true rfl) dX7_rotorGoes_2 (fun H locs hP hD hS => ?_)
    have hP : va_P D vwCl [(a_this, .inr (7, [.ref a_st, .ref a_now, .ref a_isKept, .ref a_draft, .int v_hasSigns, .int v_hasEvery, .ref a_tape, .int v_taped, .int v_pos, .int v_begun, .int v_sort, .int v_value, .int v_fault, .int v_wrongAt, .int v_moved, .int v_slipTicks, .int v_bestCode, .int v_bestMuch, .long v_straightSum, .long v_movedSum, .long v_allWays, .ref a_wereAt, .ref a_byPlace, .ref a_lanes, .ref a_sizes, .ref a_cells, .int v_torn, .ref a_before])), (a_now, .inl (cI, 56, .inl v_now))] H := hP
    have hD : va_D A [(a_this, .inr (7, [.ref a_st, .ref a_now, .ref a_isKept, .ref a_draft, .int v_hasSigns, .int v_hasEvery, .ref a_tape, .int v_taped, .int v_pos, .int v_begun, .int v_sort, .int v_value, .int v_fault, .int v_wrongAt, .int v_moved, .int v_slipTicks, .int v_bestCode, .int v_bestMuch, .long v_straightSum, .long v_movedSum, .long v_allWays, .ref a_wereAt, .ref a_byPlace, .ref a_lanes, .ref a_sizes, .ref a_cells, .int v_torn, .ref a_before])), (a_now, .inl (cI, 56, .inl v_now))] := hD
    refine lv_istore_n (lv' := [(2, .int r1), (0, .ref a_this), (1, .int x1)]) C.1 C.2.1 dX7_rotorGoes_5 rfl hl (by decide) rfl (fun ls hl => ?_)
    refine lv_aload_n C.1 C.2.1 dX7_rotorGoes_6 rfl (lv_at hl 1 rfl) ?_
    refine lv_iload_n C.1 C.2.1 dX7_rotorGoes_7 rfl (lv_at hl 2 rfl) ?_
    obtain ⟨r3, h4, hF⟩ := fb hF
    refine callVI C hK hA hP hD hS [0, 1] (c_X7_slipsNow (a_this := a_this) (a_st := a_st) (a_now := a_now) (a_isKept := a_isKept) (a_draft := a_draft) (a_tape := a_tape) (a_wereAt := a_wereAt) (a_byPlace := a_byPlace) (a_lanes := a_lanes) (a_sizes := a_sizes) (a_cells := a_cells) (a_before := a_before) (v_hasSigns := v_hasSigns) (v_hasEvery := v_hasEvery) (v_taped := v_taped) (v_pos := v_pos) (v_begun := v_begun) (v_sort := v_sort) (v_value := v_value) (v_fault := v_fault) (v_wrongAt := v_wrongAt) (v_moved := v_moved) (v_slipTicks := v_slipTicks) (v_bestCode := v_bestCode) (v_bestMuch := v_bestMuch) (v_straightSum := v_straightSum) (v_movedSum := v_movedSum) (v_allWays := v_allWays) (v_torn := v_torn) (v_now := v_now) h4) cv_X7_slipsNow kw4_145 rfl (by decide) rfl rfl rfl ⟨Nat.le_of_ble_eq_true rfl, Nat.le_of_ble_eq_true rfl⟩ ⟨Nat.zero_le _, Nat.zero_le _⟩ hl.1 rfl (Nat.le_of_ble_eq_true rfl) dX7_rotorGoes_8 (fun H locs hP hD hS => ?_)
    have hP : va_P D vwCl [(a_this, .inr (7, [.ref a_st, .ref a_now, .ref a_isKept, .ref a_draft, .int v_hasSigns, .int v_hasEvery, .ref a_tape, .int v_taped, .int v_pos, .int v_begun, .int v_sort, .int v_value, .int v_fault, .int v_wrongAt, .int v_moved, .int v_slipTicks, .int v_bestCode, .int v_bestMuch, .long v_straightSum, .long v_movedSum, .long v_allWays, .ref a_wereAt, .ref a_byPlace, .ref a_lanes, .ref a_sizes, .ref a_cells, .int v_torn, .ref a_before])), (a_now, .inl (cI, 56, .inl v_now))] H := hP
    have hD : va_D A [(a_this, .inr (7, [.ref a_st, .ref a_now, .ref a_isKept, .ref a_draft, .int v_hasSigns, .int v_hasEvery, .ref a_tape, .int v_taped, .int v_pos, .int v_begun, .int v_sort, .int v_value, .int v_fault, .int v_wrongAt, .int v_moved, .int v_slipTicks, .int v_bestCode, .int v_bestMuch, .long v_straightSum, .long v_movedSum, .long v_allWays, .ref a_wereAt, .ref a_byPlace, .ref a_lanes, .ref a_sizes, .ref a_cells, .int v_torn, .ref a_before])), (a_now, .inl (cI, 56, .inl v_now))] := hD
    refine lv_if_ne (tgt := 18) C.1 C.2.1 dX7_rotorGoes_11 (by decide) (fun c5 => ?_) (fun c5 => ?_)
    · have hF := fn hF c5
      exact b_X7_rotorGoes_18 C hr hlk hK hA v_moved v_now x1 _ _ _ hF hP hD hS (lv_sub hl [1, 2] rfl)
    · have hF := fp hF c5
      refine lv_iload_n C.1 C.2.1 dX7_rotorGoes_14 rfl (lv_at hl 0 rfl) ?_
      refine lv_if_ne (tgt := 26) C.1 C.2.1 dX7_rotorGoes_15 (by decide) (fun c6 => ?_) (fun c6 => ?_)
      · have hF := fn hF c6
        refine lv_aload_n C.1 C.2.1 dX7_rotorGoes_26 rfl (lv_at hl 1 rfl) ?_
        refine lv_iload_n C.1 C.2.1 dX7_rotorGoes_27 rfl (lv_at hl 2 rfl) ?_
        refine lv_iload_n C.1 C.2.1 dX7_rotorGoes_28 rfl (lv_at hl 0 rfl) ?_
        obtain ⟨r7, h8, hF⟩ := fb hF
        refine callVI C hK hA hP hD hS [0, 1] (c_X7_movesBy (a_this := a_this) (a_st := a_st) (a_now := a_now) (a_isKept := a_isKept) (a_draft := a_draft) (a_tape := a_tape) (a_wereAt := a_wereAt) (a_byPlace := a_byPlace) (a_lanes := a_lanes) (a_sizes := a_sizes) (a_cells := a_cells) (a_before := a_before) (v_hasSigns := v_hasSigns) (v_hasEvery := v_hasEvery) (v_taped := v_taped) (v_pos := v_pos) (v_begun := v_begun) (v_sort := v_sort) (v_value := v_value) (v_fault := v_fault) (v_wrongAt := v_wrongAt) (v_moved := v_moved) (v_slipTicks := v_slipTicks) (v_bestCode := v_bestCode) (v_bestMuch := v_bestMuch) (v_straightSum := v_straightSum) (v_movedSum := v_movedSum) (v_allWays := v_allWays) (v_torn := v_torn) (v_now := v_now) h8) cv_X7_movesBy kw5_9 rfl (by decide) rfl rfl rfl ⟨Nat.le_of_ble_eq_true rfl, Nat.le_of_ble_eq_true rfl⟩ ⟨Nat.zero_le _, Nat.zero_le _⟩ hl.1 rfl (Nat.le_of_ble_eq_true rfl) dX7_rotorGoes_29 (fun H locs hP hD hS => ?_)
        have hP : va_P D vwCl [(a_this, .inr (7, [.ref a_st, .ref a_now, .ref a_isKept, .ref a_draft, .int v_hasSigns, .int v_hasEvery, .ref a_tape, .int v_taped, .int v_pos, .int v_begun, .int v_sort, .int v_value, .int v_fault, .int v_wrongAt, .int v_moved, .int v_slipTicks, .int v_bestCode, .int v_bestMuch, .long v_straightSum, .long v_movedSum, .long v_allWays, .ref a_wereAt, .ref a_byPlace, .ref a_lanes, .ref a_sizes, .ref a_cells, .int v_torn, .ref a_before])), (a_now, .inl (cI, 56, .inl v_now))] H := hP
        have hD : va_D A [(a_this, .inr (7, [.ref a_st, .ref a_now, .ref a_isKept, .ref a_draft, .int v_hasSigns, .int v_hasEvery, .ref a_tape, .int v_taped, .int v_pos, .int v_begun, .int v_sort, .int v_value, .int v_fault, .int v_wrongAt, .int v_moved, .int v_slipTicks, .int v_bestCode, .int v_bestMuch, .long v_straightSum, .long v_movedSum, .long v_allWays, .ref a_wereAt, .ref a_byPlace, .ref a_lanes, .ref a_sizes, .ref a_cells, .int v_torn, .ref a_before])), (a_now, .inl (cI, 56, .inl v_now))] := hD
        refine lv_istore_n (lv' := [(3, .int r7), (2, .int r1), (0, .ref a_this), (1, .int x1)]) C.1 C.2.1 dX7_rotorGoes_32 rfl hl (by decide) rfl (fun ls hl => ?_)
        refine lv_iload_n C.1 C.2.1 dX7_rotorGoes_33 rfl (lv_at hl 1 rfl) ?_
        refine lv_if_ge (tgt := 41) C.1 C.2.1 dX7_rotorGoes_34 (by decide) (fun c9 => ?_) (fun c9 => ?_)
        · have hF := fp hF c9
          refine lv_iconst (v := 1) C.1 C.2.1 dX7_rotorGoes_41 (by decide) ?_
          exact b_X7_rotorGoes_42 C hr hlk hK hA v_moved v_now x1 r1 r7 (1 : Int32) _ _ _ hF hP hD hS (lv_sub hl [2, 3, 1, 0] rfl)
        · have hF := fn hF c9
          refine lv_iconst (v := (-1)) C.1 C.2.1 dX7_rotorGoes_37 (by decide) ?_
          refine lv_goto (tgt := 42) C.1 C.2.1 dX7_rotorGoes_38 (by decide) ?_
          exact b_X7_rotorGoes_42 C hr hlk hK hA v_moved v_now x1 r1 r7 ((-1) : Int32) _ _ _ hF hP hD hS (lv_sub hl [2, 3, 1, 0] rfl)
      · have hF := fp hF c6
        exact b_X7_rotorGoes_18 C hr hlk hK hA v_moved v_now x1 _ _ _ hF hP hD hS (lv_sub hl [1, 2] rfl))
def rm_X7_fieldGoes : Room := { frames := 1, cells := 0, slots := 0, locals := 20 }
theorem cv_X7_fieldGoes : CV yX7_fieldGoes cX7_fieldGoes 1 none rm_X7_fieldGoes RX7 0 := ⟨kw4_232, kwp_46, kw1_8, kw4_233, by decide +kernel, rfl, rfl⟩
set_option maxHeartbeats 4000000 in
set_option maxRecDepth 100000 in
theorem c_X7_fieldGoes {l : Launch} {D : va_G} {cI cB cZ cR cM cS : ClassId} {a_this : Nat} {a_st : Nat} {a_now : Nat} {a_isKept : Nat} {a_draft : Nat} {a_tape : Nat} {a_wereAt : Nat} {a_byPlace : Nat} {a_lanes : Nat} {a_sizes : Nat} {a_cells : Nat} {a_before : Nat} {v_hasSigns : Int32} {v_hasEvery : Int32} {v_taped : Int32} {v_pos : Int32} {v_begun : Int32} {v_sort : Int32} {v_value : Int32} {v_fault : Int32} {v_wrongAt : Int32} {v_moved : Int32} {v_slipTicks : Int32} {v_bestCode : Int32} {v_bestMuch : Int32} {v_straightSum : Int64} {v_movedSum : Int64} {v_allWays : Int64} {v_torn : Int32} {v_now : Nat → Int32} {v_now' : Nat → Int32} (hF : F_X7_fieldGoes v_now = some v_now') : MV l yX7_fieldGoes cX7_fieldGoes 1 rm_X7_fieldGoes D (TS cI cB cZ cR cM cS) [.ref a_this] [(a_this, .inr (7, [.ref a_st, .ref a_now, .ref a_isKept, .ref a_draft, .int v_hasSigns, .int v_hasEvery, .ref a_tape, .int v_taped, .int v_pos, .int v_begun, .int v_sort, .int v_value, .int v_fault, .int v_wrongAt, .int v_moved, .int v_slipTicks, .int v_bestCode, .int v_bestMuch, .long v_straightSum, .long v_movedSum, .long v_allWays, .ref a_wereAt, .ref a_byPlace, .ref a_lanes, .ref a_sizes, .ref a_cells, .int v_torn, .ref a_before])), (a_now, .inl (cI, 56, .inl v_now))] [(a_this, .inr (7, [.ref a_st, .ref a_now, .ref a_isKept, .ref a_draft, .int v_hasSigns, .int v_hasEvery, .ref a_tape, .int v_taped, .int v_pos, .int v_begun, .int v_sort, .int v_value, .int v_fault, .int v_wrongAt, .int v_moved, .int v_slipTicks, .int v_bestCode, .int v_bestMuch, .long v_straightSum, .long v_movedSum, .long v_allWays, .ref a_wereAt, .ref a_byPlace, .ref a_lanes, .ref a_sizes, .ref a_cells, .int v_torn, .ref a_before])), (a_now, .inl (cI, 56, .inl v_now'))] :=
  MV_of (by decide) (Nat.le_of_ble_eq_true rfl) (fun p e s m args below meth c A ls C hr hlk hK hA hP hD hS hl => by
    have C : CX p m c cX7_fieldGoes 1 s args RX7 := C
    have hl : lv_has ls 1 [(0, .ref a_this)] := hl
    unfold F_X7_fieldGoes at hF
    refine lv_aload_n C.1 C.2.1 dX7_fieldGoes_0 rfl (lv_at hl 0 rfl) ?_
    refine gf_7_7_now C hK hP 0 rfl rfl dX7_fieldGoes_1 ?_
    refine lv_bipush (v := 17) C.1 C.2.1 dX7_fieldGoes_4 (by decide) ?_
    obtain ⟨h1, hF⟩ := fk hF
    refine va_iald C.1 C.2.1 hK.1 hP 1 0 rfl rfl h1 dX7_fieldGoes_6 ?_
    refine lv_if_le (tgt := 70) C.1 C.2.1 dX7_fieldGoes_7 (by decide) (fun c2 => ?_) (fun c2 => ?_)
    · have hF := fp hF c2
      cases hF
      exact retV C hr hlk hP hD hS dX7_fieldGoes_70
    · have hF := fn hF c2
      refine lv_aload_n C.1 C.2.1 dX7_fieldGoes_10 rfl (lv_at hl 0 rfl) ?_
      refine gf_7_7_now C hK hP 0 rfl rfl dX7_fieldGoes_11 ?_
      refine lv_bipush (v := 19) C.1 C.2.1 dX7_fieldGoes_14 (by decide) ?_
      obtain ⟨h3, hF⟩ := fk hF
      refine va_iald C.1 C.2.1 hK.1 hP 1 0 rfl rfl h3 dX7_fieldGoes_16 ?_
      refine lv_aload_n C.1 C.2.1 dX7_fieldGoes_17 rfl (lv_at hl 0 rfl) ?_
      refine gf_7_7_now C hK hP 0 rfl rfl dX7_fieldGoes_18 ?_
      refine lv_bipush (v := 18) C.1 C.2.1 dX7_fieldGoes_21 (by decide) ?_
      obtain ⟨h4, hF⟩ := fk hF
      refine va_iald C.1 C.2.1 hK.1 hP 1 0 rfl rfl h4 dX7_fieldGoes_23 ?_
      obtain ⟨h5, hF⟩ := fk hF
      refine lv_irem C.1 C.2.1 dX7_fieldGoes_24 h5 ?_
      refine lv_if_ne (tgt := 70) C.1 C.2.1 dX7_fieldGoes_25 (by decide) (fun c6 => ?_) (fun c6 => ?_)
      · have hF := fn hF c6
        cases hF
        exact retV C hr hlk hP hD hS dX7_fieldGoes_70
      · have hF := fp hF c6
        refine lv_aload_n C.1 C.2.1 dX7_fieldGoes_28 rfl (lv_at hl 0 rfl) ?_
        refine gf_7_7_now C hK hP 0 rfl rfl dX7_fieldGoes_29 ?_
        refine lv_iconst (v := 0) C.1 C.2.1 dX7_fieldGoes_32 (by decide) ?_
        refine lv_dup2_11 C.1 C.2.1 dX7_fieldGoes_33 rfl rfl ?_
        obtain ⟨h7, hF⟩ := fk hF
        refine va_iald C.1 C.2.1 hK.1 hP 1 0 rfl rfl h7 dX7_fieldGoes_34 ?_
        refine lv_aload_n C.1 C.2.1 dX7_fieldGoes_35 rfl (lv_at hl 0 rfl) ?_
        refine gf_7_7_now C hK hP 0 rfl rfl dX7_fieldGoes_36 ?_
        refine lv_iconst (v := 1) C.1 C.2.1 dX7_fieldGoes_39 (by decide) ?_
        refine lv_aload_n C.1 C.2.1 dX7_fieldGoes_40 rfl (lv_at hl 0 rfl) ?_
        refine gf_7_7_now C hK hP 0 rfl rfl dX7_fieldGoes_41 ?_
        refine lv_bipush (v := 19) C.1 C.2.1 dX7_fieldGoes_44 (by decide) ?_
        obtain ⟨h8, hF⟩ := fk hF
        refine va_iald C.1 C.2.1 hK.1 hP 1 0 rfl rfl h8 dX7_fieldGoes_46 ?_
        refine lv_aload_n C.1 C.2.1 dX7_fieldGoes_47 rfl (lv_at hl 0 rfl) ?_
        refine gf_7_7_now C hK hP 0 rfl rfl dX7_fieldGoes_48 ?_
        refine lv_bipush (v := 18) C.1 C.2.1 dX7_fieldGoes_51 (by decide) ?_
        obtain ⟨h9, hF⟩ := fk hF
        refine va_iald C.1 C.2.1 hK.1 hP 1 0 rfl rfl h9 dX7_fieldGoes_53 ?_
        obtain ⟨h10, hF⟩ := fk hF
        refine lv_idiv C.1 C.2.1 dX7_fieldGoes_54 h10 ?_
        refine lv_aload_n C.1 C.2.1 dX7_fieldGoes_55 rfl (lv_at hl 0 rfl) ?_
        refine gf_7_7_now C hK hP 0 rfl rfl dX7_fieldGoes_56 ?_
        refine lv_bipush (v := 17) C.1 C.2.1 dX7_fieldGoes_59 (by decide) ?_
        obtain ⟨h11, hF⟩ := fk hF
        refine va_iald C.1 C.2.1 hK.1 hP 1 0 rfl rfl h11 dX7_fieldGoes_61 ?_
        obtain ⟨h12, hF⟩ := fk hF
        refine lv_irem C.1 C.2.1 dX7_fieldGoes_62 h12 ?_
        refine lv_iadd C.1 C.2.1 dX7_fieldGoes_63 ?_
        obtain ⟨h13, hF⟩ := fk hF
        refine va_iald C.1 C.2.1 hK.1 hP 1 0 rfl rfl h13 dX7_fieldGoes_64 ?_
        obtain ⟨r14, h15, hF⟩ := fb hF
        refine callSI C hK hA hP hD hS (c_X7_byOf  h15) cs_X7_byOf kw4_234 ⟨Nat.le_of_ble_eq_true rfl, Nat.le_of_ble_eq_true rfl⟩ ⟨Nat.zero_le _, Nat.zero_le _⟩ hl.1 rfl (Nat.le_of_ble_eq_true rfl) dX7_fieldGoes_65 (fun H locs hP hD hS => ?_)
        refine lv_iadd C.1 C.2.1 dX7_fieldGoes_68 ?_
        obtain ⟨h16, hF⟩ := fk hF
        refine va_iast C.1 C.2.1 hK.1 hP hD hS 1 0 rfl rfl h16 dX7_fieldGoes_69 (fun H locs hP hD hS => ?_)
        have hP : va_P D vwCl [(a_this, .inr (7, [.ref a_st, .ref a_now, .ref a_isKept, .ref a_draft, .int v_hasSigns, .int v_hasEvery, .ref a_tape, .int v_taped, .int v_pos, .int v_begun, .int v_sort, .int v_value, .int v_fault, .int v_wrongAt, .int v_moved, .int v_slipTicks, .int v_bestCode, .int v_bestMuch, .long v_straightSum, .long v_movedSum, .long v_allWays, .ref a_wereAt, .ref a_byPlace, .ref a_lanes, .ref a_sizes, .ref a_cells, .int v_torn, .ref a_before])), (a_now, .inl (cI, 56, .inl (upd v_now (0 : Int32).toNatClampNeg ((v_now (0 : Int32).toNatClampNeg) + r14))))] H := hP
        have hD : va_D A [(a_this, .inr (7, [.ref a_st, .ref a_now, .ref a_isKept, .ref a_draft, .int v_hasSigns, .int v_hasEvery, .ref a_tape, .int v_taped, .int v_pos, .int v_begun, .int v_sort, .int v_value, .int v_fault, .int v_wrongAt, .int v_moved, .int v_slipTicks, .int v_bestCode, .int v_bestMuch, .long v_straightSum, .long v_movedSum, .long v_allWays, .ref a_wereAt, .ref a_byPlace, .ref a_lanes, .ref a_sizes, .ref a_cells, .int v_torn, .ref a_before])), (a_now, .inl (cI, 56, .inl (upd v_now (0 : Int32).toNatClampNeg ((v_now (0 : Int32).toNatClampNeg) + r14))))] := hD
        cases hF
        exact retV C hr hlk hP hD hS dX7_fieldGoes_70)
def rm_X7_rotorsGo : Room := { frames := 4, cells := 0, slots := 0, locals := 89 }
theorem cv_X7_rotorsGo : CV yX7_rotorsGo cX7_rotorsGo 3 none rm_X7_rotorsGo RX7 1 := ⟨kw4_239, kwp_47, kw1_8, kw5_0, by decide +kernel, rfl, rfl⟩
set_option maxHeartbeats 4000000 in
set_option maxRecDepth 100000 in
theorem b_X7_rotorsGo_26 {l : Launch} {D : va_G} {cI cB cZ cR cM cS : ClassId} {a_this : Nat} {a_st : Nat} {a_now : Nat} {a_isKept : Nat} {a_draft : Nat} {a_tape : Nat} {a_wereAt : Nat} {a_byPlace : Nat} {a_lanes : Nat} {a_sizes : Nat} {a_cells : Nat} {a_before : Nat} {v_hasSigns : Int32} {v_hasEvery : Int32} {v_taped : Int32} {v_pos : Int32} {v_begun : Int32} {v_sort : Int32} {v_value : Int32} {v_fault : Int32} {v_wrongAt : Int32} {v_bestCode : Int32} {v_bestMuch : Int32} {v_straightSum : Int64} {v_movedSum : Int64} {v_allWays : Int64} {v_torn : Int32} {p : Program} {e : Env} {s : State} {m : MethodId} {args : Array Value} {below : List Frame} {meth : Method} {c : Code} {A : Nat → Prop} {v_moved' : Int32} {v_slipTicks' : Int32} {v_now' : Nat → Int32} (C : CX p m c cX7_rotorsGo 3 s args RX7) (hr : meth.sig.returnType = none) (hlk : meth.locks = false) (hK : KK D (TS cI cB cZ cR cM cS) s) (hA : ∀ q, s.heap.size ≤ q → A q) : ∀ (fu : Nat) (v_moved : Int32) (v_slipTicks : Int32) (v_now : Nat → Int32) (x1 : Int32) (x2 : Int32) (H : Heap) (locs : List Loc) (ls : Array Slot), F_X7_rotorsGo_26 fu v_moved v_slipTicks v_now x1 x2 = some (v_moved', v_slipTicks', v_now') → va_P D vwCl [(a_this, .inr (7, [.ref a_st, .ref a_now, .ref a_isKept, .ref a_draft, .int v_hasSigns, .int v_hasEvery, .ref a_tape, .int v_taped, .int v_pos, .int v_begun, .int v_sort, .int v_value, .int v_fault, .int v_wrongAt, .int v_moved, .int v_slipTicks, .int v_bestCode, .int v_bestMuch, .long v_straightSum, .long v_movedSum, .long v_allWays, .ref a_wereAt, .ref a_byPlace, .ref a_lanes, .ref a_sizes, .ref a_cells, .int v_torn, .ref a_before])), (a_now, .inl (cI, 56, .inl v_now))] H → va_D A [(a_this, .inr (7, [.ref a_st, .ref a_now, .ref a_isKept, .ref a_draft, .int v_hasSigns, .int v_hasEvery, .ref a_tape, .int v_taped, .int v_pos, .int v_begun, .int v_sort, .int v_value, .int v_fault, .int v_wrongAt, .int v_moved, .int v_slipTicks, .int v_bestCode, .int v_bestMuch, .long v_straightSum, .long v_movedSum, .long v_allWays, .ref a_wereAt, .ref a_byPlace, .ref a_lanes, .ref a_sizes, .ref a_cells, .int v_torn, .ref a_before])), (a_now, .inl (cI, 56, .inl v_now))] → va_S A s.heap H locs → lv_has ls 3 [(0, .ref a_this), (1, .int x1), (2, .int x2)] → W p l e rm_X7_rotorsGo s m args below meth c H locs 0 0 (MQ below (va_Qv (fun (_ : Unit) => True) (BW D A [(a_this, .inr (7, [.ref a_st, .ref a_now, .ref a_isKept, .ref a_draft, .int v_hasSigns, .int v_hasEvery, .ref a_tape, .int v_taped, .int v_pos, .int v_begun, .int v_sort, .int v_value, .int v_fault, .int v_wrongAt, .int v_moved', .int v_slipTicks', .int v_bestCode, .int v_bestMuch, .long v_straightSum, .long v_movedSum, .long v_allWays, .ref a_wereAt, .ref a_byPlace, .ref a_lanes, .ref a_sizes, .ref a_cells, .int v_torn, .ref a_before])), (a_now, .inl (cI, 56, .inl v_now'))]) A) args s 0 0 A) (F0 m 26 ls []) := by
  intro fu
  induction fu with
  | zero => intro v_moved v_slipTicks v_now x1 x2 H locs ls hF; cases hF
  | succ fu ih =>
    intro v_moved v_slipTicks v_now x1 x2 H locs ls hF  hP hD hS hl
    unfold F_X7_rotorsGo_26 at hF
    refine lv_iload_n C.1 C.2.1 dX7_rotorsGo_26 rfl (lv_at hl 2 rfl) ?_
    refine lv_aload_n C.1 C.2.1 dX7_rotorsGo_27 rfl (lv_at hl 0 rfl) ?_
    refine gf_7_7_now C hK hP 0 rfl rfl dX7_rotorsGo_28 ?_
    refine lv_bipush (v := 36) C.1 C.2.1 dX7_rotorsGo_31 (by decide) ?_
    obtain ⟨h1, hF⟩ := fk hF
    refine va_iald C.1 C.2.1 hK.1 hP 1 0 rfl rfl h1 dX7_rotorsGo_33 ?_
    refine lv_icmp_ge (tgt := 62) C.1 C.2.1 dX7_rotorsGo_34 (by decide) (fun c2 => ?_) (fun c2 => ?_)
    · have hF := fp hF c2
      refine lv_aload_n C.1 C.2.1 dX7_rotorsGo_62 rfl (lv_at hl 0 rfl) ?_
      refine gf_7_7_now C hK hP 0 rfl rfl dX7_rotorsGo_63 ?_
      refine lv_bipush (v := 19) C.1 C.2.1 dX7_rotorsGo_66 (by decide) ?_
      refine lv_dup2_11 C.1 C.2.1 dX7_rotorsGo_68 rfl rfl ?_
      obtain ⟨h3, hF⟩ := fk hF
      refine va_iald C.1 C.2.1 hK.1 hP 1 0 rfl rfl h3 dX7_rotorsGo_69 ?_
      refine lv_iconst (v := 1) C.1 C.2.1 dX7_rotorsGo_70 (by decide) ?_
      refine lv_iadd C.1 C.2.1 dX7_rotorsGo_71 ?_
      obtain ⟨h4, hF⟩ := fk hF
      refine va_iast C.1 C.2.1 hK.1 hP hD hS 1 0 rfl rfl h4 dX7_rotorsGo_72 (fun H locs hP hD hS => ?_)
      have hP : va_P D vwCl [(a_this, .inr (7, [.ref a_st, .ref a_now, .ref a_isKept, .ref a_draft, .int v_hasSigns, .int v_hasEvery, .ref a_tape, .int v_taped, .int v_pos, .int v_begun, .int v_sort, .int v_value, .int v_fault, .int v_wrongAt, .int v_moved, .int v_slipTicks, .int v_bestCode, .int v_bestMuch, .long v_straightSum, .long v_movedSum, .long v_allWays, .ref a_wereAt, .ref a_byPlace, .ref a_lanes, .ref a_sizes, .ref a_cells, .int v_torn, .ref a_before])), (a_now, .inl (cI, 56, .inl (upd v_now (19 : Int32).toNatClampNeg ((v_now (19 : Int32).toNatClampNeg) + (1 : Int32)))))] H := hP
      have hD : va_D A [(a_this, .inr (7, [.ref a_st, .ref a_now, .ref a_isKept, .ref a_draft, .int v_hasSigns, .int v_hasEvery, .ref a_tape, .int v_taped, .int v_pos, .int v_begun, .int v_sort, .int v_value, .int v_fault, .int v_wrongAt, .int v_moved, .int v_slipTicks, .int v_bestCode, .int v_bestMuch, .long v_straightSum, .long v_movedSum, .long v_allWays, .ref a_wereAt, .ref a_byPlace, .ref a_lanes, .ref a_sizes, .ref a_cells, .int v_torn, .ref a_before])), (a_now, .inl (cI, 56, .inl (upd v_now (19 : Int32).toNatClampNeg ((v_now (19 : Int32).toNatClampNeg) + (1 : Int32)))))] := hD
      cases hF
      exact retV C hr hlk hP hD hS dX7_rotorsGo_73
    · have hF := fn hF c2
      refine lv_iload_n C.1 C.2.1 dX7_rotorsGo_37 rfl (lv_at hl 1 rfl) ?_
      refine lv_if_eq (tgt := 51) C.1 C.2.1 dX7_rotorsGo_38 (by decide) (fun c5 => ?_) (fun c5 => ?_)
      · have hF := fp hF c5
        refine lv_aload_n C.1 C.2.1 dX7_rotorsGo_51 rfl (lv_at hl 0 rfl) ?_
        refine lv_iload_n C.1 C.2.1 dX7_rotorsGo_52 rfl (lv_at hl 2 rfl) ?_
        obtain ⟨⟨w6, w7⟩, h8, hF⟩ := fb hF
        refine callVV C hK hA hP hD hS [0, 1] (c_X7_rotorGoes (a_this := a_this) (a_st := a_st) (a_now := a_now) (a_isKept := a_isKept) (a_draft := a_draft) (a_tape := a_tape) (a_wereAt := a_wereAt) (a_byPlace := a_byPlace) (a_lanes := a_lanes) (a_sizes := a_sizes) (a_cells := a_cells) (a_before := a_before) (v_hasSigns := v_hasSigns) (v_hasEvery := v_hasEvery) (v_taped := v_taped) (v_pos := v_pos) (v_begun := v_begun) (v_sort := v_sort) (v_value := v_value) (v_fault := v_fault) (v_wrongAt := v_wrongAt) (v_moved := v_moved) (v_slipTicks := v_slipTicks) (v_bestCode := v_bestCode) (v_bestMuch := v_bestMuch) (v_straightSum := v_straightSum) (v_movedSum := v_movedSum) (v_allWays := v_allWays) (v_torn := v_torn) (v_now := v_now) h8) cv_X7_rotorGoes kw5_5 rfl (by decide) rfl rfl rfl ⟨Nat.le_of_ble_eq_true rfl, Nat.le_of_ble_eq_true rfl⟩ ⟨Nat.zero_le _, Nat.zero_le _⟩ hl.1 rfl (Nat.le_of_ble_eq_true rfl) dX7_rotorsGo_53 (fun H locs hP hD hS => ?_)
        have hP : va_P D vwCl [(a_this, .inr (7, [.ref a_st, .ref a_now, .ref a_isKept, .ref a_draft, .int v_hasSigns, .int v_hasEvery, .ref a_tape, .int v_taped, .int v_pos, .int v_begun, .int v_sort, .int v_value, .int v_fault, .int v_wrongAt, .int w6, .int v_slipTicks, .int v_bestCode, .int v_bestMuch, .long v_straightSum, .long v_movedSum, .long v_allWays, .ref a_wereAt, .ref a_byPlace, .ref a_lanes, .ref a_sizes, .ref a_cells, .int v_torn, .ref a_before])), (a_now, .inl (cI, 56, .inl w7))] H := hP
        have hD : va_D A [(a_this, .inr (7, [.ref a_st, .ref a_now, .ref a_isKept, .ref a_draft, .int v_hasSigns, .int v_hasEvery, .ref a_tape, .int v_taped, .int v_pos, .int v_begun, .int v_sort, .int v_value, .int v_fault, .int v_wrongAt, .int w6, .int v_slipTicks, .int v_bestCode, .int v_bestMuch, .long v_straightSum, .long v_movedSum, .long v_allWays, .ref a_wereAt, .ref a_byPlace, .ref a_lanes, .ref a_sizes, .ref a_cells, .int v_torn, .ref a_before])), (a_now, .inl (cI, 56, .inl w7))] := hD
        refine lv_iinc (v := x2 + 1) (lv' := [(2, .int (x2 + 1)), (0, .ref a_this), (1, .int x1)]) C.1 C.2.1 dX7_rotorsGo_56 hl (k := 2) rfl rfl (by decide) rfl (fun ls hl => ?_)
        refine lv_goto (tgt := 26) C.1 C.2.1 dX7_rotorsGo_59 (by decide) ?_
        exact ih w6 v_slipTicks w7 x1 (x2 + 1) _ _ _ hF hP hD hS (lv_sub hl [1, 2, 0] rfl)
      · have hF := fn hF c5
        refine lv_aload_n C.1 C.2.1 dX7_rotorsGo_41 rfl (lv_at hl 0 rfl) ?_
        refine lv_iload_n C.1 C.2.1 dX7_rotorsGo_42 rfl (lv_at hl 2 rfl) ?_
        refine lv_iconst (v := 3) C.1 C.2.1 dX7_rotorsGo_43 (by decide) ?_
        refine lv_iconst (v := 0) C.1 C.2.1 dX7_rotorsGo_44 (by decide) ?_
        obtain ⟨w9, h10, hF⟩ := fb hF
        refine callVV C hK hA hP hD hS [0, 1] (c_X7_becomesOf (a_this := a_this) (a_st := a_st) (a_now := a_now) (a_isKept := a_isKept) (a_draft := a_draft) (a_tape := a_tape) (a_wereAt := a_wereAt) (a_byPlace := a_byPlace) (a_lanes := a_lanes) (a_sizes := a_sizes) (a_cells := a_cells) (a_before := a_before) (v_hasSigns := v_hasSigns) (v_hasEvery := v_hasEvery) (v_taped := v_taped) (v_pos := v_pos) (v_begun := v_begun) (v_sort := v_sort) (v_value := v_value) (v_fault := v_fault) (v_wrongAt := v_wrongAt) (v_moved := v_moved) (v_slipTicks := v_slipTicks) (v_bestCode := v_bestCode) (v_bestMuch := v_bestMuch) (v_straightSum := v_straightSum) (v_movedSum := v_movedSum) (v_allWays := v_allWays) (v_torn := v_torn) (v_now := v_now) h10) cv_X7_becomesOf kw5_1 rfl (by decide) rfl rfl rfl ⟨Nat.le_of_ble_eq_true rfl, Nat.le_of_ble_eq_true rfl⟩ ⟨Nat.zero_le _, Nat.zero_le _⟩ hl.1 rfl (Nat.le_of_ble_eq_true rfl) dX7_rotorsGo_45 (fun H locs hP hD hS => ?_)
        have hP : va_P D vwCl [(a_this, .inr (7, [.ref a_st, .ref a_now, .ref a_isKept, .ref a_draft, .int v_hasSigns, .int v_hasEvery, .ref a_tape, .int v_taped, .int v_pos, .int v_begun, .int v_sort, .int v_value, .int v_fault, .int v_wrongAt, .int v_moved, .int v_slipTicks, .int v_bestCode, .int v_bestMuch, .long v_straightSum, .long v_movedSum, .long v_allWays, .ref a_wereAt, .ref a_byPlace, .ref a_lanes, .ref a_sizes, .ref a_cells, .int v_torn, .ref a_before])), (a_now, .inl (cI, 56, .inl w9))] H := hP
        have hD : va_D A [(a_this, .inr (7, [.ref a_st, .ref a_now, .ref a_isKept, .ref a_draft, .int v_hasSigns, .int v_hasEvery, .ref a_tape, .int v_taped, .int v_pos, .int v_begun, .int v_sort, .int v_value, .int v_fault, .int v_wrongAt, .int v_moved, .int v_slipTicks, .int v_bestCode, .int v_bestMuch, .long v_straightSum, .long v_movedSum, .long v_allWays, .ref a_wereAt, .ref a_byPlace, .ref a_lanes, .ref a_sizes, .ref a_cells, .int v_torn, .ref a_before])), (a_now, .inl (cI, 56, .inl w9))] := hD
        refine lv_goto (tgt := 56) C.1 C.2.1 dX7_rotorsGo_48 (by decide) ?_
        refine lv_iinc (v := x2 + 1) (lv' := [(2, .int (x2 + 1)), (0, .ref a_this), (1, .int x1)]) C.1 C.2.1 dX7_rotorsGo_56 hl (k := 2) rfl rfl (by decide) rfl (fun ls hl => ?_)
        refine lv_goto (tgt := 26) C.1 C.2.1 dX7_rotorsGo_59 (by decide) ?_
        exact ih v_moved v_slipTicks w9 x1 (x2 + 1) _ _ _ hF hP hD hS (lv_sub hl [1, 2, 0] rfl)
set_option maxHeartbeats 4000000 in
set_option maxRecDepth 100000 in
theorem b_X7_rotorsGo_17 {l : Launch} {D : va_G} {cI cB cZ cR cM cS : ClassId} {a_this : Nat} {a_st : Nat} {a_now : Nat} {a_isKept : Nat} {a_draft : Nat} {a_tape : Nat} {a_wereAt : Nat} {a_byPlace : Nat} {a_lanes : Nat} {a_sizes : Nat} {a_cells : Nat} {a_before : Nat} {v_hasSigns : Int32} {v_hasEvery : Int32} {v_taped : Int32} {v_pos : Int32} {v_begun : Int32} {v_sort : Int32} {v_value : Int32} {v_fault : Int32} {v_wrongAt : Int32} {v_bestCode : Int32} {v_bestMuch : Int32} {v_straightSum : Int64} {v_movedSum : Int64} {v_allWays : Int64} {v_torn : Int32} {p : Program} {e : Env} {s : State} {m : MethodId} {args : Array Value} {below : List Frame} {meth : Method} {c : Code} {A : Nat → Prop} {v_moved' : Int32} {v_slipTicks' : Int32} {v_now' : Nat → Int32} (C : CX p m c cX7_rotorsGo 3 s args RX7) (hr : meth.sig.returnType = none) (hlk : meth.locks = false) (hK : KK D (TS cI cB cZ cR cM cS) s) (hA : ∀ q, s.heap.size ≤ q → A q) : ∀ (v_moved : Int32) (v_slipTicks : Int32) (v_now : Nat → Int32) (x1 : Int32) (s0 : Int32) (s1 : Int32) (H : Heap) (locs : List Loc) (ls : Array Slot), F_X7_rotorsGo_17 v_moved v_slipTicks v_now x1 s0 s1 = some (v_moved', v_slipTicks', v_now') → va_P D vwCl [(a_this, .inr (7, [.ref a_st, .ref a_now, .ref a_isKept, .ref a_draft, .int v_hasSigns, .int v_hasEvery, .ref a_tape, .int v_taped, .int v_pos, .int v_begun, .int v_sort, .int v_value, .int v_fault, .int v_wrongAt, .int v_moved, .int v_slipTicks, .int v_bestCode, .int v_bestMuch, .long v_straightSum, .long v_movedSum, .long v_allWays, .ref a_wereAt, .ref a_byPlace, .ref a_lanes, .ref a_sizes, .ref a_cells, .int v_torn, .ref a_before])), (a_now, .inl (cI, 56, .inl v_now))] H → va_D A [(a_this, .inr (7, [.ref a_st, .ref a_now, .ref a_isKept, .ref a_draft, .int v_hasSigns, .int v_hasEvery, .ref a_tape, .int v_taped, .int v_pos, .int v_begun, .int v_sort, .int v_value, .int v_fault, .int v_wrongAt, .int v_moved, .int v_slipTicks, .int v_bestCode, .int v_bestMuch, .long v_straightSum, .long v_movedSum, .long v_allWays, .ref a_wereAt, .ref a_byPlace, .ref a_lanes, .ref a_sizes, .ref a_cells, .int v_torn, .ref a_before])), (a_now, .inl (cI, 56, .inl v_now))] → va_S A s.heap H locs → lv_has ls 3 [(0, .ref a_this), (1, .int x1)] → W p l e rm_X7_rotorsGo s m args below meth c H locs 0 0 (MQ below (va_Qv (fun (_ : Unit) => True) (BW D A [(a_this, .inr (7, [.ref a_st, .ref a_now, .ref a_isKept, .ref a_draft, .int v_hasSigns, .int v_hasEvery, .ref a_tape, .int v_taped, .int v_pos, .int v_begun, .int v_sort, .int v_value, .int v_fault, .int v_wrongAt, .int v_moved', .int v_slipTicks', .int v_bestCode, .int v_bestMuch, .long v_straightSum, .long v_movedSum, .long v_allWays, .ref a_wereAt, .ref a_byPlace, .ref a_lanes, .ref a_sizes, .ref a_cells, .int v_torn, .ref a_before])), (a_now, .inl (cI, 56, .inl v_now'))]) A) args s 0 0 A) (F0 m 17 ls [.int s0, .int s1, .ref a_this]) := by
  intro v_moved v_slipTicks v_now x1 s0 s1 H locs ls hF  hP hD hS hl
  unfold F_X7_rotorsGo_17 at hF
  obtain ⟨r1, h2, hF⟩ := fb hF
  refine callSI C hK hA hP hD hS (c_X7_flag  h2) cs_X7_flag kw4_163 ⟨Nat.le_of_ble_eq_true rfl, Nat.le_of_ble_eq_true rfl⟩ ⟨Nat.zero_le _, Nat.zero_le _⟩ hl.1 rfl (Nat.le_of_ble_eq_true rfl) dX7_rotorsGo_17 (fun H locs hP hD hS => ?_)
  refine lv_iadd C.1 C.2.1 dX7_rotorsGo_20 ?_
  refine pf_7_7_slipTicks C hK hP hD hS 0 rfl rfl dX7_rotorsGo_21 (fun H locs hP hD hS => ?_)
  have hP : va_P D vwCl [(a_this, .inr (7, [.ref a_st, .ref a_now, .ref a_isKept, .ref a_draft, .int v_hasSigns, .int v_hasEvery, .ref a_tape, .int v_taped, .int v_pos, .int v_begun, .int v_sort, .int v_value, .int v_fault, .int v_wrongAt, .int v_moved, .int (s1 + r1), .int v_bestCode, .int v_bestMuch, .long v_straightSum, .long v_movedSum, .long v_allWays, .ref a_wereAt, .ref a_byPlace, .ref a_lanes, .ref a_sizes, .ref a_cells, .int v_torn, .ref a_before])), (a_now, .inl (cI, 56, .inl v_now))] H := hP
  have hD : va_D A [(a_this, .inr (7, [.ref a_st, .ref a_now, .ref a_isKept, .ref a_draft, .int v_hasSigns, .int v_hasEvery, .ref a_tape, .int v_taped, .int v_pos, .int v_begun, .int v_sort, .int v_value, .int v_fault, .int v_wrongAt, .int v_moved, .int (s1 + r1), .int v_bestCode, .int v_bestMuch, .long v_straightSum, .long v_movedSum, .long v_allWays, .ref a_wereAt, .ref a_byPlace, .ref a_lanes, .ref a_sizes, .ref a_cells, .int v_torn, .ref a_before])), (a_now, .inl (cI, 56, .inl v_now))] := hD
  refine lv_iconst (v := 0) C.1 C.2.1 dX7_rotorsGo_24 (by decide) ?_
  refine lv_istore_n (lv' := [(2, .int (0 : Int32)), (0, .ref a_this), (1, .int x1)]) C.1 C.2.1 dX7_rotorsGo_25 rfl hl (by decide) rfl (fun ls hl => ?_)
  exact b_X7_rotorsGo_26 C hr hlk hK hA FU v_moved (s1 + r1) v_now x1 (0 : Int32) _ _ _ hF hP hD hS (lv_sub hl [1, 2, 0] rfl)
set_option maxHeartbeats 4000000 in
set_option maxRecDepth 100000 in
theorem c_X7_rotorsGo {l : Launch} {D : va_G} {cI cB cZ cR cM cS : ClassId} {a_this : Nat} {a_st : Nat} {a_now : Nat} {a_isKept : Nat} {a_draft : Nat} {a_tape : Nat} {a_wereAt : Nat} {a_byPlace : Nat} {a_lanes : Nat} {a_sizes : Nat} {a_cells : Nat} {a_before : Nat} {v_hasSigns : Int32} {v_hasEvery : Int32} {v_taped : Int32} {v_pos : Int32} {v_begun : Int32} {v_sort : Int32} {v_value : Int32} {v_fault : Int32} {v_wrongAt : Int32} {v_moved : Int32} {v_slipTicks : Int32} {v_bestCode : Int32} {v_bestMuch : Int32} {v_straightSum : Int64} {v_movedSum : Int64} {v_allWays : Int64} {v_torn : Int32} {v_now : Nat → Int32} {x1 : Int32} {v_moved' : Int32} {v_slipTicks' : Int32} {v_now' : Nat → Int32} (hF : F_X7_rotorsGo v_moved v_slipTicks v_now x1 = some (v_moved', v_slipTicks', v_now')) : MV l yX7_rotorsGo cX7_rotorsGo 3 rm_X7_rotorsGo D (TS cI cB cZ cR cM cS) [.ref a_this, .int x1] [(a_this, .inr (7, [.ref a_st, .ref a_now, .ref a_isKept, .ref a_draft, .int v_hasSigns, .int v_hasEvery, .ref a_tape, .int v_taped, .int v_pos, .int v_begun, .int v_sort, .int v_value, .int v_fault, .int v_wrongAt, .int v_moved, .int v_slipTicks, .int v_bestCode, .int v_bestMuch, .long v_straightSum, .long v_movedSum, .long v_allWays, .ref a_wereAt, .ref a_byPlace, .ref a_lanes, .ref a_sizes, .ref a_cells, .int v_torn, .ref a_before])), (a_now, .inl (cI, 56, .inl v_now))] [(a_this, .inr (7, [.ref a_st, .ref a_now, .ref a_isKept, .ref a_draft, .int v_hasSigns, .int v_hasEvery, .ref a_tape, .int v_taped, .int v_pos, .int v_begun, .int v_sort, .int v_value, .int v_fault, .int v_wrongAt, .int v_moved', .int v_slipTicks', .int v_bestCode, .int v_bestMuch, .long v_straightSum, .long v_movedSum, .long v_allWays, .ref a_wereAt, .ref a_byPlace, .ref a_lanes, .ref a_sizes, .ref a_cells, .int v_torn, .ref a_before])), (a_now, .inl (cI, 56, .inl v_now'))] :=
  MV_of (by decide) (Nat.le_of_ble_eq_true rfl) (fun p e s m args below meth c A ls C hr hlk hK hA hP hD hS hl => by
    have C : CX p m c cX7_rotorsGo 3 s args RX7 := C
    have hl : lv_has ls 3 [(0, .ref a_this), (1, .int x1)] := hl
    unfold F_X7_rotorsGo at hF
    refine lv_aload_n C.1 C.2.1 dX7_rotorsGo_0 rfl (lv_at hl 0 rfl) ?_
    refine lv_dup C.1 C.2.1 dX7_rotorsGo_1 rfl ?_
    refine gf_7_7_slipTicks C hK hP 0 rfl rfl dX7_rotorsGo_2 ?_
    refine lv_aload_n C.1 C.2.1 dX7_rotorsGo_5 rfl (lv_at hl 0 rfl) ?_
    obtain ⟨r1, h2, hF⟩ := fb hF
    refine callVI C hK hA hP hD hS [0, 1] (c_X7_slipping (a_this := a_this) (a_st := a_st) (a_now := a_now) (a_isKept := a_isKept) (a_draft := a_draft) (a_tape := a_tape) (a_wereAt := a_wereAt) (a_byPlace := a_byPlace) (a_lanes := a_lanes) (a_sizes := a_sizes) (a_cells := a_cells) (a_before := a_before) (v_hasSigns := v_hasSigns) (v_hasEvery := v_hasEvery) (v_taped := v_taped) (v_pos := v_pos) (v_begun := v_begun) (v_sort := v_sort) (v_value := v_value) (v_fault := v_fault) (v_wrongAt := v_wrongAt) (v_moved := v_moved) (v_slipTicks := v_slipTicks) (v_bestCode := v_bestCode) (v_bestMuch := v_bestMuch) (v_straightSum := v_straightSum) (v_movedSum := v_movedSum) (v_allWays := v_allWays) (v_torn := v_torn) (v_now := v_now) h2) cv_X7_slipping kw4_141 rfl (by decide) rfl rfl rfl ⟨Nat.le_of_ble_eq_true rfl, Nat.le_of_ble_eq_true rfl⟩ ⟨Nat.zero_le _, Nat.zero_le _⟩ hl.1 rfl (Nat.le_of_ble_eq_true rfl) dX7_rotorsGo_6 (fun H locs hP hD hS => ?_)
    have hP : va_P D vwCl [(a_this, .inr (7, [.ref a_st, .ref a_now, .ref a_isKept, .ref a_draft, .int v_hasSigns, .int v_hasEvery, .ref a_tape, .int v_taped, .int v_pos, .int v_begun, .int v_sort, .int v_value, .int v_fault, .int v_wrongAt, .int v_moved, .int v_slipTicks, .int v_bestCode, .int v_bestMuch, .long v_straightSum, .long v_movedSum, .long v_allWays, .ref a_wereAt, .ref a_byPlace, .ref a_lanes, .ref a_sizes, .ref a_cells, .int v_torn, .ref a_before])), (a_now, .inl (cI, 56, .inl v_now))] H := hP
    have hD : va_D A [(a_this, .inr (7, [.ref a_st, .ref a_now, .ref a_isKept, .ref a_draft, .int v_hasSigns, .int v_hasEvery, .ref a_tape, .int v_taped, .int v_pos, .int v_begun, .int v_sort, .int v_value, .int v_fault, .int v_wrongAt, .int v_moved, .int v_slipTicks, .int v_bestCode, .int v_bestMuch, .long v_straightSum, .long v_movedSum, .long v_allWays, .ref a_wereAt, .ref a_byPlace, .ref a_lanes, .ref a_sizes, .ref a_cells, .int v_torn, .ref a_before])), (a_now, .inl (cI, 56, .inl v_now))] := hD
    refine lv_if_le (tgt := 16) C.1 C.2.1 dX7_rotorsGo_9 (by decide) (fun c3 => ?_) (fun c3 => ?_)
    · have hF := fp hF c3
      refine lv_iconst (v := 0) C.1 C.2.1 dX7_rotorsGo_16 (by decide) ?_
      exact b_X7_rotorsGo_17 C hr hlk hK hA v_moved v_slipTicks v_now x1 (0 : Int32) v_slipTicks _ _ _ hF hP hD hS (lv_sub hl [0, 1] rfl)
    · have hF := fn hF c3
      refine lv_iconst (v := 1) C.1 C.2.1 dX7_rotorsGo_12 (by decide) ?_
      refine lv_goto (tgt := 17) C.1 C.2.1 dX7_rotorsGo_13 (by decide) ?_
      exact b_X7_rotorsGo_17 C hr hlk hK hA v_moved v_slipTicks v_now x1 (1 : Int32) v_slipTicks _ _ _ hF hP hD hS (lv_sub hl [0, 1] rfl))
def rm_X7_ticksGo : Room := { frames := 5, cells := 0, slots := 0, locals := 111 }
theorem cv_X7_ticksGo : CV yX7_ticksGo cX7_ticksGo 3 none rm_X7_ticksGo RX7 1 := ⟨kw4_228, kwp_45, kw1_8, kw4_229, by decide +kernel, rfl, rfl⟩
set_option maxHeartbeats 4000000 in
set_option maxRecDepth 100000 in
theorem b_X7_ticksGo_2 {l : Launch} {D : va_G} {cI cB cZ cR cM cS : ClassId} {a_this : Nat} {a_st : Nat} {a_now : Nat} {a_isKept : Nat} {a_draft : Nat} {a_tape : Nat} {a_wereAt : Nat} {a_byPlace : Nat} {a_lanes : Nat} {a_sizes : Nat} {a_cells : Nat} {a_before : Nat} {v_hasSigns : Int32} {v_hasEvery : Int32} {v_taped : Int32} {v_pos : Int32} {v_begun : Int32} {v_sort : Int32} {v_value : Int32} {v_fault : Int32} {v_wrongAt : Int32} {v_bestCode : Int32} {v_bestMuch : Int32} {v_straightSum : Int64} {v_movedSum : Int64} {v_allWays : Int64} {v_torn : Int32} {p : Program} {e : Env} {s : State} {m : MethodId} {args : Array Value} {below : List Frame} {meth : Method} {c : Code} {A : Nat → Prop} {v_moved' : Int32} {v_slipTicks' : Int32} {v_now' : Nat → Int32} (C : CX p m c cX7_ticksGo 3 s args RX7) (hr : meth.sig.returnType = none) (hlk : meth.locks = false) (hK : KK D (TS cI cB cZ cR cM cS) s) (hA : ∀ q, s.heap.size ≤ q → A q) : ∀ (fu : Nat) (v_moved : Int32) (v_slipTicks : Int32) (v_now : Nat → Int32) (x1 : Int32) (x2 : Int32) (H : Heap) (locs : List Loc) (ls : Array Slot), F_X7_ticksGo_2 fu v_moved v_slipTicks v_now x1 x2 = some (v_moved', v_slipTicks', v_now') → va_P D vwCl [(a_this, .inr (7, [.ref a_st, .ref a_now, .ref a_isKept, .ref a_draft, .int v_hasSigns, .int v_hasEvery, .ref a_tape, .int v_taped, .int v_pos, .int v_begun, .int v_sort, .int v_value, .int v_fault, .int v_wrongAt, .int v_moved, .int v_slipTicks, .int v_bestCode, .int v_bestMuch, .long v_straightSum, .long v_movedSum, .long v_allWays, .ref a_wereAt, .ref a_byPlace, .ref a_lanes, .ref a_sizes, .ref a_cells, .int v_torn, .ref a_before])), (a_now, .inl (cI, 56, .inl v_now))] H → va_D A [(a_this, .inr (7, [.ref a_st, .ref a_now, .ref a_isKept, .ref a_draft, .int v_hasSigns, .int v_hasEvery, .ref a_tape, .int v_taped, .int v_pos, .int v_begun, .int v_sort, .int v_value, .int v_fault, .int v_wrongAt, .int v_moved, .int v_slipTicks, .int v_bestCode, .int v_bestMuch, .long v_straightSum, .long v_movedSum, .long v_allWays, .ref a_wereAt, .ref a_byPlace, .ref a_lanes, .ref a_sizes, .ref a_cells, .int v_torn, .ref a_before])), (a_now, .inl (cI, 56, .inl v_now))] → va_S A s.heap H locs → lv_has ls 3 [(0, .ref a_this), (1, .int x1), (2, .int x2)] → W p l e rm_X7_ticksGo s m args below meth c H locs 0 0 (MQ below (va_Qv (fun (_ : Unit) => True) (BW D A [(a_this, .inr (7, [.ref a_st, .ref a_now, .ref a_isKept, .ref a_draft, .int v_hasSigns, .int v_hasEvery, .ref a_tape, .int v_taped, .int v_pos, .int v_begun, .int v_sort, .int v_value, .int v_fault, .int v_wrongAt, .int v_moved', .int v_slipTicks', .int v_bestCode, .int v_bestMuch, .long v_straightSum, .long v_movedSum, .long v_allWays, .ref a_wereAt, .ref a_byPlace, .ref a_lanes, .ref a_sizes, .ref a_cells, .int v_torn, .ref a_before])), (a_now, .inl (cI, 56, .inl v_now'))]) A) args s 0 0 A) (F0 m 2 ls []) := by
  intro fu
  induction fu with
  | zero => intro v_moved v_slipTicks v_now x1 x2 H locs ls hF; cases hF
  | succ fu ih =>
    intro v_moved v_slipTicks v_now x1 x2 H locs ls hF  hP hD hS hl
    unfold F_X7_ticksGo_2 at hF
    refine lv_iload_n C.1 C.2.1 dX7_ticksGo_2 rfl (lv_at hl 2 rfl) ?_
    refine lv_iload_n C.1 C.2.1 dX7_ticksGo_3 rfl (lv_at hl 1 rfl) ?_
    refine lv_icmp_ge (tgt := 22) C.1 C.2.1 dX7_ticksGo_4 (by decide) (fun c1 => ?_) (fun c1 => ?_)
    · have hF := fp hF c1
      cases hF
      exact retV C hr hlk hP hD hS dX7_ticksGo_22
    · have hF := fn hF c1
      refine lv_aload_n C.1 C.2.1 dX7_ticksGo_7 rfl (lv_at hl 0 rfl) ?_
      obtain ⟨w2, h3, hF⟩ := fb hF
      refine callVV C hK hA hP hD hS [0, 1] (c_X7_fieldGoes (a_this := a_this) (a_st := a_st) (a_now := a_now) (a_isKept := a_isKept) (a_draft := a_draft) (a_tape := a_tape) (a_wereAt := a_wereAt) (a_byPlace := a_byPlace) (a_lanes := a_lanes) (a_sizes := a_sizes) (a_cells := a_cells) (a_before := a_before) (v_hasSigns := v_hasSigns) (v_hasEvery := v_hasEvery) (v_taped := v_taped) (v_pos := v_pos) (v_begun := v_begun) (v_sort := v_sort) (v_value := v_value) (v_fault := v_fault) (v_wrongAt := v_wrongAt) (v_moved := v_moved) (v_slipTicks := v_slipTicks) (v_bestCode := v_bestCode) (v_bestMuch := v_bestMuch) (v_straightSum := v_straightSum) (v_movedSum := v_movedSum) (v_allWays := v_allWays) (v_torn := v_torn) (v_now := v_now) h3) cv_X7_fieldGoes kw4_230 rfl (by decide) rfl rfl rfl ⟨Nat.le_of_ble_eq_true rfl, Nat.le_of_ble_eq_true rfl⟩ ⟨Nat.zero_le _, Nat.zero_le _⟩ hl.1 rfl (Nat.le_of_ble_eq_true rfl) dX7_ticksGo_8 (fun H locs hP hD hS => ?_)
      have hP : va_P D vwCl [(a_this, .inr (7, [.ref a_st, .ref a_now, .ref a_isKept, .ref a_draft, .int v_hasSigns, .int v_hasEvery, .ref a_tape, .int v_taped, .int v_pos, .int v_begun, .int v_sort, .int v_value, .int v_fault, .int v_wrongAt, .int v_moved, .int v_slipTicks, .int v_bestCode, .int v_bestMuch, .long v_straightSum, .long v_movedSum, .long v_allWays, .ref a_wereAt, .ref a_byPlace, .ref a_lanes, .ref a_sizes, .ref a_cells, .int v_torn, .ref a_before])), (a_now, .inl (cI, 56, .inl w2))] H := hP
      have hD : va_D A [(a_this, .inr (7, [.ref a_st, .ref a_now, .ref a_isKept, .ref a_draft, .int v_hasSigns, .int v_hasEvery, .ref a_tape, .int v_taped, .int v_pos, .int v_begun, .int v_sort, .int v_value, .int v_fault, .int v_wrongAt, .int v_moved, .int v_slipTicks, .int v_bestCode, .int v_bestMuch, .long v_straightSum, .long v_movedSum, .long v_allWays, .ref a_wereAt, .ref a_byPlace, .ref a_lanes, .ref a_sizes, .ref a_cells, .int v_torn, .ref a_before])), (a_now, .inl (cI, 56, .inl w2))] := hD
      refine lv_aload_n C.1 C.2.1 dX7_ticksGo_11 rfl (lv_at hl 0 rfl) ?_
      refine lv_iconst (v := 0) C.1 C.2.1 dX7_ticksGo_12 (by decide) ?_
      obtain ⟨⟨w4, w5, w6⟩, h7, hF⟩ := fb hF
      refine callVV C hK hA hP hD hS [0, 1] (c_X7_rotorsGo (a_this := a_this) (a_st := a_st) (a_now := a_now) (a_isKept := a_isKept) (a_draft := a_draft) (a_tape := a_tape) (a_wereAt := a_wereAt) (a_byPlace := a_byPlace) (a_lanes := a_lanes) (a_sizes := a_sizes) (a_cells := a_cells) (a_before := a_before) (v_hasSigns := v_hasSigns) (v_hasEvery := v_hasEvery) (v_taped := v_taped) (v_pos := v_pos) (v_begun := v_begun) (v_sort := v_sort) (v_value := v_value) (v_fault := v_fault) (v_wrongAt := v_wrongAt) (v_moved := v_moved) (v_slipTicks := v_slipTicks) (v_bestCode := v_bestCode) (v_bestMuch := v_bestMuch) (v_straightSum := v_straightSum) (v_movedSum := v_movedSum) (v_allWays := v_allWays) (v_torn := v_torn) (v_now := w2) h7) cv_X7_rotorsGo kw4_237 rfl (by decide) rfl rfl rfl ⟨Nat.le_of_ble_eq_true rfl, Nat.le_of_ble_eq_true rfl⟩ ⟨Nat.zero_le _, Nat.zero_le _⟩ hl.1 rfl (Nat.le_of_ble_eq_true rfl) dX7_ticksGo_13 (fun H locs hP hD hS => ?_)
      have hP : va_P D vwCl [(a_this, .inr (7, [.ref a_st, .ref a_now, .ref a_isKept, .ref a_draft, .int v_hasSigns, .int v_hasEvery, .ref a_tape, .int v_taped, .int v_pos, .int v_begun, .int v_sort, .int v_value, .int v_fault, .int v_wrongAt, .int w4, .int w5, .int v_bestCode, .int v_bestMuch, .long v_straightSum, .long v_movedSum, .long v_allWays, .ref a_wereAt, .ref a_byPlace, .ref a_lanes, .ref a_sizes, .ref a_cells, .int v_torn, .ref a_before])), (a_now, .inl (cI, 56, .inl w6))] H := hP
      have hD : va_D A [(a_this, .inr (7, [.ref a_st, .ref a_now, .ref a_isKept, .ref a_draft, .int v_hasSigns, .int v_hasEvery, .ref a_tape, .int v_taped, .int v_pos, .int v_begun, .int v_sort, .int v_value, .int v_fault, .int v_wrongAt, .int w4, .int w5, .int v_bestCode, .int v_bestMuch, .long v_straightSum, .long v_movedSum, .long v_allWays, .ref a_wereAt, .ref a_byPlace, .ref a_lanes, .ref a_sizes, .ref a_cells, .int v_torn, .ref a_before])), (a_now, .inl (cI, 56, .inl w6))] := hD
      refine lv_iinc (v := x2 + 1) (lv' := [(2, .int (x2 + 1)), (0, .ref a_this), (1, .int x1)]) C.1 C.2.1 dX7_ticksGo_16 hl (k := 2) rfl rfl (by decide) rfl (fun ls hl => ?_)
      refine lv_goto (tgt := 2) C.1 C.2.1 dX7_ticksGo_19 (by decide) ?_
      exact ih w4 w5 w6 x1 (x2 + 1) _ _ _ hF hP hD hS (lv_sub hl [1, 2, 0] rfl)
set_option maxHeartbeats 4000000 in
set_option maxRecDepth 100000 in
theorem c_X7_ticksGo {l : Launch} {D : va_G} {cI cB cZ cR cM cS : ClassId} {a_this : Nat} {a_st : Nat} {a_now : Nat} {a_isKept : Nat} {a_draft : Nat} {a_tape : Nat} {a_wereAt : Nat} {a_byPlace : Nat} {a_lanes : Nat} {a_sizes : Nat} {a_cells : Nat} {a_before : Nat} {v_hasSigns : Int32} {v_hasEvery : Int32} {v_taped : Int32} {v_pos : Int32} {v_begun : Int32} {v_sort : Int32} {v_value : Int32} {v_fault : Int32} {v_wrongAt : Int32} {v_moved : Int32} {v_slipTicks : Int32} {v_bestCode : Int32} {v_bestMuch : Int32} {v_straightSum : Int64} {v_movedSum : Int64} {v_allWays : Int64} {v_torn : Int32} {v_now : Nat → Int32} {x1 : Int32} {v_moved' : Int32} {v_slipTicks' : Int32} {v_now' : Nat → Int32} (hF : F_X7_ticksGo v_moved v_slipTicks v_now x1 = some (v_moved', v_slipTicks', v_now')) : MV l yX7_ticksGo cX7_ticksGo 3 rm_X7_ticksGo D (TS cI cB cZ cR cM cS) [.ref a_this, .int x1] [(a_this, .inr (7, [.ref a_st, .ref a_now, .ref a_isKept, .ref a_draft, .int v_hasSigns, .int v_hasEvery, .ref a_tape, .int v_taped, .int v_pos, .int v_begun, .int v_sort, .int v_value, .int v_fault, .int v_wrongAt, .int v_moved, .int v_slipTicks, .int v_bestCode, .int v_bestMuch, .long v_straightSum, .long v_movedSum, .long v_allWays, .ref a_wereAt, .ref a_byPlace, .ref a_lanes, .ref a_sizes, .ref a_cells, .int v_torn, .ref a_before])), (a_now, .inl (cI, 56, .inl v_now))] [(a_this, .inr (7, [.ref a_st, .ref a_now, .ref a_isKept, .ref a_draft, .int v_hasSigns, .int v_hasEvery, .ref a_tape, .int v_taped, .int v_pos, .int v_begun, .int v_sort, .int v_value, .int v_fault, .int v_wrongAt, .int v_moved', .int v_slipTicks', .int v_bestCode, .int v_bestMuch, .long v_straightSum, .long v_movedSum, .long v_allWays, .ref a_wereAt, .ref a_byPlace, .ref a_lanes, .ref a_sizes, .ref a_cells, .int v_torn, .ref a_before])), (a_now, .inl (cI, 56, .inl v_now'))] :=
  MV_of (by decide) (Nat.le_of_ble_eq_true rfl) (fun p e s m args below meth c A ls C hr hlk hK hA hP hD hS hl => by
    have C : CX p m c cX7_ticksGo 3 s args RX7 := C
    have hl : lv_has ls 3 [(0, .ref a_this), (1, .int x1)] := hl
    unfold F_X7_ticksGo at hF
    refine lv_iconst (v := 0) C.1 C.2.1 dX7_ticksGo_0 (by decide) ?_
    refine lv_istore_n (lv' := [(2, .int (0 : Int32)), (0, .ref a_this), (1, .int x1)]) C.1 C.2.1 dX7_ticksGo_1 rfl hl (by decide) rfl (fun ls hl => ?_)
    exact b_X7_ticksGo_2 C hr hlk hK hA FU v_moved v_slipTicks v_now x1 (0 : Int32) _ _ _ hF hP hD hS (lv_sub hl [1, 2, 0] rfl))
def rm_X7_lostBehind : Room := { frames := 6, cells := 0, slots := 0, locals := 133 }
theorem cv_X7_lostBehind : CV yX7_lostBehind cX7_lostBehind 2 (some .int) rm_X7_lostBehind RX7 1 := ⟨kw5_59, kwp_54, kw1_8, kw5_60, by decide +kernel, rfl, rfl⟩
set_option maxHeartbeats 4000000 in
set_option maxRecDepth 100000 in
theorem c_X7_lostBehind {l : Launch} {D : va_G} {cI cB cZ cR cM cS : ClassId} {a_this : Nat} {a_st : Nat} {a_now : Nat} {a_isKept : Nat} {a_draft : Nat} {a_tape : Nat} {a_wereAt : Nat} {a_byPlace : Nat} {a_lanes : Nat} {a_sizes : Nat} {a_cells : Nat} {a_before : Nat} {v_hasSigns : Int32} {v_hasEvery : Int32} {v_taped : Int32} {v_pos : Int32} {v_begun : Int32} {v_sort : Int32} {v_value : Int32} {v_fault : Int32} {v_wrongAt : Int32} {v_moved : Int32} {v_slipTicks : Int32} {v_bestCode : Int32} {v_bestMuch : Int32} {v_straightSum : Int64} {v_movedSum : Int64} {v_allWays : Int64} {v_torn : Int32} {v_now : Nat → Int32} {x1 : Int32} {r_ : Int32} {v_moved' : Int32} {v_slipTicks' : Int32} {v_now' : Nat → Int32} (hF : F_X7_lostBehind v_moved v_slipTicks v_now x1 = some (r_, v_moved', v_slipTicks', v_now')) : MI l yX7_lostBehind cX7_lostBehind 2 .int rm_X7_lostBehind D (TS cI cB cZ cR cM cS) [.ref a_this, .int x1] [(a_this, .inr (7, [.ref a_st, .ref a_now, .ref a_isKept, .ref a_draft, .int v_hasSigns, .int v_hasEvery, .ref a_tape, .int v_taped, .int v_pos, .int v_begun, .int v_sort, .int v_value, .int v_fault, .int v_wrongAt, .int v_moved, .int v_slipTicks, .int v_bestCode, .int v_bestMuch, .long v_straightSum, .long v_movedSum, .long v_allWays, .ref a_wereAt, .ref a_byPlace, .ref a_lanes, .ref a_sizes, .ref a_cells, .int v_torn, .ref a_before])), (a_now, .inl (cI, 56, .inl v_now))] [(a_this, .inr (7, [.ref a_st, .ref a_now, .ref a_isKept, .ref a_draft, .int v_hasSigns, .int v_hasEvery, .ref a_tape, .int v_taped, .int v_pos, .int v_begun, .int v_sort, .int v_value, .int v_fault, .int v_wrongAt, .int v_moved', .int v_slipTicks', .int v_bestCode, .int v_bestMuch, .long v_straightSum, .long v_movedSum, .long v_allWays, .ref a_wereAt, .ref a_byPlace, .ref a_lanes, .ref a_sizes, .ref a_cells, .int v_torn, .ref a_before])), (a_now, .inl (cI, 56, .inl v_now'))] r_ :=
  MI_of (by decide) (Nat.le_of_ble_eq_true rfl) (fun p e s m args below meth c A ls C hr hlk hK hA hP hD hS hl => by
    have C : CX p m c cX7_lostBehind 2 s args RX7 := C
    have hl : lv_has ls 2 [(0, .ref a_this), (1, .int x1)] := hl
    unfold F_X7_lostBehind at hF
    refine lv_aload_n C.1 C.2.1 dX7_lostBehind_0 rfl (lv_at hl 0 rfl) ?_
    refine lv_iload_n C.1 C.2.1 dX7_lostBehind_1 rfl (lv_at hl 1 rfl) ?_
    obtain ⟨⟨w1, w2, w3⟩, h4, hF⟩ := fb hF
    refine callVV C hK hA hP hD hS [0, 1] (c_X7_ticksGo (a_this := a_this) (a_st := a_st) (a_now := a_now) (a_isKept := a_isKept) (a_draft := a_draft) (a_tape := a_tape) (a_wereAt := a_wereAt) (a_byPlace := a_byPlace) (a_lanes := a_lanes) (a_sizes := a_sizes) (a_cells := a_cells) (a_before := a_before) (v_hasSigns := v_hasSigns) (v_hasEvery := v_hasEvery) (v_taped := v_taped) (v_pos := v_pos) (v_begun := v_begun) (v_sort := v_sort) (v_value := v_value) (v_fault := v_fault) (v_wrongAt := v_wrongAt) (v_moved := v_moved) (v_slipTicks := v_slipTicks) (v_bestCode := v_bestCode) (v_bestMuch := v_bestMuch) (v_straightSum := v_straightSum) (v_movedSum := v_movedSum) (v_allWays := v_allWays) (v_torn := v_torn) (v_now := v_now) h4) cv_X7_ticksGo kw4_226 rfl (by decide) rfl rfl rfl ⟨Nat.le_of_ble_eq_true rfl, Nat.le_of_ble_eq_true rfl⟩ ⟨Nat.zero_le _, Nat.zero_le _⟩ hl.1 rfl (Nat.le_of_ble_eq_true rfl) dX7_lostBehind_2 (fun H locs hP hD hS => ?_)
    have hP : va_P D vwCl [(a_this, .inr (7, [.ref a_st, .ref a_now, .ref a_isKept, .ref a_draft, .int v_hasSigns, .int v_hasEvery, .ref a_tape, .int v_taped, .int v_pos, .int v_begun, .int v_sort, .int v_value, .int v_fault, .int v_wrongAt, .int w1, .int w2, .int v_bestCode, .int v_bestMuch, .long v_straightSum, .long v_movedSum, .long v_allWays, .ref a_wereAt, .ref a_byPlace, .ref a_lanes, .ref a_sizes, .ref a_cells, .int v_torn, .ref a_before])), (a_now, .inl (cI, 56, .inl w3))] H := hP
    have hD : va_D A [(a_this, .inr (7, [.ref a_st, .ref a_now, .ref a_isKept, .ref a_draft, .int v_hasSigns, .int v_hasEvery, .ref a_tape, .int v_taped, .int v_pos, .int v_begun, .int v_sort, .int v_value, .int v_fault, .int v_wrongAt, .int w1, .int w2, .int v_bestCode, .int v_bestMuch, .long v_straightSum, .long v_movedSum, .long v_allWays, .ref a_wereAt, .ref a_byPlace, .ref a_lanes, .ref a_sizes, .ref a_cells, .int v_torn, .ref a_before])), (a_now, .inl (cI, 56, .inl w3))] := hD
    refine lv_aload_n C.1 C.2.1 dX7_lostBehind_5 rfl (lv_at hl 0 rfl) ?_
    obtain ⟨r5, h6, hF⟩ := fb hF
    refine callVI C hK hA hP hD hS [0, 1] (c_X7_allLost (a_this := a_this) (a_st := a_st) (a_now := a_now) (a_isKept := a_isKept) (a_draft := a_draft) (a_tape := a_tape) (a_wereAt := a_wereAt) (a_byPlace := a_byPlace) (a_lanes := a_lanes) (a_sizes := a_sizes) (a_cells := a_cells) (a_before := a_before) (v_hasSigns := v_hasSigns) (v_hasEvery := v_hasEvery) (v_taped := v_taped) (v_pos := v_pos) (v_begun := v_begun) (v_sort := v_sort) (v_value := v_value) (v_fault := v_fault) (v_wrongAt := v_wrongAt) (v_moved := w1) (v_slipTicks := w2) (v_bestCode := v_bestCode) (v_bestMuch := v_bestMuch) (v_straightSum := v_straightSum) (v_movedSum := v_movedSum) (v_allWays := v_allWays) (v_torn := v_torn) (v_now := w3) h6) cv_X7_allLost kw4_166 rfl (by decide) rfl rfl rfl ⟨Nat.le_of_ble_eq_true rfl, Nat.le_of_ble_eq_true rfl⟩ ⟨Nat.zero_le _, Nat.zero_le _⟩ hl.1 rfl (Nat.le_of_ble_eq_true rfl) dX7_lostBehind_6 (fun H locs hP hD hS => ?_)
    have hP : va_P D vwCl [(a_this, .inr (7, [.ref a_st, .ref a_now, .ref a_isKept, .ref a_draft, .int v_hasSigns, .int v_hasEvery, .ref a_tape, .int v_taped, .int v_pos, .int v_begun, .int v_sort, .int v_value, .int v_fault, .int v_wrongAt, .int w1, .int w2, .int v_bestCode, .int v_bestMuch, .long v_straightSum, .long v_movedSum, .long v_allWays, .ref a_wereAt, .ref a_byPlace, .ref a_lanes, .ref a_sizes, .ref a_cells, .int v_torn, .ref a_before])), (a_now, .inl (cI, 56, .inl w3))] H := hP
    have hD : va_D A [(a_this, .inr (7, [.ref a_st, .ref a_now, .ref a_isKept, .ref a_draft, .int v_hasSigns, .int v_hasEvery, .ref a_tape, .int v_taped, .int v_pos, .int v_begun, .int v_sort, .int v_value, .int v_fault, .int v_wrongAt, .int w1, .int w2, .int v_bestCode, .int v_bestMuch, .long v_straightSum, .long v_movedSum, .long v_allWays, .ref a_wereAt, .ref a_byPlace, .ref a_lanes, .ref a_sizes, .ref a_cells, .int v_torn, .ref a_before])), (a_now, .inl (cI, 56, .inl w3))] := hD
    cases hF
    exact retI C hr hlk hP hD hS dX7_lostBehind_9)
def rm_X7_rule : Room := { frames := 4, cells := 0, slots := 0, locals := 87 }
theorem cv_X7_rule : CV yX7_rule cX7_rule 2 (some .int) rm_X7_rule RX7 1 := ⟨kw4_133, kw4_134, kw1_8, kw4_135, by decide +kernel, rfl, rfl⟩
set_option maxHeartbeats 4000000 in
set_option maxRecDepth 100000 in
theorem c_X7_rule {l : Launch} {D : va_G} {cI cB cZ cR cM cS : ClassId} {a_this : Nat} {a_st : Nat} {a_now : Nat} {a_isKept : Nat} {a_draft : Nat} {a_tape : Nat} {a_wereAt : Nat} {a_byPlace : Nat} {a_lanes : Nat} {a_sizes : Nat} {a_cells : Nat} {a_before : Nat} {v_hasSigns : Int32} {v_hasEvery : Int32} {v_taped : Int32} {v_pos : Int32} {v_begun : Int32} {v_sort : Int32} {v_value : Int32} {v_fault : Int32} {v_wrongAt : Int32} {v_moved : Int32} {v_slipTicks : Int32} {v_bestCode : Int32} {v_bestMuch : Int32} {v_straightSum : Int64} {v_movedSum : Int64} {v_allWays : Int64} {v_torn : Int32} {v_st : Nat → Int32} {v_now : Nat → Int32} {x1 : Int32} {r_ : Int32} {v_moved' : Int32} {v_slipTicks' : Int32} {v_now' : Nat → Int32} (hF : F_X7_rule v_moved v_slipTicks v_st v_now x1 = some (r_, v_moved', v_slipTicks', v_now')) : MI l yX7_rule cX7_rule 2 .int rm_X7_rule D (TS cI cB cZ cR cM cS) [.ref a_this, .int x1] [(a_this, .inr (7, [.ref a_st, .ref a_now, .ref a_isKept, .ref a_draft, .int v_hasSigns, .int v_hasEvery, .ref a_tape, .int v_taped, .int v_pos, .int v_begun, .int v_sort, .int v_value, .int v_fault, .int v_wrongAt, .int v_moved, .int v_slipTicks, .int v_bestCode, .int v_bestMuch, .long v_straightSum, .long v_movedSum, .long v_allWays, .ref a_wereAt, .ref a_byPlace, .ref a_lanes, .ref a_sizes, .ref a_cells, .int v_torn, .ref a_before])), (a_st, .inl (cI, 168, .inl v_st)), (a_now, .inl (cI, 56, .inl v_now))] [(a_this, .inr (7, [.ref a_st, .ref a_now, .ref a_isKept, .ref a_draft, .int v_hasSigns, .int v_hasEvery, .ref a_tape, .int v_taped, .int v_pos, .int v_begun, .int v_sort, .int v_value, .int v_fault, .int v_wrongAt, .int v_moved', .int v_slipTicks', .int v_bestCode, .int v_bestMuch, .long v_straightSum, .long v_movedSum, .long v_allWays, .ref a_wereAt, .ref a_byPlace, .ref a_lanes, .ref a_sizes, .ref a_cells, .int v_torn, .ref a_before])), (a_st, .inl (cI, 168, .inl v_st)), (a_now, .inl (cI, 56, .inl v_now'))] r_ :=
  MI_of (by decide) (Nat.le_of_ble_eq_true rfl) (fun p e s m args below meth c A ls C hr hlk hK hA hP hD hS hl => by
    have C : CX p m c cX7_rule 2 s args RX7 := C
    have hl : lv_has ls 2 [(0, .ref a_this), (1, .int x1)] := hl
    unfold F_X7_rule at hF
    refine lv_aload_n C.1 C.2.1 dX7_rule_0 rfl (lv_at hl 0 rfl) ?_
    obtain ⟨⟨w1, w2, w3⟩, h4, hF⟩ := fb hF
    refine callVV C hK hA hP hD hS [0, 1, 2] (c_X7_takesAll (a_this := a_this) (a_st := a_st) (a_now := a_now) (a_isKept := a_isKept) (a_draft := a_draft) (a_tape := a_tape) (a_wereAt := a_wereAt) (a_byPlace := a_byPlace) (a_lanes := a_lanes) (a_sizes := a_sizes) (a_cells := a_cells) (a_before := a_before) (v_hasSigns := v_hasSigns) (v_hasEvery := v_hasEvery) (v_taped := v_taped) (v_pos := v_pos) (v_begun := v_begun) (v_sort := v_sort) (v_value := v_value) (v_fault := v_fault) (v_wrongAt := v_wrongAt) (v_moved := v_moved) (v_slipTicks := v_slipTicks) (v_bestCode := v_bestCode) (v_bestMuch := v_bestMuch) (v_straightSum := v_straightSum) (v_movedSum := v_movedSum) (v_allWays := v_allWays) (v_torn := v_torn) (v_st := v_st) (v_now := v_now) h4) cv_X7_takesAll kw4_136 rfl (by decide) rfl rfl rfl ⟨Nat.le_of_ble_eq_true rfl, Nat.le_of_ble_eq_true rfl⟩ ⟨Nat.zero_le _, Nat.zero_le _⟩ hl.1 rfl (Nat.le_of_ble_eq_true rfl) dX7_rule_1 (fun H locs hP hD hS => ?_)
    have hP : va_P D vwCl [(a_this, .inr (7, [.ref a_st, .ref a_now, .ref a_isKept, .ref a_draft, .int v_hasSigns, .int v_hasEvery, .ref a_tape, .int v_taped, .int v_pos, .int v_begun, .int v_sort, .int v_value, .int v_fault, .int v_wrongAt, .int w1, .int w2, .int v_bestCode, .int v_bestMuch, .long v_straightSum, .long v_movedSum, .long v_allWays, .ref a_wereAt, .ref a_byPlace, .ref a_lanes, .ref a_sizes, .ref a_cells, .int v_torn, .ref a_before])), (a_st, .inl (cI, 168, .inl v_st)), (a_now, .inl (cI, 56, .inl w3))] H := hP
    have hD : va_D A [(a_this, .inr (7, [.ref a_st, .ref a_now, .ref a_isKept, .ref a_draft, .int v_hasSigns, .int v_hasEvery, .ref a_tape, .int v_taped, .int v_pos, .int v_begun, .int v_sort, .int v_value, .int v_fault, .int v_wrongAt, .int w1, .int w2, .int v_bestCode, .int v_bestMuch, .long v_straightSum, .long v_movedSum, .long v_allWays, .ref a_wereAt, .ref a_byPlace, .ref a_lanes, .ref a_sizes, .ref a_cells, .int v_torn, .ref a_before])), (a_st, .inl (cI, 168, .inl v_st)), (a_now, .inl (cI, 56, .inl w3))] := hD
    refine lv_iload_n C.1 C.2.1 dX7_rule_4 rfl (lv_at hl 1 rfl) ?_
    by_cases c5 : x1 = (0 : Int32)
    · have hF := fp hF c5
      refine lv_tableIn (tgt := 48) C.1 C.2.1 dX7_rule_5 (by rw [c5]; decide) (by rw [c5]; decide) (by rw [c5]; rfl) (by decide) ?_
      refine lv_aload_n C.1 C.2.1 dX7_rule_48 rfl (lv_at hl 0 rfl) ?_
      refine gf_7_7_st C hK hP 0 rfl rfl dX7_rule_49 ?_
      refine lv_bipush (v := 36) C.1 C.2.1 dX7_rule_52 (by decide) ?_
      obtain ⟨h6, hF⟩ := fk hF
      refine va_iald C.1 C.2.1 hK.1 hP 1 0 rfl rfl h6 dX7_rule_54 ?_
      cases hF
      exact retI C hr hlk hP hD hS dX7_rule_55
    · have hF := fn hF c5
      by_cases c7 : x1 = (1 : Int32)
      · have hF := fp hF c7
        refine lv_tableIn (tgt := 56) C.1 C.2.1 dX7_rule_5 (by rw [c7]; decide) (by rw [c7]; decide) (by rw [c7]; rfl) (by decide) ?_
        refine lv_aload_n C.1 C.2.1 dX7_rule_56 rfl (lv_at hl 0 rfl) ?_
        refine gf_7_7_st C hK hP 0 rfl rfl dX7_rule_57 ?_
        refine lv_bipush (v := 17) C.1 C.2.1 dX7_rule_60 (by decide) ?_
        obtain ⟨h8, hF⟩ := fk hF
        refine va_iald C.1 C.2.1 hK.1 hP 1 0 rfl rfl h8 dX7_rule_62 ?_
        cases hF
        exact retI C hr hlk hP hD hS dX7_rule_63
      · have hF := fn hF c7
        by_cases c9 : x1 = (2 : Int32)
        · have hF := fp hF c9
          refine lv_tableIn (tgt := 64) C.1 C.2.1 dX7_rule_5 (by rw [c9]; decide) (by rw [c9]; decide) (by rw [c9]; rfl) (by decide) ?_
          refine lv_aload_n C.1 C.2.1 dX7_rule_64 rfl (lv_at hl 0 rfl) ?_
          refine gf_7_7_st C hK hP 0 rfl rfl dX7_rule_65 ?_
          refine lv_bipush (v := 19) C.1 C.2.1 dX7_rule_68 (by decide) ?_
          obtain ⟨h10, hF⟩ := fk hF
          refine va_iald C.1 C.2.1 hK.1 hP 1 0 rfl rfl h10 dX7_rule_70 ?_
          cases hF
          exact retI C hr hlk hP hD hS dX7_rule_71
        · have hF := fn hF c9
          by_cases c11 : x1 = (3 : Int32)
          · have hF := fp hF c11
            refine lv_tableIn (tgt := 72) C.1 C.2.1 dX7_rule_5 (by rw [c11]; decide) (by rw [c11]; decide) (by rw [c11]; rfl) (by decide) ?_
            refine lv_aload_n C.1 C.2.1 dX7_rule_72 rfl (lv_at hl 0 rfl) ?_
            refine gf_7_7_st C hK hP 0 rfl rfl dX7_rule_73 ?_
            refine lv_bipush (v := 18) C.1 C.2.1 dX7_rule_76 (by decide) ?_
            obtain ⟨h12, hF⟩ := fk hF
            refine va_iald C.1 C.2.1 hK.1 hP 1 0 rfl rfl h12 dX7_rule_78 ?_
            cases hF
            exact retI C hr hlk hP hD hS dX7_rule_79
          · have hF := fn hF c11
            by_cases c13 : x1 = (4 : Int32)
            · have hF := fp hF c13
              refine lv_tableIn (tgt := 80) C.1 C.2.1 dX7_rule_5 (by rw [c13]; decide) (by rw [c13]; decide) (by rw [c13]; rfl) (by decide) ?_
              refine lv_ldc (v := 100000) C.1 C.2.1 C.2.2.2.1 (C.2.2.2.2 _ kw4_140) dX7_rule_80 ?_
              refine lv_aload_n C.1 C.2.1 dX7_rule_82 rfl (lv_at hl 0 rfl) ?_
              refine gf_7_7_st C hK hP 0 rfl rfl dX7_rule_83 ?_
              refine lv_iconst (v := 0) C.1 C.2.1 dX7_rule_86 (by decide) ?_
              obtain ⟨h14, hF⟩ := fk hF
              refine va_iald C.1 C.2.1 hK.1 hP 1 0 rfl rfl h14 dX7_rule_87 ?_
              refine lv_iadd C.1 C.2.1 dX7_rule_88 ?_
              cases hF
              exact retI C hr hlk hP hD hS dX7_rule_89
            · have hF := fn hF c13
              by_cases c15 : x1 = (5 : Int32)
              · have hF := fp hF c15
                refine lv_tableIn (tgt := 90) C.1 C.2.1 dX7_rule_5 (by rw [c15]; decide) (by rw [c15]; decide) (by rw [c15]; rfl) (by decide) ?_
                refine lv_aload_n C.1 C.2.1 dX7_rule_90 rfl (lv_at hl 0 rfl) ?_
                obtain ⟨r16, h17, hF⟩ := fb hF
                refine callVI C hK hA hP hD hS [0, 2] (c_X7_slipping (a_this := a_this) (a_st := a_st) (a_now := a_now) (a_isKept := a_isKept) (a_draft := a_draft) (a_tape := a_tape) (a_wereAt := a_wereAt) (a_byPlace := a_byPlace) (a_lanes := a_lanes) (a_sizes := a_sizes) (a_cells := a_cells) (a_before := a_before) (v_hasSigns := v_hasSigns) (v_hasEvery := v_hasEvery) (v_taped := v_taped) (v_pos := v_pos) (v_begun := v_begun) (v_sort := v_sort) (v_value := v_value) (v_fault := v_fault) (v_wrongAt := v_wrongAt) (v_moved := w1) (v_slipTicks := w2) (v_bestCode := v_bestCode) (v_bestMuch := v_bestMuch) (v_straightSum := v_straightSum) (v_movedSum := v_movedSum) (v_allWays := v_allWays) (v_torn := v_torn) (v_now := w3) h17) cv_X7_slipping kw4_141 rfl (by decide) rfl rfl rfl ⟨Nat.le_of_ble_eq_true rfl, Nat.le_of_ble_eq_true rfl⟩ ⟨Nat.zero_le _, Nat.zero_le _⟩ hl.1 rfl (Nat.le_of_ble_eq_true rfl) dX7_rule_91 (fun H locs hP hD hS => ?_)
                have hP : va_P D vwCl [(a_this, .inr (7, [.ref a_st, .ref a_now, .ref a_isKept, .ref a_draft, .int v_hasSigns, .int v_hasEvery, .ref a_tape, .int v_taped, .int v_pos, .int v_begun, .int v_sort, .int v_value, .int v_fault, .int v_wrongAt, .int w1, .int w2, .int v_bestCode, .int v_bestMuch, .long v_straightSum, .long v_movedSum, .long v_allWays, .ref a_wereAt, .ref a_byPlace, .ref a_lanes, .ref a_sizes, .ref a_cells, .int v_torn, .ref a_before])), (a_st, .inl (cI, 168, .inl v_st)), (a_now, .inl (cI, 56, .inl w3))] H := hP
                have hD : va_D A [(a_this, .inr (7, [.ref a_st, .ref a_now, .ref a_isKept, .ref a_draft, .int v_hasSigns, .int v_hasEvery, .ref a_tape, .int v_taped, .int v_pos, .int v_begun, .int v_sort, .int v_value, .int v_fault, .int v_wrongAt, .int w1, .int w2, .int v_bestCode, .int v_bestMuch, .long v_straightSum, .long v_movedSum, .long v_allWays, .ref a_wereAt, .ref a_byPlace, .ref a_lanes, .ref a_sizes, .ref a_cells, .int v_torn, .ref a_before])), (a_st, .inl (cI, 168, .inl v_st)), (a_now, .inl (cI, 56, .inl w3))] := hD
                cases hF
                exact retI C hr hlk hP hD hS dX7_rule_94
              · have hF := fn hF c15
                by_cases c18 : x1 = (6 : Int32)
                · have hF := fp hF c18
                  refine lv_tableIn (tgt := 95) C.1 C.2.1 dX7_rule_5 (by rw [c18]; decide) (by rw [c18]; decide) (by rw [c18]; rfl) (by decide) ?_
                  refine lv_aload_n C.1 C.2.1 dX7_rule_95 rfl (lv_at hl 0 rfl) ?_
                  obtain ⟨r19, h20, hF⟩ := fb hF
                  refine callVI C hK hA hP hD hS [0, 2] (c_X7_allLost (a_this := a_this) (a_st := a_st) (a_now := a_now) (a_isKept := a_isKept) (a_draft := a_draft) (a_tape := a_tape) (a_wereAt := a_wereAt) (a_byPlace := a_byPlace) (a_lanes := a_lanes) (a_sizes := a_sizes) (a_cells := a_cells) (a_before := a_before) (v_hasSigns := v_hasSigns) (v_hasEvery := v_hasEvery) (v_taped := v_taped) (v_pos := v_pos) (v_begun := v_begun) (v_sort := v_sort) (v_value := v_value) (v_fault := v_fault) (v_wrongAt := v_wrongAt) (v_moved := w1) (v_slipTicks := w2) (v_bestCode := v_bestCode) (v_bestMuch := v_bestMuch) (v_straightSum := v_straightSum) (v_movedSum := v_movedSum) (v_allWays := v_allWays) (v_torn := v_torn) (v_now := w3) h20) cv_X7_allLost kw4_166 rfl (by decide) rfl rfl rfl ⟨Nat.le_of_ble_eq_true rfl, Nat.le_of_ble_eq_true rfl⟩ ⟨Nat.zero_le _, Nat.zero_le _⟩ hl.1 rfl (Nat.le_of_ble_eq_true rfl) dX7_rule_96 (fun H locs hP hD hS => ?_)
                  have hP : va_P D vwCl [(a_this, .inr (7, [.ref a_st, .ref a_now, .ref a_isKept, .ref a_draft, .int v_hasSigns, .int v_hasEvery, .ref a_tape, .int v_taped, .int v_pos, .int v_begun, .int v_sort, .int v_value, .int v_fault, .int v_wrongAt, .int w1, .int w2, .int v_bestCode, .int v_bestMuch, .long v_straightSum, .long v_movedSum, .long v_allWays, .ref a_wereAt, .ref a_byPlace, .ref a_lanes, .ref a_sizes, .ref a_cells, .int v_torn, .ref a_before])), (a_st, .inl (cI, 168, .inl v_st)), (a_now, .inl (cI, 56, .inl w3))] H := hP
                  have hD : va_D A [(a_this, .inr (7, [.ref a_st, .ref a_now, .ref a_isKept, .ref a_draft, .int v_hasSigns, .int v_hasEvery, .ref a_tape, .int v_taped, .int v_pos, .int v_begun, .int v_sort, .int v_value, .int v_fault, .int v_wrongAt, .int w1, .int w2, .int v_bestCode, .int v_bestMuch, .long v_straightSum, .long v_movedSum, .long v_allWays, .ref a_wereAt, .ref a_byPlace, .ref a_lanes, .ref a_sizes, .ref a_cells, .int v_torn, .ref a_before])), (a_st, .inl (cI, 168, .inl v_st)), (a_now, .inl (cI, 56, .inl w3))] := hD
                  cases hF
                  exact retI C hr hlk hP hD hS dX7_rule_99
                · have hF := fn hF c18
                  refine lv_tableOut (tgt := 100) C.1 C.2.1 dX7_rule_5 (by have q0 := lv_neT (k := 0) (a := 0) c5 (by decide); have q1 := lv_neT (k := 1) (a := 1) c7 (by decide); have q2 := lv_neT (k := 2) (a := 2) c9 (by decide); have q3 := lv_neT (k := 3) (a := 3) c11 (by decide); have q4 := lv_neT (k := 4) (a := 4) c13 (by decide); have q5 := lv_neT (k := 5) (a := 5) c15 (by decide); have q6 := lv_neT (k := 6) (a := 6) c18 (by decide); omega) (by decide) ?_
                  refine lv_iconst (v := (-1)) C.1 C.2.1 dX7_rule_100 (by decide) ?_
                  cases hF
                  exact retI C hr hlk hP hD hS dX7_rule_101)
