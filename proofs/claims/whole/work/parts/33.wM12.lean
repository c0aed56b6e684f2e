def rm_X7_sheet : Room := { frames := 2, cells := 0, slots := 0, locals := 46 }
theorem cv_X7_sheet : CV yX7_sheet cX7_sheet 5 (some .int) rm_X7_sheet RX7 3 := ⟨kw5_153, kw5_154, kw1_8, kw5_155, by decide +kernel, rfl, rfl⟩
set_option maxHeartbeats 4000000 in
set_option maxRecDepth 100000 in
theorem b_X7_sheet_40 {l : Launch} {D : va_G} {cI cB cZ cR cM cS : ClassId} {a_this : Nat} {a_st : Nat} {a_now : Nat} {a_isKept : Nat} {a_draft : Nat} {a_tape : Nat} {a_wereAt : Nat} {a_byPlace : Nat} {a_lanes : Nat} {a_sizes : Nat} {a_cells : Nat} {a_before : Nat} {v_hasSigns : Int32} {v_hasEvery : Int32} {v_taped : Int32} {v_pos : Int32} {v_begun : Int32} {v_sort : Int32} {v_value : Int32} {v_fault : Int32} {v_wrongAt : Int32} {v_moved : Int32} {v_slipTicks : Int32} {v_bestCode : Int32} {v_bestMuch : Int32} {v_straightSum : Int64} {v_movedSum : Int64} {v_allWays : Int64} {v_torn : Int32} {p : Program} {e : Env} {s : State} {m : MethodId} {args : Array Value} {below : List Frame} {meth : Method} {c : Code} {A : Nat → Prop} {res : Int32 × (Nat → Int32) × (Nat → Int32) × (Nat → Int32)} (C : CX p m c cX7_sheet 5 s args RX7) (hr : meth.sig.returnType = (some .int)) (hlk : meth.locks = false) (hK : KK D (TS cI cB cZ cR cM cS) s) (hA : ∀ q, s.heap.size ≤ q → A q) : ∀ (fu : Nat) (v_lanes : Nat → Int32) (v_sizes : Nat → Int32) (v_cells : Nat → Int32) (x1 : Int32) (x4 : Int32) (H : Heap) (locs : List Loc) (ls : Array Slot), F_X7_sheet_40 fu v_lanes v_sizes v_cells x1 x4 = some res → va_P D vwCl [(a_this, .inr (7, [.ref a_st, .ref a_now, .ref a_isKept, .ref a_draft, .int v_hasSigns, .int v_hasEvery, .ref a_tape, .int v_taped, .int v_pos, .int v_begun, .int v_sort, .int v_value, .int v_fault, .int v_wrongAt, .int v_moved, .int v_slipTicks, .int v_bestCode, .int v_bestMuch, .long v_straightSum, .long v_movedSum, .long v_allWays, .ref a_wereAt, .ref a_byPlace, .ref a_lanes, .ref a_sizes, .ref a_cells, .int v_torn, .ref a_before])), (a_lanes, .inl (cI, 4, .inl v_lanes)), (a_sizes, .inl (cI, 4, .inl v_sizes)), (a_cells, .inl (cI, 160, .inl v_cells))] H → va_D A [(a_this, .inr (7, [.ref a_st, .ref a_now, .ref a_isKept, .ref a_draft, .int v_hasSigns, .int v_hasEvery, .ref a_tape, .int v_taped, .int v_pos, .int v_begun, .int v_sort, .int v_value, .int v_fault, .int v_wrongAt, .int v_moved, .int v_slipTicks, .int v_bestCode, .int v_bestMuch, .long v_straightSum, .long v_movedSum, .long v_allWays, .ref a_wereAt, .ref a_byPlace, .ref a_lanes, .ref a_sizes, .ref a_cells, .int v_torn, .ref a_before])), (a_lanes, .inl (cI, 4, .inl v_lanes)), (a_sizes, .inl (cI, 4, .inl v_sizes)), (a_cells, .inl (cI, 160, .inl v_cells))] → va_S A s.heap H locs → lv_has ls 5 [(0, .ref a_this), (1, .int x1), (4, .int x4)] → W p l e rm_X7_sheet s m args below meth c H locs 0 0 (MQ below (va_Qi (fun x (_ : Unit) => x = res.1) (BW D A [(a_this, .inr (7, [.ref a_st, .ref a_now, .ref a_isKept, .ref a_draft, .int v_hasSigns, .int v_hasEvery, .ref a_tape, .int v_taped, .int v_pos, .int v_begun, .int v_sort, .int v_value, .int v_fault, .int v_wrongAt, .int v_moved, .int v_slipTicks, .int v_bestCode, .int v_bestMuch, .long v_straightSum, .long v_movedSum, .long v_allWays, .ref a_wereAt, .ref a_byPlace, .ref a_lanes, .ref a_sizes, .ref a_cells, .int v_torn, .ref a_before])), (a_lanes, .inl (cI, 4, .inl res.2.1)), (a_sizes, .inl (cI, 4, .inl res.2.2.1)), (a_cells, .inl (cI, 160, .inl res.2.2.2))]) A) args s 0 0 A) (F0 m 40 ls []) := by
  intro fu
  induction fu with
  | zero => intro v_lanes v_sizes v_cells x1 x4 H locs ls hF; cases hF
  | succ fu ih =>
    intro v_lanes v_sizes v_cells x1 x4 H locs ls hF  hP hD hS hl
    unfold F_X7_sheet_40 at hF
    refine lv_iload C.1 C.2.1 dX7_sheet_40 (lv_at hl 2 rfl) ?_
    refine lv_bipush (v := 40) C.1 C.2.1 dX7_sheet_42 (by decide) ?_
    refine lv_icmp_ge (tgt := 66) C.1 C.2.1 dX7_sheet_44 (by decide) (fun c1 => ?_) (fun c1 => ?_)
    · have hF := fp hF c1
      refine lv_iconst (v := 1) C.1 C.2.1 dX7_sheet_66 (by decide) ?_
      have hF := Option.some.inj hF
      subst hF
      exact retI C hr hlk hP hD hS dX7_sheet_67
    · have hF := fn hF c1
      refine lv_aload_n C.1 C.2.1 dX7_sheet_47 rfl (lv_at hl 0 rfl) ?_
      refine gf_7_7_cells C hK hP 0 rfl rfl dX7_sheet_48 ?_
      refine lv_bipush (v := 40) C.1 C.2.1 dX7_sheet_51 (by decide) ?_
      refine lv_iload_n C.1 C.2.1 dX7_sheet_53 rfl (lv_at hl 1 rfl) ?_
      refine lv_imul C.1 C.2.1 dX7_sheet_54 ?_
      refine lv_iload C.1 C.2.1 dX7_sheet_55 (lv_at hl 2 rfl) ?_
      refine lv_iadd C.1 C.2.1 dX7_sheet_57 ?_
      refine lv_iconst (v := 0) C.1 C.2.1 dX7_sheet_58 (by decide) ?_
      obtain ⟨h2, hF⟩ := fk hF
      refine va_iast C.1 C.2.1 hK.1 hP hD hS 3 0 rfl rfl h2 dX7_sheet_59 (fun H locs hP hD hS => ?_)
      have hP : va_P D vwCl [(a_this, .inr (7, [.ref a_st, .ref a_now, .ref a_isKept, .ref a_draft, .int v_hasSigns, .int v_hasEvery, .ref a_tape, .int v_taped, .int v_pos, .int v_begun, .int v_sort, .int v_value, .int v_fault, .int v_wrongAt, .int v_moved, .int v_slipTicks, .int v_bestCode, .int v_bestMuch, .long v_straightSum, .long v_movedSum, .long v_allWays, .ref a_wereAt, .ref a_byPlace, .ref a_lanes, .ref a_sizes, .ref a_cells, .int v_torn, .ref a_before])), (a_lanes, .inl (cI, 4, .inl v_lanes)), (a_sizes, .inl (cI, 4, .inl v_sizes)), (a_cells, .inl (cI, 160, .inl (upd v_cells (((40 : Int32) * x1) + x4).toNatClampNeg (0 : Int32))))] H := hP
      have hD : va_D A [(a_this, .inr (7, [.ref a_st, .ref a_now, .ref a_isKept, .ref a_draft, .int v_hasSigns, .int v_hasEvery, .ref a_tape, .int v_taped, .int v_pos, .int v_begun, .int v_sort, .int v_value, .int v_fault, .int v_wrongAt, .int v_moved, .int v_slipTicks, .int v_bestCode, .int v_bestMuch, .long v_straightSum, .long v_movedSum, .long v_allWays, .ref a_wereAt, .ref a_byPlace, .ref a_lanes, .ref a_sizes, .ref a_cells, .int v_torn, .ref a_before])), (a_lanes, .inl (cI, 4, .inl v_lanes)), (a_sizes, .inl (cI, 4, .inl v_sizes)), (a_cells, .inl (cI, 160, .inl (upd v_cells (((40 : Int32) * x1) + x4).toNatClampNeg (0 : Int32))))] := hD
      refine lv_iinc (v := x4 + 1) (lv' := [(4, .int (x4 + 1)), (0, .ref a_this), (1, .int x1)]) C.1 C.2.1 dX7_sheet_60 hl (k := 2) rfl rfl (by decide) rfl (fun ls hl => ?_)
      refine lv_goto (tgt := 40) C.1 C.2.1 dX7_sheet_63 (by decide) ?_
      exact ih v_lanes v_sizes (upd v_cells (((40 : Int32) * x1) + x4).toNatClampNeg (0 : Int32)) x1 (x4 + 1) _ _ _ hF hP hD hS (lv_sub hl [1, 2, 0] rfl)
set_option maxHeartbeats 4000000 in
set_option maxRecDepth 100000 in
theorem c0_X7_sheet {l : Launch} {D : va_G} {cI cB cZ cR cM cS : ClassId} {a_this : Nat} {a_st : Nat} {a_now : Nat} {a_isKept : Nat} {a_draft : Nat} {a_tape : Nat} {a_wereAt : Nat} {a_byPlace : Nat} {a_lanes : Nat} {a_sizes : Nat} {a_cells : Nat} {a_before : Nat} {v_hasSigns : Int32} {v_hasEvery : Int32} {v_taped : Int32} {v_pos : Int32} {v_begun : Int32} {v_sort : Int32} {v_value : Int32} {v_fault : Int32} {v_wrongAt : Int32} {v_moved : Int32} {v_slipTicks : Int32} {v_bestCode : Int32} {v_bestMuch : Int32} {v_straightSum : Int64} {v_movedSum : Int64} {v_allWays : Int64} {v_torn : Int32} {v_lanes : Nat → Int32} {v_sizes : Nat → Int32} {v_cells : Nat → Int32} {x1 : Int32} {x2 : Int32} {x3 : Int32} {res : Int32 × (Nat → Int32) × (Nat → Int32) × (Nat → Int32)} (hF : F_X7_sheet v_lanes v_sizes v_cells x1 x2 x3 = some res) : MI l yX7_sheet cX7_sheet 5 .int rm_X7_sheet D (TS cI cB cZ cR cM cS) [.ref a_this, .int x1, .int x2, .int x3] [(a_this, .inr (7, [.ref a_st, .ref a_now, .ref a_isKept, .ref a_draft, .int v_hasSigns, .int v_hasEvery, .ref a_tape, .int v_taped, .int v_pos, .int v_begun, .int v_sort, .int v_value, .int v_fault, .int v_wrongAt, .int v_moved, .int v_slipTicks, .int v_bestCode, .int v_bestMuch, .long v_straightSum, .long v_movedSum, .long v_allWays, .ref a_wereAt, .ref a_byPlace, .ref a_lanes, .ref a_sizes, .ref a_cells, .int v_torn, .ref a_before])), (a_lanes, .inl (cI, 4, .inl v_lanes)), (a_sizes, .inl (cI, 4, .inl v_sizes)), (a_cells, .inl (cI, 160, .inl v_cells))] [(a_this, .inr (7, [.ref a_st, .ref a_now, .ref a_isKept, .ref a_draft, .int v_hasSigns, .int v_hasEvery, .ref a_tape, .int v_taped, .int v_pos, .int v_begun, .int v_sort, .int v_value, .int v_fault, .int v_wrongAt, .int v_moved, .int v_slipTicks, .int v_bestCode, .int v_bestMuch, .long v_straightSum, .long v_movedSum, .long v_allWays, .ref a_wereAt, .ref a_byPlace, .ref a_lanes, .ref a_sizes, .ref a_cells, .int v_torn, .ref a_before])), (a_lanes, .inl (cI, 4, .inl res.2.1)), (a_sizes, .inl (cI, 4, .inl res.2.2.1)), (a_cells, .inl (cI, 160, .inl res.2.2.2))] res.1 :=
  MI_of (by decide) (Nat.le_of_ble_eq_true rfl) (fun p e s m args below meth c A ls C hr hlk hK hA hP hD hS hl => by
    have C : CX p m c cX7_sheet 5 s args RX7 := C
    have hl : lv_has ls 5 [(0, .ref a_this), (1, .int x1), (2, .int x2), (3, .int x3)] := hl
    unfold F_X7_sheet at hF
    refine lv_iload_n C.1 C.2.1 dX7_sheet_0 rfl (lv_at hl 1 rfl) ?_
    refine lv_iload_n C.1 C.2.1 dX7_sheet_1 rfl (lv_at hl 2 rfl) ?_
    obtain ⟨r1, h2, hF⟩ := fb hF
    refine callSI C hK hA hP hD hS (c_X7_isSheet  h2) cs_X7_isSheet kw5_156 ⟨Nat.le_of_ble_eq_true rfl, Nat.le_of_ble_eq_true rfl⟩ ⟨Nat.zero_le _, Nat.zero_le _⟩ hl.1 rfl (Nat.le_of_ble_eq_true rfl) dX7_sheet_2 (fun H locs hP hD hS => ?_)
    refine lv_if_eq (tgt := 14) C.1 C.2.1 dX7_sheet_5 (by decide) (fun c3 => ?_) (fun c3 => ?_)
    · have hF := fp hF c3
      refine lv_iconst (v := (-1)) C.1 C.2.1 dX7_sheet_14 (by decide) ?_
      have hF := Option.some.inj hF
      subst hF
      exact retI C hr hlk hP hD hS dX7_sheet_15
    · have hF := fn hF c3
      refine lv_iload_n C.1 C.2.1 dX7_sheet_8 rfl (lv_at hl 3 rfl) ?_
      refine lv_bipush (v := 40) C.1 C.2.1 dX7_sheet_9 (by decide) ?_
      refine lv_icmp_le (tgt := 16) C.1 C.2.1 dX7_sheet_11 (by decide) (fun c4 => ?_) (fun c4 => ?_)
      · have hF := fp hF c4
        refine lv_iload_n C.1 C.2.1 dX7_sheet_16 rfl (lv_at hl 3 rfl) ?_
        refine lv_if_ge (tgt := 23) C.1 C.2.1 dX7_sheet_17 (by decide) (fun c5 => ?_) (fun c5 => ?_)
        · have hF := fp hF c5
          refine lv_aload_n C.1 C.2.1 dX7_sheet_23 rfl (lv_at hl 0 rfl) ?_
          refine gf_7_7_lanes C hK hP 0 rfl rfl dX7_sheet_24 ?_
          refine lv_iload_n C.1 C.2.1 dX7_sheet_27 rfl (lv_at hl 1 rfl) ?_
          refine lv_iload_n C.1 C.2.1 dX7_sheet_28 rfl (lv_at hl 2 rfl) ?_
          obtain ⟨h6, hF⟩ := fk hF
          refine va_iast C.1 C.2.1 hK.1 hP hD hS 1 0 rfl rfl h6 dX7_sheet_29 (fun H locs hP hD hS => ?_)
          have hP : va_P D vwCl [(a_this, .inr (7, [.ref a_st, .ref a_now, .ref a_isKept, .ref a_draft, .int v_hasSigns, .int v_hasEvery, .ref a_tape, .int v_taped, .int v_pos, .int v_begun, .int v_sort, .int v_value, .int v_fault, .int v_wrongAt, .int v_moved, .int v_slipTicks, .int v_bestCode, .int v_bestMuch, .long v_straightSum, .long v_movedSum, .long v_allWays, .ref a_wereAt, .ref a_byPlace, .ref a_lanes, .ref a_sizes, .ref a_cells, .int v_torn, .ref a_before])), (a_lanes, .inl (cI, 4, .inl (upd v_lanes x1.toNatClampNeg x2))), (a_sizes, .inl (cI, 4, .inl v_sizes)), (a_cells, .inl (cI, 160, .inl v_cells))] H := hP
          have hD : va_D A [(a_this, .inr (7, [.ref a_st, .ref a_now, .ref a_isKept, .ref a_draft, .int v_hasSigns, .int v_hasEvery, .ref a_tape, .int v_taped, .int v_pos, .int v_begun, .int v_sort, .int v_value, .int v_fault, .int v_wrongAt, .int v_moved, .int v_slipTicks, .int v_bestCode, .int v_bestMuch, .long v_straightSum, .long v_movedSum, .long v_allWays, .ref a_wereAt, .ref a_byPlace, .ref a_lanes, .ref a_sizes, .ref a_cells, .int v_torn, .ref a_before])), (a_lanes, .inl (cI, 4, .inl (upd v_lanes x1.toNatClampNeg x2))), (a_sizes, .inl (cI, 4, .inl v_sizes)), (a_cells, .inl (cI, 160, .inl v_cells))] := hD
          refine lv_aload_n C.1 C.2.1 dX7_sheet_30 rfl (lv_at hl 0 rfl) ?_
          refine gf_7_7_sizes C hK hP 0 rfl rfl dX7_sheet_31 ?_
          refine lv_iload_n C.1 C.2.1 dX7_sheet_34 rfl (lv_at hl 1 rfl) ?_
          refine lv_iload_n C.1 C.2.1 dX7_sheet_35 rfl (lv_at hl 3 rfl) ?_
          obtain ⟨h7, hF⟩ := fk hF
          refine va_iast C.1 C.2.1 hK.1 hP hD hS 2 0 rfl rfl h7 dX7_sheet_36 (fun H locs hP hD hS => ?_)
          have hP : va_P D vwCl [(a_this, .inr (7, [.ref a_st, .ref a_now, .ref a_isKept, .ref a_draft, .int v_hasSigns, .int v_hasEvery, .ref a_tape, .int v_taped, .int v_pos, .int v_begun, .int v_sort, .int v_value, .int v_fault, .int v_wrongAt, .int v_moved, .int v_slipTicks, .int v_bestCode, .int v_bestMuch, .long v_straightSum, .long v_movedSum, .long v_allWays, .ref a_wereAt, .ref a_byPlace, .ref a_lanes, .ref a_sizes, .ref a_cells, .int v_torn, .ref a_before])), (a_lanes, .inl (cI, 4, .inl (upd v_lanes x1.toNatClampNeg x2))), (a_sizes, .inl (cI, 4, .inl (upd v_sizes x1.toNatClampNeg x3))), (a_cells, .inl (cI, 160, .inl v_cells))] H := hP
          have hD : va_D A [(a_this, .inr (7, [.ref a_st, .ref a_now, .ref a_isKept, .ref a_draft, .int v_hasSigns, .int v_hasEvery, .ref a_tape, .int v_taped, .int v_pos, .int v_begun, .int v_sort, .int v_value, .int v_fault, .int v_wrongAt, .int v_moved, .int v_slipTicks, .int v_bestCode, .int v_bestMuch, .long v_straightSum, .long v_movedSum, .long v_allWays, .ref a_wereAt, .ref a_byPlace, .ref a_lanes, .ref a_sizes, .ref a_cells, .int v_torn, .ref a_before])), (a_lanes, .inl (cI, 4, .inl (upd v_lanes x1.toNatClampNeg x2))), (a_sizes, .inl (cI, 4, .inl (upd v_sizes x1.toNatClampNeg x3))), (a_cells, .inl (cI, 160, .inl v_cells))] := hD
          refine lv_iconst (v := 0) C.1 C.2.1 dX7_sheet_37 (by decide) ?_
          refine lv_istore (lv' := [(4, .int (0 : Int32)), (0, .ref a_this), (1, .int x1), (2, .int x2), (3, .int x3)]) C.1 C.2.1 dX7_sheet_38 hl (by decide) rfl (fun ls hl => ?_)
          exact b_X7_sheet_40 C hr hlk hK hA FU (upd v_lanes x1.toNatClampNeg x2) (upd v_sizes x1.toNatClampNeg x3) v_cells x1 (0 : Int32) _ _ _ hF hP hD hS (lv_sub hl [1, 2, 0] rfl)
        · have hF := fn hF c5
          refine lv_bipush (v := (-14)) C.1 C.2.1 dX7_sheet_20 (by decide) ?_
          have hF := Option.some.inj hF
          subst hF
          exact retI C hr hlk hP hD hS dX7_sheet_22
      · have hF := fn hF c4
        refine lv_iconst (v := (-1)) C.1 C.2.1 dX7_sheet_14 (by decide) ?_
        have hF := Option.some.inj hF
        subst hF
        exact retI C hr hlk hP hD hS dX7_sheet_15)
theorem c_X7_sheet {l : Launch} {D : va_G} {cI cB cZ cR cM cS : ClassId} {a_this : Nat} {a_st : Nat} {a_now : Nat} {a_isKept : Nat} {a_draft : Nat} {a_tape : Nat} {a_wereAt : Nat} {a_byPlace : Nat} {a_lanes : Nat} {a_sizes : Nat} {a_cells : Nat} {a_before : Nat} {v_hasSigns : Int32} {v_hasEvery : Int32} {v_taped : Int32} {v_pos : Int32} {v_begun : Int32} {v_sort : Int32} {v_value : Int32} {v_fault : Int32} {v_wrongAt : Int32} {v_moved : Int32} {v_slipTicks : Int32} {v_bestCode : Int32} {v_bestMuch : Int32} {v_straightSum : Int64} {v_movedSum : Int64} {v_allWays : Int64} {v_torn : Int32} {v_lanes : Nat → Int32} {v_sizes : Nat → Int32} {v_cells : Nat → Int32} {x1 : Int32} {x2 : Int32} {x3 : Int32} {r_ : Int32} {v_lanes' : Nat → Int32} {v_sizes' : Nat → Int32} {v_cells' : Nat → Int32} (hF : F_X7_sheet v_lanes v_sizes v_cells x1 x2 x3 = some (r_, v_lanes', v_sizes', v_cells')) : MI l yX7_sheet cX7_sheet 5 .int rm_X7_sheet D (TS cI cB cZ cR cM cS) [.ref a_this, .int x1, .int x2, .int x3] [(a_this, .inr (7, [.ref a_st, .ref a_now, .ref a_isKept, .ref a_draft, .int v_hasSigns, .int v_hasEvery, .ref a_tape, .int v_taped, .int v_pos, .int v_begun, .int v_sort, .int v_value, .int v_fault, .int v_wrongAt, .int v_moved, .int v_slipTicks, .int v_bestCode, .int v_bestMuch, .long v_straightSum, .long v_movedSum, .long v_allWays, .ref a_wereAt, .ref a_byPlace, .ref a_lanes, .ref a_sizes, .ref a_cells, .int v_torn, .ref a_before])), (a_lanes, .inl (cI, 4, .inl v_lanes)), (a_sizes, .inl (cI, 4, .inl v_sizes)), (a_cells, .inl (cI, 160, .inl v_cells))] [(a_this, .inr (7, [.ref a_st, .ref a_now, .ref a_isKept, .ref a_draft, .int v_hasSigns, .int v_hasEvery, .ref a_tape, .int v_taped, .int v_pos, .int v_begun, .int v_sort, .int v_value, .int v_fault, .int v_wrongAt, .int v_moved, .int v_slipTicks, .int v_bestCode, .int v_bestMuch, .long v_straightSum, .long v_movedSum, .long v_allWays, .ref a_wereAt, .ref a_byPlace, .ref a_lanes, .ref a_sizes, .ref a_cells, .int v_torn, .ref a_before])), (a_lanes, .inl (cI, 4, .inl v_lanes')), (a_sizes, .inl (cI, 4, .inl v_sizes')), (a_cells, .inl (cI, 160, .inl v_cells'))] r_ :=
  c0_X7_sheet (res := (r_, v_lanes', v_sizes', v_cells')) hF
def rm_X7_lay : Room := { frames := 2, cells := 0, slots := 0, locals := 46 }
theorem cv_X7_lay : CV yX7_lay cX7_lay 4 (some .int) rm_X7_lay RX7 3 := ⟨kw5_161, kw5_162, kw1_8, kw5_163, by decide +kernel, rfl, rfl⟩
set_option maxHeartbeats 4000000 in
set_option maxRecDepth 100000 in
theorem c0_X7_lay {l : Launch} {D : va_G} {cI cB cZ cR cM cS : ClassId} {a_this : Nat} {a_st : Nat} {a_now : Nat} {a_isKept : Nat} {a_draft : Nat} {a_tape : Nat} {a_wereAt : Nat} {a_byPlace : Nat} {a_lanes : Nat} {a_sizes : Nat} {a_cells : Nat} {a_before : Nat} {v_hasSigns : Int32} {v_hasEvery : Int32} {v_taped : Int32} {v_pos : Int32} {v_begun : Int32} {v_sort : Int32} {v_value : Int32} {v_fault : Int32} {v_wrongAt : Int32} {v_moved : Int32} {v_slipTicks : Int32} {v_bestCode : Int32} {v_bestMuch : Int32} {v_straightSum : Int64} {v_movedSum : Int64} {v_allWays : Int64} {v_torn : Int32} {v_lanes : Nat → Int32} {v_sizes : Nat → Int32} {v_cells : Nat → Int32} {x1 : Int32} {x2 : Int32} {x3 : Int32} {res : Int32 × (Nat → Int32)} (hF : F_X7_lay v_lanes v_sizes v_cells x1 x2 x3 = some res) : MI l yX7_lay cX7_lay 4 .int rm_X7_lay D (TS cI cB cZ cR cM cS) [.ref a_this, .int x1, .int x2, .int x3] [(a_this, .inr (7, [.ref a_st, .ref a_now, .ref a_isKept, .ref a_draft, .int v_hasSigns, .int v_hasEvery, .ref a_tape, .int v_taped, .int v_pos, .int v_begun, .int v_sort, .int v_value, .int v_fault, .int v_wrongAt, .int v_moved, .int v_slipTicks, .int v_bestCode, .int v_bestMuch, .long v_straightSum, .long v_movedSum, .long v_allWays, .ref a_wereAt, .ref a_byPlace, .ref a_lanes, .ref a_sizes, .ref a_cells, .int v_torn, .ref a_before])), (a_lanes, .inl (cI, 4, .inl v_lanes)), (a_sizes, .inl (cI, 4, .inl v_sizes)), (a_cells, .inl (cI, 160, .inl v_cells))] [(a_this, .inr (7, [.ref a_st, .ref a_now, .ref a_isKept, .ref a_draft, .int v_hasSigns, .int v_hasEvery, .ref a_tape, .int v_taped, .int v_pos, .int v_begun, .int v_sort, .int v_value, .int v_fault, .int v_wrongAt, .int v_moved, .int v_slipTicks, .int v_bestCode, .int v_bestMuch, .long v_straightSum, .long v_movedSum, .long v_allWays, .ref a_wereAt, .ref a_byPlace, .ref a_lanes, .ref a_sizes, .ref a_cells, .int v_torn, .ref a_before])), (a_lanes, .inl (cI, 4, .inl v_lanes)), (a_sizes, .inl (cI, 4, .inl v_sizes)), (a_cells, .inl (cI, 160, .inl res.2))] res.1 :=
  MI_of (by decide) (Nat.le_of_ble_eq_true rfl) (fun p e s m args below meth c A ls C hr hlk hK hA hP hD hS hl => by
    have C : CX p m c cX7_lay 4 s args RX7 := C
    have hl : lv_has ls 4 [(0, .ref a_this), (1, .int x1), (2, .int x2), (3, .int x3)] := hl
    unfold F_X7_lay at hF
    refine lv_iload_n C.1 C.2.1 dX7_lay_0 rfl (lv_at hl 1 rfl) ?_
    refine lv_iconst (v := 0) C.1 C.2.1 dX7_lay_1 (by decide) ?_
    obtain ⟨r1, h2, hF⟩ := fb hF
    refine callSI C hK hA hP hD hS (c_X7_isSheet  h2) cs_X7_isSheet kw5_156 ⟨Nat.le_of_ble_eq_true rfl, Nat.le_of_ble_eq_true rfl⟩ ⟨Nat.zero_le _, Nat.zero_le _⟩ hl.1 rfl (Nat.le_of_ble_eq_true rfl) dX7_lay_2 (fun H locs hP hD hS => ?_)
    refine lv_if_ne (tgt := 10) C.1 C.2.1 dX7_lay_5 (by decide) (fun c3 => ?_) (fun c3 => ?_)
    · have hF := fn hF c3
      refine lv_aload_n C.1 C.2.1 dX7_lay_10 rfl (lv_at hl 0 rfl) ?_
      refine gf_7_7_lanes C hK hP 0 rfl rfl dX7_lay_11 ?_
      refine lv_iload_n C.1 C.2.1 dX7_lay_14 rfl (lv_at hl 1 rfl) ?_
      obtain ⟨h4, hF⟩ := fk hF
      refine va_iald C.1 C.2.1 hK.1 hP 1 0 rfl rfl h4 dX7_lay_15 ?_
      refine lv_bipush (v := (-4)) C.1 C.2.1 dX7_lay_16 (by decide) ?_
      refine lv_icmp_ne (tgt := 24) C.1 C.2.1 dX7_lay_18 (by decide) (fun c5 => ?_) (fun c5 => ?_)
      · have hF := fn hF c5
        refine lv_iload_n C.1 C.2.1 dX7_lay_24 rfl (lv_at hl 2 rfl) ?_
        refine lv_i2l (v := x2.toInt64) C.1 C.2.1 dX7_lay_25 rfl ?_
        refine lv_lconst (v := 0) C.1 C.2.1 dX7_lay_26 rfl ?_
        refine lv_aload_n C.1 C.2.1 dX7_lay_27 rfl (lv_at hl 0 rfl) ?_
        refine gf_7_7_sizes C hK hP 0 rfl rfl dX7_lay_28 ?_
        refine lv_iload_n C.1 C.2.1 dX7_lay_31 rfl (lv_at hl 1 rfl) ?_
        obtain ⟨h6, hF⟩ := fk hF
        refine va_iald C.1 C.2.1 hK.1 hP 2 0 rfl rfl h6 dX7_lay_32 ?_
        refine lv_iconst (v := 1) C.1 C.2.1 dX7_lay_33 (by decide) ?_
        refine lv_isub C.1 C.2.1 dX7_lay_34 ?_
        refine lv_i2l (v := ((v_sizes x1.toNatClampNeg) - (1 : Int32)).toInt64) C.1 C.2.1 dX7_lay_35 rfl ?_
        obtain ⟨r7, h8, hF⟩ := fb hF
        refine callSI C hK hA hP hD hS (c_X7_in  h8) cs_X7_in kw4_76 ⟨Nat.le_of_ble_eq_true rfl, Nat.le_of_ble_eq_true rfl⟩ ⟨Nat.zero_le _, Nat.zero_le _⟩ hl.1 rfl (Nat.le_of_ble_eq_true rfl) dX7_lay_36 (fun H locs hP hD hS => ?_)
        refine lv_if_ne (tgt := 45) C.1 C.2.1 dX7_lay_39 (by decide) (fun c9 => ?_) (fun c9 => ?_)
        · have hF := fn hF c9
          refine lv_aload_n C.1 C.2.1 dX7_lay_45 rfl (lv_at hl 0 rfl) ?_
          refine gf_7_7_cells C hK hP 0 rfl rfl dX7_lay_46 ?_
          refine lv_bipush (v := 40) C.1 C.2.1 dX7_lay_49 (by decide) ?_
          refine lv_iload_n C.1 C.2.1 dX7_lay_51 rfl (lv_at hl 1 rfl) ?_
          refine lv_imul C.1 C.2.1 dX7_lay_52 ?_
          refine lv_iload_n C.1 C.2.1 dX7_lay_53 rfl (lv_at hl 2 rfl) ?_
          refine lv_iadd C.1 C.2.1 dX7_lay_54 ?_
          refine lv_aload_n C.1 C.2.1 dX7_lay_55 rfl (lv_at hl 0 rfl) ?_
          refine gf_7_7_lanes C hK hP 0 rfl rfl dX7_lay_56 ?_
          refine lv_iload_n C.1 C.2.1 dX7_lay_59 rfl (lv_at hl 1 rfl) ?_
          obtain ⟨h10, hF⟩ := fk hF
          refine va_iald C.1 C.2.1 hK.1 hP 1 0 rfl rfl h10 dX7_lay_60 ?_
          refine lv_if_ne (tgt := 69) C.1 C.2.1 dX7_lay_61 (by decide) (fun c11 => ?_) (fun c11 => ?_)
          · have hF := fn hF c11
            refine lv_aload_n C.1 C.2.1 dX7_lay_69 rfl (lv_at hl 0 rfl) ?_
            refine gf_7_7_lanes C hK hP 0 rfl rfl dX7_lay_70 ?_
            refine lv_iload_n C.1 C.2.1 dX7_lay_73 rfl (lv_at hl 1 rfl) ?_
            obtain ⟨h12, hF⟩ := fk hF
            refine va_iald C.1 C.2.1 hK.1 hP 1 0 rfl rfl h12 dX7_lay_74 ?_
            refine lv_iconst (v := 1) C.1 C.2.1 dX7_lay_75 (by decide) ?_
            refine lv_icmp_ne (tgt := 84) C.1 C.2.1 dX7_lay_76 (by decide) (fun c13 => ?_) (fun c13 => ?_)
            · have hF := fn hF c13
              refine lv_iload_n C.1 C.2.1 dX7_lay_84 rfl (lv_at hl 3 rfl) ?_
              obtain ⟨h14, hF⟩ := fk hF
              refine va_iast C.1 C.2.1 hK.1 hP hD hS 3 0 rfl rfl h14 dX7_lay_85 (fun H locs hP hD hS => ?_)
              have hP : va_P D vwCl [(a_this, .inr (7, [.ref a_st, .ref a_now, .ref a_isKept, .ref a_draft, .int v_hasSigns, .int v_hasEvery, .ref a_tape, .int v_taped, .int v_pos, .int v_begun, .int v_sort, .int v_value, .int v_fault, .int v_wrongAt, .int v_moved, .int v_slipTicks, .int v_bestCode, .int v_bestMuch, .long v_straightSum, .long v_movedSum, .long v_allWays, .ref a_wereAt, .ref a_byPlace, .ref a_lanes, .ref a_sizes, .ref a_cells, .int v_torn, .ref a_before])), (a_lanes, .inl (cI, 4, .inl v_lanes)), (a_sizes, .inl (cI, 4, .inl v_sizes)), (a_cells, .inl (cI, 160, .inl (upd v_cells (((40 : Int32) * x1) + x2).toNatClampNeg x3)))] H := hP
              have hD : va_D A [(a_this, .inr (7, [.ref a_st, .ref a_now, .ref a_isKept, .ref a_draft, .int v_hasSigns, .int v_hasEvery, .ref a_tape, .int v_taped, .int v_pos, .int v_begun, .int v_sort, .int v_value, .int v_fault, .int v_wrongAt, .int v_moved, .int v_slipTicks, .int v_bestCode, .int v_bestMuch, .long v_straightSum, .long v_movedSum, .long v_allWays, .ref a_wereAt, .ref a_byPlace, .ref a_lanes, .ref a_sizes, .ref a_cells, .int v_torn, .ref a_before])), (a_lanes, .inl (cI, 4, .inl v_lanes)), (a_sizes, .inl (cI, 4, .inl v_sizes)), (a_cells, .inl (cI, 160, .inl (upd v_cells (((40 : Int32) * x1) + x2).toNatClampNeg x3)))] := hD
              refine lv_iconst (v := 1) C.1 C.2.1 dX7_lay_86 (by decide) ?_
              have hF := Option.some.inj hF
              subst hF
              exact retI C hr hlk hP hD hS dX7_lay_87
            · have hF := fp hF c13
              refine lv_iload_n C.1 C.2.1 dX7_lay_79 rfl (lv_at hl 3 rfl) ?_
              refine lv_i2s (v := x3.toInt16.toInt32) C.1 C.2.1 dX7_lay_80 rfl ?_
              refine lv_goto (tgt := 85) C.1 C.2.1 dX7_lay_81 (by decide) ?_
              obtain ⟨h15, hF⟩ := fk hF
              refine va_iast C.1 C.2.1 hK.1 hP hD hS 3 0 rfl rfl h15 dX7_lay_85 (fun H locs hP hD hS => ?_)
              have hP : va_P D vwCl [(a_this, .inr (7, [.ref a_st, .ref a_now, .ref a_isKept, .ref a_draft, .int v_hasSigns, .int v_hasEvery, .ref a_tape, .int v_taped, .int v_pos, .int v_begun, .int v_sort, .int v_value, .int v_fault, .int v_wrongAt, .int v_moved, .int v_slipTicks, .int v_bestCode, .int v_bestMuch, .long v_straightSum, .long v_movedSum, .long v_allWays, .ref a_wereAt, .ref a_byPlace, .ref a_lanes, .ref a_sizes, .ref a_cells, .int v_torn, .ref a_before])), (a_lanes, .inl (cI, 4, .inl v_lanes)), (a_sizes, .inl (cI, 4, .inl v_sizes)), (a_cells, .inl (cI, 160, .inl (upd v_cells (((40 : Int32) * x1) + x2).toNatClampNeg x3.toInt16.toInt32)))] H := hP
              have hD : va_D A [(a_this, .inr (7, [.ref a_st, .ref a_now, .ref a_isKept, .ref a_draft, .int v_hasSigns, .int v_hasEvery, .ref a_tape, .int v_taped, .int v_pos, .int v_begun, .int v_sort, .int v_value, .int v_fault, .int v_wrongAt, .int v_moved, .int v_slipTicks, .int v_bestCode, .int v_bestMuch, .long v_straightSum, .long v_movedSum, .long v_allWays, .ref a_wereAt, .ref a_byPlace, .ref a_lanes, .ref a_sizes, .ref a_cells, .int v_torn, .ref a_before])), (a_lanes, .inl (cI, 4, .inl v_lanes)), (a_sizes, .inl (cI, 4, .inl v_sizes)), (a_cells, .inl (cI, 160, .inl (upd v_cells (((40 : Int32) * x1) + x2).toNatClampNeg x3.toInt16.toInt32)))] := hD
              refine lv_iconst (v := 1) C.1 C.2.1 dX7_lay_86 (by decide) ?_
              have hF := Option.some.inj hF
              subst hF
              exact retI C hr hlk hP hD hS dX7_lay_87
          · have hF := fp hF c11
            refine lv_iload_n C.1 C.2.1 dX7_lay_64 rfl (lv_at hl 3 rfl) ?_
            refine lv_i2b (v := x3.toInt8.toInt32) C.1 C.2.1 dX7_lay_65 rfl ?_
            refine lv_goto (tgt := 85) C.1 C.2.1 dX7_lay_66 (by decide) ?_
            obtain ⟨h16, hF⟩ := fk hF
            refine va_iast C.1 C.2.1 hK.1 hP hD hS 3 0 rfl rfl h16 dX7_lay_85 (fun H locs hP hD hS => ?_)
            have hP : va_P D vwCl [(a_this, .inr (7, [.ref a_st, .ref a_now, .ref a_isKept, .ref a_draft, .int v_hasSigns, .int v_hasEvery, .ref a_tape, .int v_taped, .int v_pos, .int v_begun, .int v_sort, .int v_value, .int v_fault, .int v_wrongAt, .int v_moved, .int v_slipTicks, .int v_bestCode, .int v_bestMuch, .long v_straightSum, .long v_movedSum, .long v_allWays, .ref a_wereAt, .ref a_byPlace, .ref a_lanes, .ref a_sizes, .ref a_cells, .int v_torn, .ref a_before])), (a_lanes, .inl (cI, 4, .inl v_lanes)), (a_sizes, .inl (cI, 4, .inl v_sizes)), (a_cells, .inl (cI, 160, .inl (upd v_cells (((40 : Int32) * x1) + x2).toNatClampNeg x3.toInt8.toInt32)))] H := hP
            have hD : va_D A [(a_this, .inr (7, [.ref a_st, .ref a_now, .ref a_isKept, .ref a_draft, .int v_hasSigns, .int v_hasEvery, .ref a_tape, .int v_taped, .int v_pos, .int v_begun, .int v_sort, .int v_value, .int v_fault, .int v_wrongAt, .int v_moved, .int v_slipTicks, .int v_bestCode, .int v_bestMuch, .long v_straightSum, .long v_movedSum, .long v_allWays, .ref a_wereAt, .ref a_byPlace, .ref a_lanes, .ref a_sizes, .ref a_cells, .int v_torn, .ref a_before])), (a_lanes, .inl (cI, 4, .inl v_lanes)), (a_sizes, .inl (cI, 4, .inl v_sizes)), (a_cells, .inl (cI, 160, .inl (upd v_cells (((40 : Int32) * x1) + x2).toNatClampNeg x3.toInt8.toInt32)))] := hD
            refine lv_iconst (v := 1) C.1 C.2.1 dX7_lay_86 (by decide) ?_
            have hF := Option.some.inj hF
            subst hF
            exact retI C hr hlk hP hD hS dX7_lay_87
        · have hF := fp hF c9
          refine lv_bipush (v := (-12)) C.1 C.2.1 dX7_lay_42 (by decide) ?_
          have hF := Option.some.inj hF
          subst hF
          exact retI C hr hlk hP hD hS dX7_lay_44
      · have hF := fp hF c5
        refine lv_bipush (v := (-11)) C.1 C.2.1 dX7_lay_21 (by decide) ?_
        have hF := Option.some.inj hF
        subst hF
        exact retI C hr hlk hP hD hS dX7_lay_23
    · have hF := fp hF c3
      refine lv_iconst (v := (-1)) C.1 C.2.1 dX7_lay_8 (by decide) ?_
      have hF := Option.some.inj hF
      subst hF
      exact retI C hr hlk hP hD hS dX7_lay_9)
theorem c_X7_lay {l : Launch} {D : va_G} {cI cB cZ cR cM cS : ClassId} {a_this : Nat} {a_st : Nat} {a_now : Nat} {a_isKept : Nat} {a_draft : Nat} {a_tape : Nat} {a_wereAt : Nat} {a_byPlace : Nat} {a_lanes : Nat} {a_sizes : Nat} {a_cells : Nat} {a_before : Nat} {v_hasSigns : Int32} {v_hasEvery : Int32} {v_taped : Int32} {v_pos : Int32} {v_begun : Int32} {v_sort : Int32} {v_value : Int32} {v_fault : Int32} {v_wrongAt : Int32} {v_moved : Int32} {v_slipTicks : Int32} {v_bestCode : Int32} {v_bestMuch : Int32} {v_straightSum : Int64} {v_movedSum : Int64} {v_allWays : Int64} {v_torn : Int32} {v_lanes : Nat → Int32} {v_sizes : Nat → Int32} {v_cells : Nat → Int32} {x1 : Int32} {x2 : Int32} {x3 : Int32} {r_ : Int32} {v_cells' : Nat → Int32} (hF : F_X7_lay v_lanes v_sizes v_cells x1 x2 x3 = some (r_, v_cells')) : MI l yX7_lay cX7_lay 4 .int rm_X7_lay D (TS cI cB cZ cR cM cS) [.ref a_this, .int x1, .int x2, .int x3] [(a_this, .inr (7, [.ref a_st, .ref a_now, .ref a_isKept, .ref a_draft, .int v_hasSigns, .int v_hasEvery, .ref a_tape, .int v_taped, .int v_pos, .int v_begun, .int v_sort, .int v_value, .int v_fault, .int v_wrongAt, .int v_moved, .int v_slipTicks, .int v_bestCode, .int v_bestMuch, .long v_straightSum, .long v_movedSum, .long v_allWays, .ref a_wereAt, .ref a_byPlace, .ref a_lanes, .ref a_sizes, .ref a_cells, .int v_torn, .ref a_before])), (a_lanes, .inl (cI, 4, .inl v_lanes)), (a_sizes, .inl (cI, 4, .inl v_sizes)), (a_cells, .inl (cI, 160, .inl v_cells))] [(a_this, .inr (7, [.ref a_st, .ref a_now, .ref a_isKept, .ref a_draft, .int v_hasSigns, .int v_hasEvery, .ref a_tape, .int v_taped, .int v_pos, .int v_begun, .int v_sort, .int v_value, .int v_fault, .int v_wrongAt, .int v_moved, .int v_slipTicks, .int v_bestCode, .int v_bestMuch, .long v_straightSum, .long v_movedSum, .long v_allWays, .ref a_wereAt, .ref a_byPlace, .ref a_lanes, .ref a_sizes, .ref a_cells, .int v_torn, .ref a_before])), (a_lanes, .inl (cI, 4, .inl v_lanes)), (a_sizes, .inl (cI, 4, .inl v_sizes)), (a_cells, .inl (cI, 160, .inl v_cells'))] r_ :=
  c0_X7_lay (res := (r_, v_cells')) hF
def rm_X7_read : Room := { frames := 3, cells := 0, slots := 0, locals := 68 }
theorem cv_X7_read : CV yX7_read cX7_read 11 (some .int) rm_X7_read RX7 4 := ⟨kw5_165, kw5_166, kw1_8, kw5_167, by decide +kernel, rfl, rfl⟩
set_option maxHeartbeats 4000000 in
set_option maxRecDepth 100000 in
theorem b_X7_read_250 {l : Launch} {D : va_G} {cI cB cZ cR cM cS : ClassId} {a_this : Nat} {a_st : Nat} {a_now : Nat} {a_isKept : Nat} {a_draft : Nat} {a_tape : Nat} {a_wereAt : Nat} {a_byPlace : Nat} {a_lanes : Nat} {a_sizes : Nat} {a_cells : Nat} {a_before : Nat} {v_hasSigns : Int32} {v_hasEvery : Int32} {v_taped : Int32} {v_pos : Int32} {v_begun : Int32} {v_sort : Int32} {v_value : Int32} {v_fault : Int32} {v_wrongAt : Int32} {v_moved : Int32} {v_slipTicks : Int32} {v_bestCode : Int32} {v_bestMuch : Int32} {v_straightSum : Int64} {v_movedSum : Int64} {v_allWays : Int64} {p : Program} {e : Env} {s : State} {m : MethodId} {args : Array Value} {below : List Frame} {meth : Method} {c : Code} {A : Nat → Prop} {res : Int32 × Int32 × (Nat → Int32) × (Nat → Int32)} (C : CX p m c cX7_read 11 s args RX7) (hr : meth.sig.returnType = (some .int)) (hlk : meth.locks = false) (hK : KK D (TS cI cB cZ cR cM cS) s) (hA : ∀ q, s.heap.size ≤ q → A q) : ∀ (v_torn : Int32) (v_st : Nat → Int32) (v_lanes : Nat → Int32) (v_sizes : Nat → Int32) (v_cells : Nat → Int32) (v_before : Nat → Int32) (x5 : Int32) (x6 : Int32) (H : Heap) (locs : List Loc) (ls : Array Slot), F_X7_read_250 v_torn v_st v_lanes v_sizes v_cells v_before x5 x6 = some res → va_P D vwCl [(a_this, .inr (7, [.ref a_st, .ref a_now, .ref a_isKept, .ref a_draft, .int v_hasSigns, .int v_hasEvery, .ref a_tape, .int v_taped, .int v_pos, .int v_begun, .int v_sort, .int v_value, .int v_fault, .int v_wrongAt, .int v_moved, .int v_slipTicks, .int v_bestCode, .int v_bestMuch, .long v_straightSum, .long v_movedSum, .long v_allWays, .ref a_wereAt, .ref a_byPlace, .ref a_lanes, .ref a_sizes, .ref a_cells, .int v_torn, .ref a_before])), (a_st, .inl (cI, 168, .inl v_st)), (a_lanes, .inl (cI, 4, .inl v_lanes)), (a_sizes, .inl (cI, 4, .inl v_sizes)), (a_cells, .inl (cI, 160, .inl v_cells)), (a_before, .inl (cI, 56, .inl v_before))] H → va_D A [(a_this, .inr (7, [.ref a_st, .ref a_now, .ref a_isKept, .ref a_draft, .int v_hasSigns, .int v_hasEvery, .ref a_tape, .int v_taped, .int v_pos, .int v_begun, .int v_sort, .int v_value, .int v_fault, .int v_wrongAt, .int v_moved, .int v_slipTicks, .int v_bestCode, .int v_bestMuch, .long v_straightSum, .long v_movedSum, .long v_allWays, .ref a_wereAt, .ref a_byPlace, .ref a_lanes, .ref a_sizes, .ref a_cells, .int v_torn, .ref a_before])), (a_st, .inl (cI, 168, .inl v_st)), (a_lanes, .inl (cI, 4, .inl v_lanes)), (a_sizes, .inl (cI, 4, .inl v_sizes)), (a_cells, .inl (cI, 160, .inl v_cells)), (a_before, .inl (cI, 56, .inl v_before))] → va_S A s.heap H locs → lv_has ls 11 [(0, .ref a_this), (5, .int x5), (6, .int x6)] → W p l e rm_X7_read s m args below meth c H locs 0 0 (MQ below (va_Qi (fun x (_ : Unit) => x = res.1) (BW D A [(a_this, .inr (7, [.ref a_st, .ref a_now, .ref a_isKept, .ref a_draft, .int v_hasSigns, .int v_hasEvery, .ref a_tape, .int v_taped, .int v_pos, .int v_begun, .int v_sort, .int v_value, .int v_fault, .int v_wrongAt, .int v_moved, .int v_slipTicks, .int v_bestCode, .int v_bestMuch, .long v_straightSum, .long v_movedSum, .long v_allWays, .ref a_wereAt, .ref a_byPlace, .ref a_lanes, .ref a_sizes, .ref a_cells, .int res.2.1, .ref a_before])), (a_st, .inl (cI, 168, .inl res.2.2.1)), (a_lanes, .inl (cI, 4, .inl v_lanes)), (a_sizes, .inl (cI, 4, .inl v_sizes)), (a_cells, .inl (cI, 160, .inl v_cells)), (a_before, .inl (cI, 56, .inl res.2.2.2))]) A) args s 0 0 A) (F0 m 250 ls []) := by
  intro v_torn v_st v_lanes v_sizes v_cells v_before x5 x6 H locs ls hF  hP hD hS hl
  unfold F_X7_read_250 at hF
  refine lv_aload_n C.1 C.2.1 dX7_read_250 rfl (lv_at hl 0 rfl) ?_
  refine lv_iload C.1 C.2.1 dX7_read_251 (lv_at hl 1 rfl) ?_
  refine pf_7_7_torn C hK hP hD hS 0 rfl rfl dX7_read_253 (fun H locs hP hD hS => ?_)
  have hP : va_P D vwCl [(a_this, .inr (7, [.ref a_st, .ref a_now, .ref a_isKept, .ref a_draft, .int v_hasSigns, .int v_hasEvery, .ref a_tape, .int v_taped, .int v_pos, .int v_begun, .int v_sort, .int v_value, .int v_fault, .int v_wrongAt, .int v_moved, .int v_slipTicks, .int v_bestCode, .int v_bestMuch, .long v_straightSum, .long v_movedSum, .long v_allWays, .ref a_wereAt, .ref a_byPlace, .ref a_lanes, .ref a_sizes, .ref a_cells, .int x5, .ref a_before])), (a_st, .inl (cI, 168, .inl v_st)), (a_lanes, .inl (cI, 4, .inl v_lanes)), (a_sizes, .inl (cI, 4, .inl v_sizes)), (a_cells, .inl (cI, 160, .inl v_cells)), (a_before, .inl (cI, 56, .inl v_before))] H := hP
  have hD : va_D A [(a_this, .inr (7, [.ref a_st, .ref a_now, .ref a_isKept, .ref a_draft, .int v_hasSigns, .int v_hasEvery, .ref a_tape, .int v_taped, .int v_pos, .int v_begun, .int v_sort, .int v_value, .int v_fault, .int v_wrongAt, .int v_moved, .int v_slipTicks, .int v_bestCode, .int v_bestMuch, .long v_straightSum, .long v_movedSum, .long v_allWays, .ref a_wereAt, .ref a_byPlace, .ref a_lanes, .ref a_sizes, .ref a_cells, .int x5, .ref a_before])), (a_st, .inl (cI, 168, .inl v_st)), (a_lanes, .inl (cI, 4, .inl v_lanes)), (a_sizes, .inl (cI, 4, .inl v_sizes)), (a_cells, .inl (cI, 160, .inl v_cells)), (a_before, .inl (cI, 56, .inl v_before))] := hD
  refine lv_iload C.1 C.2.1 dX7_read_256 (lv_at hl 2 rfl) ?_
  have hF := Option.some.inj hF
  subst hF
  exact retI C hr hlk hP hD hS dX7_read_258
set_option maxHeartbeats 4000000 in
set_option maxRecDepth 100000 in
theorem b_X7_read_208 {l : Launch} {D : va_G} {cI cB cZ cR cM cS : ClassId} {a_this : Nat} {a_st : Nat} {a_now : Nat} {a_isKept : Nat} {a_draft : Nat} {a_tape : Nat} {a_wereAt : Nat} {a_byPlace : Nat} {a_lanes : Nat} {a_sizes : Nat} {a_cells : Nat} {a_before : Nat} {v_hasSigns : Int32} {v_hasEvery : Int32} {v_taped : Int32} {v_pos : Int32} {v_begun : Int32} {v_sort : Int32} {v_value : Int32} {v_fault : Int32} {v_wrongAt : Int32} {v_moved : Int32} {v_slipTicks : Int32} {v_bestCode : Int32} {v_bestMuch : Int32} {v_straightSum : Int64} {v_movedSum : Int64} {v_allWays : Int64} {p : Program} {e : Env} {s : State} {m : MethodId} {args : Array Value} {below : List Frame} {meth : Method} {c : Code} {A : Nat → Prop} {res : Int32 × Int32 × (Nat → Int32) × (Nat → Int32)} (C : CX p m c cX7_read 11 s args RX7) (hr : meth.sig.returnType = (some .int)) (hlk : meth.locks = false) (hK : KK D (TS cI cB cZ cR cM cS) s) (hA : ∀ q, s.heap.size ≤ q → A q) : ∀ (fu : Nat) (v_torn : Int32) (v_st : Nat → Int32) (v_lanes : Nat → Int32) (v_sizes : Nat → Int32) (v_cells : Nat → Int32) (v_before : Nat → Int32) (x7 : Int32) (x9 : Int32) (H : Heap) (locs : List Loc) (ls : Array Slot), F_X7_read_208 fu v_torn v_st v_lanes v_sizes v_cells v_before x7 x9 = some res → va_P D vwCl [(a_this, .inr (7, [.ref a_st, .ref a_now, .ref a_isKept, .ref a_draft, .int v_hasSigns, .int v_hasEvery, .ref a_tape, .int v_taped, .int v_pos, .int v_begun, .int v_sort, .int v_value, .int v_fault, .int v_wrongAt, .int v_moved, .int v_slipTicks, .int v_bestCode, .int v_bestMuch, .long v_straightSum, .long v_movedSum, .long v_allWays, .ref a_wereAt, .ref a_byPlace, .ref a_lanes, .ref a_sizes, .ref a_cells, .int v_torn, .ref a_before])), (a_st, .inl (cI, 168, .inl v_st)), (a_lanes, .inl (cI, 4, .inl v_lanes)), (a_sizes, .inl (cI, 4, .inl v_sizes)), (a_cells, .inl (cI, 160, .inl v_cells)), (a_before, .inl (cI, 56, .inl v_before))] H → va_D A [(a_this, .inr (7, [.ref a_st, .ref a_now, .ref a_isKept, .ref a_draft, .int v_hasSigns, .int v_hasEvery, .ref a_tape, .int v_taped, .int v_pos, .int v_begun, .int v_sort, .int v_value, .int v_fault, .int v_wrongAt, .int v_moved, .int v_slipTicks, .int v_bestCode, .int v_bestMuch, .long v_straightSum, .long v_movedSum, .long v_allWays, .ref a_wereAt, .ref a_byPlace, .ref a_lanes, .ref a_sizes, .ref a_cells, .int v_torn, .ref a_before])), (a_st, .inl (cI, 168, .inl v_st)), (a_lanes, .inl (cI, 4, .inl v_lanes)), (a_sizes, .inl (cI, 4, .inl v_sizes)), (a_cells, .inl (cI, 160, .inl v_cells)), (a_before, .inl (cI, 56, .inl v_before))] → va_S A s.heap H locs → lv_has ls 11 [(0, .ref a_this), (7, .int x7), (9, .int x9)] → W p l e rm_X7_read s m args below meth c H locs 0 0 (MQ below (va_Qi (fun x (_ : Unit) => x = res.1) (BW D A [(a_this, .inr (7, [.ref a_st, .ref a_now, .ref a_isKept, .ref a_draft, .int v_hasSigns, .int v_hasEvery, .ref a_tape, .int v_taped, .int v_pos, .int v_begun, .int v_sort, .int v_value, .int v_fault, .int v_wrongAt, .int v_moved, .int v_slipTicks, .int v_bestCode, .int v_bestMuch, .long v_straightSum, .long v_movedSum, .long v_allWays, .ref a_wereAt, .ref a_byPlace, .ref a_lanes, .ref a_sizes, .ref a_cells, .int res.2.1, .ref a_before])), (a_st, .inl (cI, 168, .inl res.2.2.1)), (a_lanes, .inl (cI, 4, .inl v_lanes)), (a_sizes, .inl (cI, 4, .inl v_sizes)), (a_cells, .inl (cI, 160, .inl v_cells)), (a_before, .inl (cI, 56, .inl res.2.2.2))]) A) args s 0 0 A) (F0 m 208 ls []) := by
  intro fu
  induction fu with
  | zero => intro v_torn v_st v_lanes v_sizes v_cells v_before x7 x9 H locs ls hF; cases hF
  | succ fu ih =>
    intro v_torn v_st v_lanes v_sizes v_cells v_before x7 x9 H locs ls hF  hP hD hS hl
    unfold F_X7_read_208 at hF
    refine lv_iload C.1 C.2.1 dX7_read_208 (lv_at hl 2 rfl) ?_
    refine lv_bipush (v := 56) C.1 C.2.1 dX7_read_210 (by decide) ?_
    refine lv_icmp_ge (tgt := 235) C.1 C.2.1 dX7_read_212 (by decide) (fun c1 => ?_) (fun c1 => ?_)
    · have hF := fp hF c1
      refine lv_bipush (v := (-20)) C.1 C.2.1 dX7_read_235 (by decide) ?_
      refine lv_iload C.1 C.2.1 dX7_read_237 (lv_at hl 1 rfl) ?_
      refine lv_isub C.1 C.2.1 dX7_read_239 ?_
      have hF := Option.some.inj hF
      subst hF
      exact retI C hr hlk hP hD hS dX7_read_240
    · have hF := fn hF c1
      refine lv_aload_n C.1 C.2.1 dX7_read_215 rfl (lv_at hl 0 rfl) ?_
      refine gf_7_7_st C hK hP 0 rfl rfl dX7_read_216 ?_
      refine lv_iload C.1 C.2.1 dX7_read_219 (lv_at hl 2 rfl) ?_
      refine lv_aload_n C.1 C.2.1 dX7_read_221 rfl (lv_at hl 0 rfl) ?_
      refine gf_7_7_before C hK hP 0 rfl rfl dX7_read_222 ?_
      refine lv_iload C.1 C.2.1 dX7_read_225 (lv_at hl 2 rfl) ?_
      obtain ⟨h2, hF⟩ := fk hF
      refine va_iald C.1 C.2.1 hK.1 hP 5 0 rfl rfl h2 dX7_read_227 ?_
      obtain ⟨h3, hF⟩ := fk hF
      refine va_iast C.1 C.2.1 hK.1 hP hD hS 1 0 rfl rfl h3 dX7_read_228 (fun H locs hP hD hS => ?_)
      have hP : va_P D vwCl [(a_this, .inr (7, [.ref a_st, .ref a_now, .ref a_isKept, .ref a_draft, .int v_hasSigns, .int v_hasEvery, .ref a_tape, .int v_taped, .int v_pos, .int v_begun, .int v_sort, .int v_value, .int v_fault, .int v_wrongAt, .int v_moved, .int v_slipTicks, .int v_bestCode, .int v_bestMuch, .long v_straightSum, .long v_movedSum, .long v_allWays, .ref a_wereAt, .ref a_byPlace, .ref a_lanes, .ref a_sizes, .ref a_cells, .int v_torn, .ref a_before])), (a_st, .inl (cI, 168, .inl (upd v_st x9.toNatClampNeg (v_before x9.toNatClampNeg)))), (a_lanes, .inl (cI, 4, .inl v_lanes)), (a_sizes, .inl (cI, 4, .inl v_sizes)), (a_cells, .inl (cI, 160, .inl v_cells)), (a_before, .inl (cI, 56, .inl v_before))] H := hP
      have hD : va_D A [(a_this, .inr (7, [.ref a_st, .ref a_now, .ref a_isKept, .ref a_draft, .int v_hasSigns, .int v_hasEvery, .ref a_tape, .int v_taped, .int v_pos, .int v_begun, .int v_sort, .int v_value, .int v_fault, .int v_wrongAt, .int v_moved, .int v_slipTicks, .int v_bestCode, .int v_bestMuch, .long v_straightSum, .long v_movedSum, .long v_allWays, .ref a_wereAt, .ref a_byPlace, .ref a_lanes, .ref a_sizes, .ref a_cells, .int v_torn, .ref a_before])), (a_st, .inl (cI, 168, .inl (upd v_st x9.toNatClampNeg (v_before x9.toNatClampNeg)))), (a_lanes, .inl (cI, 4, .inl v_lanes)), (a_sizes, .inl (cI, 4, .inl v_sizes)), (a_cells, .inl (cI, 160, .inl v_cells)), (a_before, .inl (cI, 56, .inl v_before))] := hD
      refine lv_iinc (v := x9 + 1) (lv' := [(9, .int (x9 + 1)), (0, .ref a_this), (7, .int x7)]) C.1 C.2.1 dX7_read_229 hl (k := 2) rfl rfl (by decide) rfl (fun ls hl => ?_)
      refine lv_goto (tgt := 208) C.1 C.2.1 dX7_read_232 (by decide) ?_
      exact ih v_torn (upd v_st x9.toNatClampNeg (v_before x9.toNatClampNeg)) v_lanes v_sizes v_cells v_before x7 (x9 + 1) _ _ _ hF hP hD hS (lv_sub hl [1, 2, 0] rfl)
set_option maxHeartbeats 4000000 in
set_option maxRecDepth 100000 in
theorem b_X7_read_77 {l : Launch} {D : va_G} {cI cB cZ cR cM cS : ClassId} {a_this : Nat} {a_st : Nat} {a_now : Nat} {a_isKept : Nat} {a_draft : Nat} {a_tape : Nat} {a_wereAt : Nat} {a_byPlace : Nat} {a_lanes : Nat} {a_sizes : Nat} {a_cells : Nat} {a_before : Nat} {v_hasSigns : Int32} {v_hasEvery : Int32} {v_taped : Int32} {v_pos : Int32} {v_begun : Int32} {v_sort : Int32} {v_value : Int32} {v_fault : Int32} {v_wrongAt : Int32} {v_moved : Int32} {v_slipTicks : Int32} {v_bestCode : Int32} {v_bestMuch : Int32} {v_straightSum : Int64} {v_movedSum : Int64} {v_allWays : Int64} {p : Program} {e : Env} {s : State} {m : MethodId} {args : Array Value} {below : List Frame} {meth : Method} {c : Code} {A : Nat → Prop} {res : Int32 × Int32 × (Nat → Int32) × (Nat → Int32)} (C : CX p m c cX7_read 11 s args RX7) (hr : meth.sig.returnType = (some .int)) (hlk : meth.locks = false) (hK : KK D (TS cI cB cZ cR cM cS) s) (hA : ∀ q, s.heap.size ≤ q → A q) (kk : Int32 → (Nat → Int32) → (Nat → Int32) → (Nat → Int32) → (Nat → Int32) → (Nat → Int32) → Int32 → Int32 → Int32 → Int32 → Int32 → Int32 → Int32 → Option (Int32 × Int32 × (Nat → Int32) × (Nat → Int32))) (hk : ∀ (v_torn : Int32) (v_st : Nat → Int32) (v_lanes : Nat → Int32) (v_sizes : Nat → Int32) (v_cells : Nat → Int32) (v_before : Nat → Int32) (x1 : Int32) (x2 : Int32) (x3 : Int32) (x4 : Int32) (x5 : Int32) (x6 : Int32) (x7 : Int32) (H : Heap) (locs : List Loc) (ls : Array Slot), kk v_torn v_st v_lanes v_sizes v_cells v_before x1 x2 x3 x4 x5 x6 x7 = some res → va_P D vwCl [(a_this, .inr (7, [.ref a_st, .ref a_now, .ref a_isKept, .ref a_draft, .int v_hasSigns, .int v_hasEvery, .ref a_tape, .int v_taped, .int v_pos, .int v_begun, .int v_sort, .int v_value, .int v_fault, .int v_wrongAt, .int v_moved, .int v_slipTicks, .int v_bestCode, .int v_bestMuch, .long v_straightSum, .long v_movedSum, .long v_allWays, .ref a_wereAt, .ref a_byPlace, .ref a_lanes, .ref a_sizes, .ref a_cells, .int v_torn, .ref a_before])), (a_st, .inl (cI, 168, .inl v_st)), (a_lanes, .inl (cI, 4, .inl v_lanes)), (a_sizes, .inl (cI, 4, .inl v_sizes)), (a_cells, .inl (cI, 160, .inl v_cells)), (a_before, .inl (cI, 56, .inl v_before))] H → va_D A [(a_this, .inr (7, [.ref a_st, .ref a_now, .ref a_isKept, .ref a_draft, .int v_hasSigns, .int v_hasEvery, .ref a_tape, .int v_taped, .int v_pos, .int v_begun, .int v_sort, .int v_value, .int v_fault, .int v_wrongAt, .int v_moved, .int v_slipTicks, .int v_bestCode, .int v_bestMuch, .long v_straightSum, .long v_movedSum, .long v_allWays, .ref a_wereAt, .ref a_byPlace, .ref a_lanes, .ref a_sizes, .ref a_cells, .int v_torn, .ref a_before])), (a_st, .inl (cI, 168, .inl v_st)), (a_lanes, .inl (cI, 4, .inl v_lanes)), (a_sizes, .inl (cI, 4, .inl v_sizes)), (a_cells, .inl (cI, 160, .inl v_cells)), (a_before, .inl (cI, 56, .inl v_before))] → va_S A s.heap H locs → lv_has ls 11 [(0, .ref a_this), (1, .int x1), (2, .int x2), (3, .int x3), (4, .int x4), (5, .int x5), (6, .int x6), (7, .int x7)] → W p l e rm_X7_read s m args below meth c H locs 0 0 (MQ below (va_Qi (fun x (_ : Unit) => x = res.1) (BW D A [(a_this, .inr (7, [.ref a_st, .ref a_now, .ref a_isKept, .ref a_draft, .int v_hasSigns, .int v_hasEvery, .ref a_tape, .int v_taped, .int v_pos, .int v_begun, .int v_sort, .int v_value, .int v_fault, .int v_wrongAt, .int v_moved, .int v_slipTicks, .int v_bestCode, .int v_bestMuch, .long v_straightSum, .long v_movedSum, .long v_allWays, .ref a_wereAt, .ref a_byPlace, .ref a_lanes, .ref a_sizes, .ref a_cells, .int res.2.1, .ref a_before])), (a_st, .inl (cI, 168, .inl res.2.2.1)), (a_lanes, .inl (cI, 4, .inl v_lanes)), (a_sizes, .inl (cI, 4, .inl v_sizes)), (a_cells, .inl (cI, 160, .inl v_cells)), (a_before, .inl (cI, 56, .inl res.2.2.2))]) A) args s 0 0 A) (F0 m 62 ls [])) : ∀ (fu : Nat) (v_torn : Int32) (v_st : Nat → Int32) (v_lanes : Nat → Int32) (v_sizes : Nat → Int32) (v_cells : Nat → Int32) (v_before : Nat → Int32) (x1 : Int32) (x2 : Int32) (x3 : Int32) (x4 : Int32) (x5 : Int32) (x6 : Int32) (x7 : Int32) (x8 : Int32) (H : Heap) (locs : List Loc) (ls : Array Slot), F_X7_read_77 fu kk v_torn v_st v_lanes v_sizes v_cells v_before x1 x2 x3 x4 x5 x6 x7 x8 = some res → va_P D vwCl [(a_this, .inr (7, [.ref a_st, .ref a_now, .ref a_isKept, .ref a_draft, .int v_hasSigns, .int v_hasEvery, .ref a_tape, .int v_taped, .int v_pos, .int v_begun, .int v_sort, .int v_value, .int v_fault, .int v_wrongAt, .int v_moved, .int v_slipTicks, .int v_bestCode, .int v_bestMuch, .long v_straightSum, .long v_movedSum, .long v_allWays, .ref a_wereAt, .ref a_byPlace, .ref a_lanes, .ref a_sizes, .ref a_cells, .int v_torn, .ref a_before])), (a_st, .inl (cI, 168, .inl v_st)), (a_lanes, .inl (cI, 4, .inl v_lanes)), (a_sizes, .inl (cI, 4, .inl v_sizes)), (a_cells, .inl (cI, 160, .inl v_cells)), (a_before, .inl (cI, 56, .inl v_before))] H → va_D A [(a_this, .inr (7, [.ref a_st, .ref a_now, .ref a_isKept, .ref a_draft, .int v_hasSigns, .int v_hasEvery, .ref a_tape, .int v_taped, .int v_pos, .int v_begun, .int v_sort, .int v_value, .int v_fault, .int v_wrongAt, .int v_moved, .int v_slipTicks, .int v_bestCode, .int v_bestMuch, .long v_straightSum, .long v_movedSum, .long v_allWays, .ref a_wereAt, .ref a_byPlace, .ref a_lanes, .ref a_sizes, .ref a_cells, .int v_torn, .ref a_before])), (a_st, .inl (cI, 168, .inl v_st)), (a_lanes, .inl (cI, 4, .inl v_lanes)), (a_sizes, .inl (cI, 4, .inl v_sizes)), (a_cells, .inl (cI, 160, .inl v_cells)), (a_before, .inl (cI, 56, .inl v_before))] → va_S A s.heap H locs → lv_has ls 11 [(0, .ref a_this), (1, .int x1), (2, .int x2), (3, .int x3), (4, .int x4), (5, .int x5), (6, .int x6), (7, .int x7), (8, .int x8)] → W p l e rm_X7_read s m args below meth c H locs 0 0 (MQ below (va_Qi (fun x (_ : Unit) => x = res.1) (BW D A [(a_this, .inr (7, [.ref a_st, .ref a_now, .ref a_isKept, .ref a_draft, .int v_hasSigns, .int v_hasEvery, .ref a_tape, .int v_taped, .int v_pos, .int v_begun, .int v_sort, .int v_value, .int v_fault, .int v_wrongAt, .int v_moved, .int v_slipTicks, .int v_bestCode, .int v_bestMuch, .long v_straightSum, .long v_movedSum, .long v_allWays, .ref a_wereAt, .ref a_byPlace, .ref a_lanes, .ref a_sizes, .ref a_cells, .int res.2.1, .ref a_before])), (a_st, .inl (cI, 168, .inl res.2.2.1)), (a_lanes, .inl (cI, 4, .inl v_lanes)), (a_sizes, .inl (cI, 4, .inl v_sizes)), (a_cells, .inl (cI, 160, .inl v_cells)), (a_before, .inl (cI, 56, .inl res.2.2.2))]) A) args s 0 0 A) (F0 m 77 ls []) := by
  intro fu
  induction fu with
  | zero => intro v_torn v_st v_lanes v_sizes v_cells v_before x1 x2 x3 x4 x5 x6 x7 x8 H locs ls hF; cases hF
  | succ fu ih =>
    intro v_torn v_st v_lanes v_sizes v_cells v_before x1 x2 x3 x4 x5 x6 x7 x8 H locs ls hF  hP hD hS hl
    unfold F_X7_read_77 at hF
    refine lv_iload C.1 C.2.1 dX7_read_77 (lv_at hl 8 rfl) ?_
    refine lv_iconst (v := 2) C.1 C.2.1 dX7_read_79 (by decide) ?_
    refine lv_icmp_ge (tgt := 164) C.1 C.2.1 dX7_read_80 (by decide) (fun c1 => ?_) (fun c1 => ?_)
    · have hF := fp hF c1
      refine lv_iload C.1 C.2.1 dX7_read_164 (lv_at hl 5 rfl) ?_
      refine lv_if_ne (tgt := 244) C.1 C.2.1 dX7_read_166 (by decide) (fun c2 => ?_) (fun c2 => ?_)
      · have hF := fn hF c2
        refine lv_iinc (v := x7 + 1) (lv' := [(7, .int (x7 + 1)), (0, .ref a_this), (1, .int x1), (2, .int x2), (3, .int x3), (4, .int x4), (5, .int x5), (6, .int x6), (8, .int x8)]) C.1 C.2.1 dX7_read_244 hl (k := 7) rfl rfl (by decide) rfl (fun ls hl => ?_)
        refine lv_goto (tgt := 62) C.1 C.2.1 dX7_read_247 (by decide) ?_
        exact hk v_torn v_st v_lanes v_sizes v_cells v_before x1 x2 x3 x4 x5 x6 (x7 + 1) _ _ _ hF hP hD hS (lv_sub hl [1, 2, 3, 4, 5, 6, 7, 0] rfl)
      · have hF := fp hF c2
        refine lv_bipush (v := 40) C.1 C.2.1 dX7_read_169 (by decide) ?_
        refine lv_iload_n C.1 C.2.1 dX7_read_171 rfl (lv_at hl 1 rfl) ?_
        refine lv_imul C.1 C.2.1 dX7_read_172 ?_
        refine lv_iload_n C.1 C.2.1 dX7_read_173 rfl (lv_at hl 3 rfl) ?_
        refine lv_iadd C.1 C.2.1 dX7_read_174 ?_
        refine lv_iconst (v := 2) C.1 C.2.1 dX7_read_175 (by decide) ?_
        refine lv_iload C.1 C.2.1 dX7_read_176 (lv_at hl 7 rfl) ?_
        refine lv_imul C.1 C.2.1 dX7_read_178 ?_
        refine lv_iadd C.1 C.2.1 dX7_read_179 ?_
        refine lv_istore (lv' := [(8, .int ((((40 : Int32) * x1) + x3) + ((2 : Int32) * x7))), (0, .ref a_this), (1, .int x1), (2, .int x2), (3, .int x3), (4, .int x4), (5, .int x5), (6, .int x6), (7, .int x7)]) C.1 C.2.1 dX7_read_180 hl (by decide) rfl (fun ls hl => ?_)
        refine lv_aload_n C.1 C.2.1 dX7_read_182 rfl (lv_at hl 1 rfl) ?_
        refine lv_aload_n C.1 C.2.1 dX7_read_183 rfl (lv_at hl 1 rfl) ?_
        refine gf_7_7_cells C hK hP 0 rfl rfl dX7_read_184 ?_
        refine lv_iload C.1 C.2.1 dX7_read_187 (lv_at hl 0 rfl) ?_
        obtain ⟨h3, hF⟩ := fk hF
        refine va_iald C.1 C.2.1 hK.1 hP 4 0 rfl rfl h3 dX7_read_189 ?_
        refine lv_aload_n C.1 C.2.1 dX7_read_190 rfl (lv_at hl 1 rfl) ?_
        refine gf_7_7_cells C hK hP 0 rfl rfl dX7_read_191 ?_
        refine lv_iload C.1 C.2.1 dX7_read_194 (lv_at hl 0 rfl) ?_
        refine lv_iconst (v := 1) C.1 C.2.1 dX7_read_196 (by decide) ?_
        refine lv_iadd C.1 C.2.1 dX7_read_197 ?_
        obtain ⟨h4, hF⟩ := fk hF
        refine va_iald C.1 C.2.1 hK.1 hP 4 0 rfl rfl h4 dX7_read_198 ?_
        obtain ⟨⟨r5, w6⟩, h7, hF⟩ := fb hF
        refine callVI C hK hA hP hD hS [0, 1] (c_X7_set (a_this := a_this) (a_st := a_st) (a_now := a_now) (a_isKept := a_isKept) (a_draft := a_draft) (a_tape := a_tape) (a_wereAt := a_wereAt) (a_byPlace := a_byPlace) (a_lanes := a_lanes) (a_sizes := a_sizes) (a_cells := a_cells) (a_before := a_before) (v_hasSigns := v_hasSigns) (v_hasEvery := v_hasEvery) (v_taped := v_taped) (v_pos := v_pos) (v_begun := v_begun) (v_sort := v_sort) (v_value := v_value) (v_fault := v_fault) (v_wrongAt := v_wrongAt) (v_moved := v_moved) (v_slipTicks := v_slipTicks) (v_bestCode := v_bestCode) (v_bestMuch := v_bestMuch) (v_straightSum := v_straightSum) (v_movedSum := v_movedSum) (v_allWays := v_allWays) (v_torn := v_torn) (v_st := v_st) h7) cv_X7_set kw5_169 rfl (by decide) rfl rfl rfl ⟨Nat.le_of_ble_eq_true rfl, Nat.le_of_ble_eq_true rfl⟩ ⟨Nat.zero_le _, Nat.zero_le _⟩ hl.1 rfl (Nat.le_of_ble_eq_true rfl) dX7_read_199 (fun H locs hP hD hS => ?_)
        have hP : va_P D vwCl [(a_this, .inr (7, [.ref a_st, .ref a_now, .ref a_isKept, .ref a_draft, .int v_hasSigns, .int v_hasEvery, .ref a_tape, .int v_taped, .int v_pos, .int v_begun, .int v_sort, .int v_value, .int v_fault, .int v_wrongAt, .int v_moved, .int v_slipTicks, .int v_bestCode, .int v_bestMuch, .long v_straightSum, .long v_movedSum, .long v_allWays, .ref a_wereAt, .ref a_byPlace, .ref a_lanes, .ref a_sizes, .ref a_cells, .int v_torn, .ref a_before])), (a_st, .inl (cI, 168, .inl w6)), (a_lanes, .inl (cI, 4, .inl v_lanes)), (a_sizes, .inl (cI, 4, .inl v_sizes)), (a_cells, .inl (cI, 160, .inl v_cells)), (a_before, .inl (cI, 56, .inl v_before))] H := hP
        have hD : va_D A [(a_this, .inr (7, [.ref a_st, .ref a_now, .ref a_isKept, .ref a_draft, .int v_hasSigns, .int v_hasEvery, .ref a_tape, .int v_taped, .int v_pos, .int v_begun, .int v_sort, .int v_value, .int v_fault, .int v_wrongAt, .int v_moved, .int v_slipTicks, .int v_bestCode, .int v_bestMuch, .long v_straightSum, .long v_movedSum, .long v_allWays, .ref a_wereAt, .ref a_byPlace, .ref a_lanes, .ref a_sizes, .ref a_cells, .int v_torn, .ref a_before])), (a_st, .inl (cI, 168, .inl w6)), (a_lanes, .inl (cI, 4, .inl v_lanes)), (a_sizes, .inl (cI, 4, .inl v_sizes)), (a_cells, .inl (cI, 160, .inl v_cells)), (a_before, .inl (cI, 56, .inl v_before))] := hD
        refine lv_if_ge (tgt := 241) C.1 C.2.1 dX7_read_202 (by decide) (fun c8 => ?_) (fun c8 => ?_)
        · have hF := fp hF c8
          refine lv_iinc (v := x6 + 1) (lv' := [(6, .int (x6 + 1)), (8, .int ((((40 : Int32) * x1) + x3) + ((2 : Int32) * x7))), (0, .ref a_this), (1, .int x1), (2, .int x2), (3, .int x3), (4, .int x4), (5, .int x5), (7, .int x7)]) C.1 C.2.1 dX7_read_241 hl (k := 7) rfl rfl (by decide) rfl (fun ls hl => ?_)
          refine lv_iinc (v := x7 + 1) (lv' := [(7, .int (x7 + 1)), (6, .int (x6 + 1)), (8, .int ((((40 : Int32) * x1) + x3) + ((2 : Int32) * x7))), (0, .ref a_this), (1, .int x1), (2, .int x2), (3, .int x3), (4, .int x4), (5, .int x5)]) C.1 C.2.1 dX7_read_244 hl (k := 8) rfl rfl (by decide) rfl (fun ls hl => ?_)
          refine lv_goto (tgt := 62) C.1 C.2.1 dX7_read_247 (by decide) ?_
          exact hk v_torn w6 v_lanes v_sizes v_cells v_before x1 x2 x3 x4 x5 (x6 + 1) (x7 + 1) _ _ _ hF hP hD hS (lv_sub hl [3, 4, 5, 6, 7, 8, 1, 0] rfl)
        · have hF := fn hF c8
          refine lv_iconst (v := 0) C.1 C.2.1 dX7_read_205 (by decide) ?_
          refine lv_istore (lv' := [(9, .int (0 : Int32)), (8, .int ((((40 : Int32) * x1) + x3) + ((2 : Int32) * x7))), (0, .ref a_this), (1, .int x1), (2, .int x2), (3, .int x3), (4, .int x4), (5, .int x5), (6, .int x6), (7, .int x7)]) C.1 C.2.1 dX7_read_206 hl (by decide) rfl (fun ls hl => ?_)
          exact b_X7_read_208 C hr hlk hK hA FU v_torn w6 v_lanes v_sizes v_cells v_before x7 (0 : Int32) _ _ _ hF hP hD hS (lv_sub hl [2, 9, 0] rfl)
    · have hF := fn hF c1
      refine lv_iload C.1 C.2.1 dX7_read_83 (lv_at hl 5 rfl) ?_
      refine lv_if_ne (tgt := 164) C.1 C.2.1 dX7_read_85 (by decide) (fun c9 => ?_) (fun c9 => ?_)
      · have hF := fn hF c9
        refine lv_iload C.1 C.2.1 dX7_read_164 (lv_at hl 5 rfl) ?_
        refine lv_if_ne (tgt := 244) C.1 C.2.1 dX7_read_166 (by decide) (fun c10 => ?_) (fun c10 => ?_)
        · have hF := fn hF c10
          refine lv_iinc (v := x7 + 1) (lv' := [(7, .int (x7 + 1)), (0, .ref a_this), (1, .int x1), (2, .int x2), (3, .int x3), (4, .int x4), (5, .int x5), (6, .int x6), (8, .int x8)]) C.1 C.2.1 dX7_read_244 hl (k := 7) rfl rfl (by decide) rfl (fun ls hl => ?_)
          refine lv_goto (tgt := 62) C.1 C.2.1 dX7_read_247 (by decide) ?_
          exact hk v_torn v_st v_lanes v_sizes v_cells v_before x1 x2 x3 x4 x5 x6 (x7 + 1) _ _ _ hF hP hD hS (lv_sub hl [1, 2, 3, 4, 5, 6, 7, 0] rfl)
        · have hF := fp hF c10
          refine lv_bipush (v := 40) C.1 C.2.1 dX7_read_169 (by decide) ?_
          refine lv_iload_n C.1 C.2.1 dX7_read_171 rfl (lv_at hl 1 rfl) ?_
          refine lv_imul C.1 C.2.1 dX7_read_172 ?_
          refine lv_iload_n C.1 C.2.1 dX7_read_173 rfl (lv_at hl 3 rfl) ?_
          refine lv_iadd C.1 C.2.1 dX7_read_174 ?_
          refine lv_iconst (v := 2) C.1 C.2.1 dX7_read_175 (by decide) ?_
          refine lv_iload C.1 C.2.1 dX7_read_176 (lv_at hl 7 rfl) ?_
          refine lv_imul C.1 C.2.1 dX7_read_178 ?_
          refine lv_iadd C.1 C.2.1 dX7_read_179 ?_
          refine lv_istore (lv' := [(8, .int ((((40 : Int32) * x1) + x3) + ((2 : Int32) * x7))), (0, .ref a_this), (1, .int x1), (2, .int x2), (3, .int x3), (4, .int x4), (5, .int x5), (6, .int x6), (7, .int x7)]) C.1 C.2.1 dX7_read_180 hl (by decide) rfl (fun ls hl => ?_)
          refine lv_aload_n C.1 C.2.1 dX7_read_182 rfl (lv_at hl 1 rfl) ?_
          refine lv_aload_n C.1 C.2.1 dX7_read_183 rfl (lv_at hl 1 rfl) ?_
          refine gf_7_7_cells C hK hP 0 rfl rfl dX7_read_184 ?_
          refine lv_iload C.1 C.2.1 dX7_read_187 (lv_at hl 0 rfl) ?_
          obtain ⟨h11, hF⟩ := fk hF
          refine va_iald C.1 C.2.1 hK.1 hP 4 0 rfl rfl h11 dX7_read_189 ?_
          refine lv_aload_n C.1 C.2.1 dX7_read_190 rfl (lv_at hl 1 rfl) ?_
          refine gf_7_7_cells C hK hP 0 rfl rfl dX7_read_191 ?_
          refine lv_iload C.1 C.2.1 dX7_read_194 (lv_at hl 0 rfl) ?_
          refine lv_iconst (v := 1) C.1 C.2.1 dX7_read_196 (by decide) ?_
          refine lv_iadd C.1 C.2.1 dX7_read_197 ?_
          obtain ⟨h12, hF⟩ := fk hF
          refine va_iald C.1 C.2.1 hK.1 hP 4 0 rfl rfl h12 dX7_read_198 ?_
          obtain ⟨⟨r13, w14⟩, h15, hF⟩ := fb hF
          refine callVI C hK hA hP hD hS [0, 1] (c_X7_set (a_this := a_this) (a_st := a_st) (a_now := a_now) (a_isKept := a_isKept) (a_draft := a_draft) (a_tape := a_tape) (a_wereAt := a_wereAt) (a_byPlace := a_byPlace) (a_lanes := a_lanes) (a_sizes := a_sizes) (a_cells := a_cells) (a_before := a_before) (v_hasSigns := v_hasSigns) (v_hasEvery := v_hasEvery) (v_taped := v_taped) (v_pos := v_pos) (v_begun := v_begun) (v_sort := v_sort) (v_value := v_value) (v_fault := v_fault) (v_wrongAt := v_wrongAt) (v_moved := v_moved) (v_slipTicks := v_slipTicks) (v_bestCode := v_bestCode) (v_bestMuch := v_bestMuch) (v_straightSum := v_straightSum) (v_movedSum := v_movedSum) (v_allWays := v_allWays) (v_torn := v_torn) (v_st := v_st) h15) cv_X7_set kw5_169 rfl (by decide) rfl rfl rfl ⟨Nat.le_of_ble_eq_true rfl, Nat.le_of_ble_eq_true rfl⟩ ⟨Nat.zero_le _, Nat.zero_le _⟩ hl.1 rfl (Nat.le_of_ble_eq_true rfl) dX7_read_199 (fun H locs hP hD hS => ?_)
          have hP : va_P D vwCl [(a_this, .inr (7, [.ref a_st, .ref a_now, .ref a_isKept, .ref a_draft, .int v_hasSigns, .int v_hasEvery, .ref a_tape, .int v_taped, .int v_pos, .int v_begun, .int v_sort, .int v_value, .int v_fault, .int v_wrongAt, .int v_moved, .int v_slipTicks, .int v_bestCode, .int v_bestMuch, .long v_straightSum, .long v_movedSum, .long v_allWays, .ref a_wereAt, .ref a_byPlace, .ref a_lanes, .ref a_sizes, .ref a_cells, .int v_torn, .ref a_before])), (a_st, .inl (cI, 168, .inl w14)), (a_lanes, .inl (cI, 4, .inl v_lanes)), (a_sizes, .inl (cI, 4, .inl v_sizes)), (a_cells, .inl (cI, 160, .inl v_cells)), (a_before, .inl (cI, 56, .inl v_before))] H := hP
          have hD : va_D A [(a_this, .inr (7, [.ref a_st, .ref a_now, .ref a_isKept, .ref a_draft, .int v_hasSigns, .int v_hasEvery, .ref a_tape, .int v_taped, .int v_pos, .int v_begun, .int v_sort, .int v_value, .int v_fault, .int v_wrongAt, .int v_moved, .int v_slipTicks, .int v_bestCode, .int v_bestMuch, .long v_straightSum, .long v_movedSum, .long v_allWays, .ref a_wereAt, .ref a_byPlace, .ref a_lanes, .ref a_sizes, .ref a_cells, .int v_torn, .ref a_before])), (a_st, .inl (cI, 168, .inl w14)), (a_lanes, .inl (cI, 4, .inl v_lanes)), (a_sizes, .inl (cI, 4, .inl v_sizes)), (a_cells, .inl (cI, 160, .inl v_cells)), (a_before, .inl (cI, 56, .inl v_before))] := hD
          refine lv_if_ge (tgt := 241) C.1 C.2.1 dX7_read_202 (by decide) (fun c16 => ?_) (fun c16 => ?_)
          · have hF := fp hF c16
            refine lv_iinc (v := x6 + 1) (lv' := [(6, .int (x6 + 1)), (8, .int ((((40 : Int32) * x1) + x3) + ((2 : Int32) * x7))), (0, .ref a_this), (1, .int x1), (2, .int x2), (3, .int x3), (4, .int x4), (5, .int x5), (7, .int x7)]) C.1 C.2.1 dX7_read_241 hl (k := 7) rfl rfl (by decide) rfl (fun ls hl => ?_)
            refine lv_iinc (v := x7 + 1) (lv' := [(7, .int (x7 + 1)), (6, .int (x6 + 1)), (8, .int ((((40 : Int32) * x1) + x3) + ((2 : Int32) * x7))), (0, .ref a_this), (1, .int x1), (2, .int x2), (3, .int x3), (4, .int x4), (5, .int x5)]) C.1 C.2.1 dX7_read_244 hl (k := 8) rfl rfl (by decide) rfl (fun ls hl => ?_)
            refine lv_goto (tgt := 62) C.1 C.2.1 dX7_read_247 (by decide) ?_
            exact hk v_torn w14 v_lanes v_sizes v_cells v_before x1 x2 x3 x4 x5 (x6 + 1) (x7 + 1) _ _ _ hF hP hD hS (lv_sub hl [3, 4, 5, 6, 7, 8, 1, 0] rfl)
          · have hF := fn hF c16
            refine lv_iconst (v := 0) C.1 C.2.1 dX7_read_205 (by decide) ?_
            refine lv_istore (lv' := [(9, .int (0 : Int32)), (8, .int ((((40 : Int32) * x1) + x3) + ((2 : Int32) * x7))), (0, .ref a_this), (1, .int x1), (2, .int x2), (3, .int x3), (4, .int x4), (5, .int x5), (6, .int x6), (7, .int x7)]) C.1 C.2.1 dX7_read_206 hl (by decide) rfl (fun ls hl => ?_)
            exact b_X7_read_208 C hr hlk hK hA FU v_torn w14 v_lanes v_sizes v_cells v_before x7 (0 : Int32) _ _ _ hF hP hD hS (lv_sub hl [2, 9, 0] rfl)
      · have hF := fp hF c9
        refine lv_iload_n C.1 C.2.1 dX7_read_88 rfl (lv_at hl 3 rfl) ?_
        refine lv_i2l (v := x3.toInt64) C.1 C.2.1 dX7_read_89 rfl ?_
        refine lv_iconst (v := 2) C.1 C.2.1 dX7_read_90 (by decide) ?_
        refine lv_iload C.1 C.2.1 dX7_read_91 (lv_at hl 7 rfl) ?_
        refine lv_imul C.1 C.2.1 dX7_read_93 ?_
        refine lv_i2l (v := ((2 : Int32) * x7).toInt64) C.1 C.2.1 dX7_read_94 rfl ?_
        refine lv_ladd C.1 C.2.1 dX7_read_95 ?_
        refine lv_iload C.1 C.2.1 dX7_read_96 (lv_at hl 8 rfl) ?_
        refine lv_i2l (v := x8.toInt64) C.1 C.2.1 dX7_read_98 rfl ?_
        refine lv_ladd C.1 C.2.1 dX7_read_99 ?_
        refine lv_lstore (lv' := [(9, .long ((x3.toInt64 + (((2 : Int32) * x7).toInt64)) + x8.toInt64)), (0, .ref a_this), (1, .int x1), (2, .int x2), (3, .int x3), (4, .int x4), (5, .int x5), (6, .int x6), (7, .int x7), (8, .int x8)]) C.1 C.2.1 dX7_read_100 hl (by decide) rfl (fun ls hl => ?_)
        refine lv_aload_n C.1 C.2.1 dX7_read_102 rfl (lv_at hl 1 rfl) ?_
        refine gf_7_7_lanes C hK hP 0 rfl rfl dX7_read_103 ?_
        refine lv_iload_n C.1 C.2.1 dX7_read_106 rfl (lv_at hl 2 rfl) ?_
        obtain ⟨h17, hF⟩ := fk hF
        refine va_iald C.1 C.2.1 hK.1 hP 2 0 rfl rfl h17 dX7_read_107 ?_
        refine lv_bipush (v := (-4)) C.1 C.2.1 dX7_read_108 (by decide) ?_
        refine lv_icmp_ne (tgt := 117) C.1 C.2.1 dX7_read_110 (by decide) (fun c18 => ?_) (fun c18 => ?_)
        · have hF := fn hF c18
          refine lv_aload_n C.1 C.2.1 dX7_read_117 rfl (lv_at hl 1 rfl) ?_
          refine gf_7_7_lanes C hK hP 0 rfl rfl dX7_read_118 ?_
          refine lv_iload_n C.1 C.2.1 dX7_read_121 rfl (lv_at hl 2 rfl) ?_
          obtain ⟨h19, hF⟩ := fk hF
          refine va_iald C.1 C.2.1 hK.1 hP 2 0 rfl rfl h19 dX7_read_122 ?_
          refine lv_iload_n C.1 C.2.1 dX7_read_123 rfl (lv_at hl 3 rfl) ?_
          refine lv_icmp_eq (tgt := 131) C.1 C.2.1 dX7_read_124 (by decide) (fun c20 => ?_) (fun c20 => ?_)
          · have hF := fp hF c20
            refine lv_lload C.1 C.2.1 dX7_read_131 (lv_at hl 0 rfl) ?_
            refine lv_lconst (v := 0) C.1 C.2.1 dX7_read_133 rfl ?_
            refine W.lcmp C.1 C.2.1 dX7_read_134 ?_
            refine lv_if_lt (tgt := 151) C.1 C.2.1 dX7_read_135 (by decide) (fun c21 => ?_) (fun c21 => ?_)
            · have hF := fp hF c21
              refine lv_iconst (v := 2) C.1 C.2.1 dX7_read_151 (by decide) ?_
              refine lv_goto (tgt := 156) C.1 C.2.1 dX7_read_152 (by decide) ?_
              refine lv_istore (lv' := [(5, .int (2 : Int32)), (9, .long ((x3.toInt64 + (((2 : Int32) * x7).toInt64)) + x8.toInt64)), (0, .ref a_this), (1, .int x1), (2, .int x2), (3, .int x3), (4, .int x4), (6, .int x6), (7, .int x7), (8, .int x8)]) C.1 C.2.1 dX7_read_156 hl (by decide) rfl (fun ls hl => ?_)
              refine lv_iinc (v := x8 + 1) (lv' := [(8, .int (x8 + 1)), (5, .int (2 : Int32)), (9, .long ((x3.toInt64 + (((2 : Int32) * x7).toInt64)) + x8.toInt64)), (0, .ref a_this), (1, .int x1), (2, .int x2), (3, .int x3), (4, .int x4), (6, .int x6), (7, .int x7)]) C.1 C.2.1 dX7_read_158 hl (k := 9) rfl rfl (by decide) rfl (fun ls hl => ?_)
              refine lv_goto (tgt := 77) C.1 C.2.1 dX7_read_161 (by decide) ?_
              exact ih v_torn v_st v_lanes v_sizes v_cells v_before x1 x2 x3 x4 (2 : Int32) x6 x7 (x8 + 1) _ _ _ hF hP hD hS (lv_sub hl [3, 4, 5, 6, 7, 1, 8, 9, 0] rfl)
            · have hF := fn hF c21
              refine lv_lload C.1 C.2.1 dX7_read_138 (lv_at hl 0 rfl) ?_
              refine lv_aload_n C.1 C.2.1 dX7_read_140 rfl (lv_at hl 1 rfl) ?_
              refine gf_7_7_sizes C hK hP 0 rfl rfl dX7_read_141 ?_
              refine lv_iload_n C.1 C.2.1 dX7_read_144 rfl (lv_at hl 2 rfl) ?_
              obtain ⟨h22, hF⟩ := fk hF
              refine va_iald C.1 C.2.1 hK.1 hP 3 0 rfl rfl h22 dX7_read_145 ?_
              refine lv_i2l (v := (v_sizes x1.toNatClampNeg).toInt64) C.1 C.2.1 dX7_read_146 rfl ?_
              refine W.lcmp C.1 C.2.1 dX7_read_147 ?_
              refine lv_if_lt (tgt := 155) C.1 C.2.1 dX7_read_148 (by decide) (fun c23 => ?_) (fun c23 => ?_)
              · have hF := fp hF c23
                refine lv_iconst (v := 0) C.1 C.2.1 dX7_read_155 (by decide) ?_
                refine lv_istore (lv' := [(5, .int (0 : Int32)), (9, .long ((x3.toInt64 + (((2 : Int32) * x7).toInt64)) + x8.toInt64)), (0, .ref a_this), (1, .int x1), (2, .int x2), (3, .int x3), (4, .int x4), (6, .int x6), (7, .int x7), (8, .int x8)]) C.1 C.2.1 dX7_read_156 hl (by decide) rfl (fun ls hl => ?_)
                refine lv_iinc (v := x8 + 1) (lv' := [(8, .int (x8 + 1)), (5, .int (0 : Int32)), (9, .long ((x3.toInt64 + (((2 : Int32) * x7).toInt64)) + x8.toInt64)), (0, .ref a_this), (1, .int x1), (2, .int x2), (3, .int x3), (4, .int x4), (6, .int x6), (7, .int x7)]) C.1 C.2.1 dX7_read_158 hl (k := 9) rfl rfl (by decide) rfl (fun ls hl => ?_)
                refine lv_goto (tgt := 77) C.1 C.2.1 dX7_read_161 (by decide) ?_
                exact ih v_torn v_st v_lanes v_sizes v_cells v_before x1 x2 x3 x4 (0 : Int32) x6 x7 (x8 + 1) _ _ _ hF hP hD hS (lv_sub hl [3, 4, 5, 6, 7, 1, 8, 9, 0] rfl)
              · have hF := fn hF c23
                refine lv_iconst (v := 2) C.1 C.2.1 dX7_read_151 (by decide) ?_
                refine lv_goto (tgt := 156) C.1 C.2.1 dX7_read_152 (by decide) ?_
                refine lv_istore (lv' := [(5, .int (2 : Int32)), (9, .long ((x3.toInt64 + (((2 : Int32) * x7).toInt64)) + x8.toInt64)), (0, .ref a_this), (1, .int x1), (2, .int x2), (3, .int x3), (4, .int x4), (6, .int x6), (7, .int x7), (8, .int x8)]) C.1 C.2.1 dX7_read_156 hl (by decide) rfl (fun ls hl => ?_)
                refine lv_iinc (v := x8 + 1) (lv' := [(8, .int (x8 + 1)), (5, .int (2 : Int32)), (9, .long ((x3.toInt64 + (((2 : Int32) * x7).toInt64)) + x8.toInt64)), (0, .ref a_this), (1, .int x1), (2, .int x2), (3, .int x3), (4, .int x4), (6, .int x6), (7, .int x7)]) C.1 C.2.1 dX7_read_158 hl (k := 9) rfl rfl (by decide) rfl (fun ls hl => ?_)
                refine lv_goto (tgt := 77) C.1 C.2.1 dX7_read_161 (by decide) ?_
                exact ih v_torn v_st v_lanes v_sizes v_cells v_before x1 x2 x3 x4 (2 : Int32) x6 x7 (x8 + 1) _ _ _ hF hP hD hS (lv_sub hl [3, 4, 5, 6, 7, 1, 8, 9, 0] rfl)
          · have hF := fn hF c20
            refine lv_iconst (v := 3) C.1 C.2.1 dX7_read_127 (by decide) ?_
            refine lv_goto (tgt := 156) C.1 C.2.1 dX7_read_128 (by decide) ?_
            refine lv_istore (lv' := [(5, .int (3 : Int32)), (9, .long ((x3.toInt64 + (((2 : Int32) * x7).toInt64)) + x8.toInt64)), (0, .ref a_this), (1, .int x1), (2, .int x2), (3, .int x3), (4, .int x4), (6, .int x6), (7, .int x7), (8, .int x8)]) C.1 C.2.1 dX7_read_156 hl (by decide) rfl (fun ls hl => ?_)
            refine lv_iinc (v := x8 + 1) (lv' := [(8, .int (x8 + 1)), (5, .int (3 : Int32)), (9, .long ((x3.toInt64 + (((2 : Int32) * x7).toInt64)) + x8.toInt64)), (0, .ref a_this), (1, .int x1), (2, .int x2), (3, .int x3), (4, .int x4), (6, .int x6), (7, .int x7)]) C.1 C.2.1 dX7_read_158 hl (k := 9) rfl rfl (by decide) rfl (fun ls hl => ?_)
            refine lv_goto (tgt := 77) C.1 C.2.1 dX7_read_161 (by decide) ?_
            exact ih v_torn v_st v_lanes v_sizes v_cells v_before x1 x2 x3 x4 (3 : Int32) x6 x7 (x8 + 1) _ _ _ hF hP hD hS (lv_sub hl [3, 4, 5, 6, 7, 1, 8, 9, 0] rfl)
        · have hF := fp hF c18
          refine lv_iconst (v := 1) C.1 C.2.1 dX7_read_113 (by decide) ?_
          refine lv_goto (tgt := 156) C.1 C.2.1 dX7_read_114 (by decide) ?_
          refine lv_istore (lv' := [(5, .int (1 : Int32)), (9, .long ((x3.toInt64 + (((2 : Int32) * x7).toInt64)) + x8.toInt64)), (0, .ref a_this), (1, .int x1), (2, .int x2), (3, .int x3), (4, .int x4), (6, .int x6), (7, .int x7), (8, .int x8)]) C.1 C.2.1 dX7_read_156 hl (by decide) rfl (fun ls hl => ?_)
          refine lv_iinc (v := x8 + 1) (lv' := [(8, .int (x8 + 1)), (5, .int (1 : Int32)), (9, .long ((x3.toInt64 + (((2 : Int32) * x7).toInt64)) + x8.toInt64)), (0, .ref a_this), (1, .int x1), (2, .int x2), (3, .int x3), (4, .int x4), (6, .int x6), (7, .int x7)]) C.1 C.2.1 dX7_read_158 hl (k := 9) rfl rfl (by decide) rfl (fun ls hl => ?_)
          refine lv_goto (tgt := 77) C.1 C.2.1 dX7_read_161 (by decide) ?_
          exact ih v_torn v_st v_lanes v_sizes v_cells v_before x1 x2 x3 x4 (1 : Int32) x6 x7 (x8 + 1) _ _ _ hF hP hD hS (lv_sub hl [3, 4, 5, 6, 7, 1, 8, 9, 0] rfl)
set_option maxHeartbeats 4000000 in
set_option maxRecDepth 100000 in
theorem b_X7_read_62 {l : Launch} {D : va_G} {cI cB cZ cR cM cS : ClassId} {a_this : Nat} {a_st : Nat} {a_now : Nat} {a_isKept : Nat} {a_draft : Nat} {a_tape : Nat} {a_wereAt : Nat} {a_byPlace : Nat} {a_lanes : Nat} {a_sizes : Nat} {a_cells : Nat} {a_before : Nat} {v_hasSigns : Int32} {v_hasEvery : Int32} {v_taped : Int32} {v_pos : Int32} {v_begun : Int32} {v_sort : Int32} {v_value : Int32} {v_fault : Int32} {v_wrongAt : Int32} {v_moved : Int32} {v_slipTicks : Int32} {v_bestCode : Int32} {v_bestMuch : Int32} {v_straightSum : Int64} {v_movedSum : Int64} {v_allWays : Int64} {p : Program} {e : Env} {s : State} {m : MethodId} {args : Array Value} {below : List Frame} {meth : Method} {c : Code} {A : Nat → Prop} {res : Int32 × Int32 × (Nat → Int32) × (Nat → Int32)} (C : CX p m c cX7_read 11 s args RX7) (hr : meth.sig.returnType = (some .int)) (hlk : meth.locks = false) (hK : KK D (TS cI cB cZ cR cM cS) s) (hA : ∀ q, s.heap.size ≤ q → A q) : ∀ (fu : Nat) (v_torn : Int32) (v_st : Nat → Int32) (v_lanes : Nat → Int32) (v_sizes : Nat → Int32) (v_cells : Nat → Int32) (v_before : Nat → Int32) (x1 : Int32) (x2 : Int32) (x3 : Int32) (x4 : Int32) (x5 : Int32) (x6 : Int32) (x7 : Int32) (H : Heap) (locs : List Loc) (ls : Array Slot), F_X7_read_62 fu v_torn v_st v_lanes v_sizes v_cells v_before x1 x2 x3 x4 x5 x6 x7 = some res → va_P D vwCl [(a_this, .inr (7, [.ref a_st, .ref a_now, .ref a_isKept, .ref a_draft, .int v_hasSigns, .int v_hasEvery, .ref a_tape, .int v_taped, .int v_pos, .int v_begun, .int v_sort, .int v_value, .int v_fault, .int v_wrongAt, .int v_moved, .int v_slipTicks, .int v_bestCode, .int v_bestMuch, .long v_straightSum, .long v_movedSum, .long v_allWays, .ref a_wereAt, .ref a_byPlace, .ref a_lanes, .ref a_sizes, .ref a_cells, .int v_torn, .ref a_before])), (a_st, .inl (cI, 168, .inl v_st)), (a_lanes, .inl (cI, 4, .inl v_lanes)), (a_sizes, .inl (cI, 4, .inl v_sizes)), (a_cells, .inl (cI, 160, .inl v_cells)), (a_before, .inl (cI, 56, .inl v_before))] H → va_D A [(a_this, .inr (7, [.ref a_st, .ref a_now, .ref a_isKept, .ref a_draft, .int v_hasSigns, .int v_hasEvery, .ref a_tape, .int v_taped, .int v_pos, .int v_begun, .int v_sort, .int v_value, .int v_fault, .int v_wrongAt, .int v_moved, .int v_slipTicks, .int v_bestCode, .int v_bestMuch, .long v_straightSum, .long v_movedSum, .long v_allWays, .ref a_wereAt, .ref a_byPlace, .ref a_lanes, .ref a_sizes, .ref a_cells, .int v_torn, .ref a_before])), (a_st, .inl (cI, 168, .inl v_st)), (a_lanes, .inl (cI, 4, .inl v_lanes)), (a_sizes, .inl (cI, 4, .inl v_sizes)), (a_cells, .inl (cI, 160, .inl v_cells)), (a_before, .inl (cI, 56, .inl v_before))] → va_S A s.heap H locs → lv_has ls 11 [(0, .ref a_this), (1, .int x1), (2, .int x2), (3, .int x3), (4, .int x4), (5, .int x5), (6, .int x6), (7, .int x7)] → W p l e rm_X7_read s m args below meth c H locs 0 0 (MQ below (va_Qi (fun x (_ : Unit) => x = res.1) (BW D A [(a_this, .inr (7, [.ref a_st, .ref a_now, .ref a_isKept, .ref a_draft, .int v_hasSigns, .int v_hasEvery, .ref a_tape, .int v_taped, .int v_pos, .int v_begun, .int v_sort, .int v_value, .int v_fault, .int v_wrongAt, .int v_moved, .int v_slipTicks, .int v_bestCode, .int v_bestMuch, .long v_straightSum, .long v_movedSum, .long v_allWays, .ref a_wereAt, .ref a_byPlace, .ref a_lanes, .ref a_sizes, .ref a_cells, .int res.2.1, .ref a_before])), (a_st, .inl (cI, 168, .inl res.2.2.1)), (a_lanes, .inl (cI, 4, .inl v_lanes)), (a_sizes, .inl (cI, 4, .inl v_sizes)), (a_cells, .inl (cI, 160, .inl v_cells)), (a_before, .inl (cI, 56, .inl res.2.2.2))]) A) args s 0 0 A) (F0 m 62 ls []) := by
  intro fu
  induction fu with
  | zero => intro v_torn v_st v_lanes v_sizes v_cells v_before x1 x2 x3 x4 x5 x6 x7 H locs ls hF; cases hF
  | succ fu ih =>
    intro v_torn v_st v_lanes v_sizes v_cells v_before x1 x2 x3 x4 x5 x6 x7 H locs ls hF  hP hD hS hl
    unfold F_X7_read_62 at hF
    refine lv_iload C.1 C.2.1 dX7_read_62 (lv_at hl 7 rfl) ?_
    refine lv_iload C.1 C.2.1 dX7_read_64 (lv_at hl 4 rfl) ?_
    refine lv_icmp_ge (tgt := 250) C.1 C.2.1 dX7_read_66 (by decide) (fun c1 => ?_) (fun c1 => ?_)
    · have hF := fp hF c1
      exact b_X7_read_250 C hr hlk hK hA v_torn v_st v_lanes v_sizes v_cells v_before x5 x6 _ _ _ hF hP hD hS (lv_sub hl [0, 5, 6] rfl)
    · have hF := fn hF c1
      refine lv_iload C.1 C.2.1 dX7_read_69 (lv_at hl 5 rfl) ?_
      refine lv_if_ne (tgt := 250) C.1 C.2.1 dX7_read_71 (by decide) (fun c2 => ?_) (fun c2 => ?_)
      · have hF := fn hF c2
        exact b_X7_read_250 C hr hlk hK hA v_torn v_st v_lanes v_sizes v_cells v_before x5 x6 _ _ _ hF hP hD hS (lv_sub hl [0, 5, 6] rfl)
      · have hF := fp hF c2
        refine lv_iconst (v := 0) C.1 C.2.1 dX7_read_74 (by decide) ?_
        refine lv_istore (lv' := [(8, .int (0 : Int32)), (0, .ref a_this), (1, .int x1), (2, .int x2), (3, .int x3), (4, .int x4), (5, .int x5), (6, .int x6), (7, .int x7)]) C.1 C.2.1 dX7_read_75 hl (by decide) rfl (fun ls hl => ?_)
        exact b_X7_read_77 C hr hlk hK hA (fun (v_torn : Int32) (v_st : Nat → Int32) (v_lanes : Nat → Int32) (v_sizes : Nat → Int32) (v_cells : Nat → Int32) (v_before : Nat → Int32) (x1 : Int32) (x2 : Int32) (x3 : Int32) (x4 : Int32) (x5 : Int32) (x6 : Int32) (x7 : Int32) => F_X7_read_62 fu v_torn v_st v_lanes v_sizes v_cells v_before x1 x2 x3 x4 x5 x6 x7) ih FU v_torn v_st v_lanes v_sizes v_cells v_before x1 x2 x3 x4 x5 x6 x7 (0 : Int32) _ _ _ hF hP hD hS (lv_sub hl [1, 2, 3, 4, 5, 6, 7, 8, 0] rfl)
set_option maxHeartbeats 4000000 in
set_option maxRecDepth 100000 in
theorem b_X7_read_26 {l : Launch} {D : va_G} {cI cB cZ cR cM cS : ClassId} {a_this : Nat} {a_st : Nat} {a_now : Nat} {a_isKept : Nat} {a_draft : Nat} {a_tape : Nat} {a_wereAt : Nat} {a_byPlace : Nat} {a_lanes : Nat} {a_sizes : Nat} {a_cells : Nat} {a_before : Nat} {v_hasSigns : Int32} {v_hasEvery : Int32} {v_taped : Int32} {v_pos : Int32} {v_begun : Int32} {v_sort : Int32} {v_value : Int32} {v_fault : Int32} {v_wrongAt : Int32} {v_moved : Int32} {v_slipTicks : Int32} {v_bestCode : Int32} {v_bestMuch : Int32} {v_straightSum : Int64} {v_movedSum : Int64} {v_allWays : Int64} {p : Program} {e : Env} {s : State} {m : MethodId} {args : Array Value} {below : List Frame} {meth : Method} {c : Code} {A : Nat → Prop} {res : Int32 × Int32 × (Nat → Int32) × (Nat → Int32)} (C : CX p m c cX7_read 11 s args RX7) (hr : meth.sig.returnType = (some .int)) (hlk : meth.locks = false) (hK : KK D (TS cI cB cZ cR cM cS) s) (hA : ∀ q, s.heap.size ≤ q → A q) : ∀ (fu : Nat) (v_torn : Int32) (v_st : Nat → Int32) (v_lanes : Nat → Int32) (v_sizes : Nat → Int32) (v_cells : Nat → Int32) (v_before : Nat → Int32) (x1 : Int32) (x2 : Int32) (x3 : Int32) (x4 : Int32) (x5 : Int32) (H : Heap) (locs : List Loc) (ls : Array Slot), F_X7_read_26 fu v_torn v_st v_lanes v_sizes v_cells v_before x1 x2 x3 x4 x5 = some res → va_P D vwCl [(a_this, .inr (7, [.ref a_st, .ref a_now, .ref a_isKept, .ref a_draft, .int v_hasSigns, .int v_hasEvery, .ref a_tape, .int v_taped, .int v_pos, .int v_begun, .int v_sort, .int v_value, .int v_fault, .int v_wrongAt, .int v_moved, .int v_slipTicks, .int v_bestCode, .int v_bestMuch, .long v_straightSum, .long v_movedSum, .long v_allWays, .ref a_wereAt, .ref a_byPlace, .ref a_lanes, .ref a_sizes, .ref a_cells, .int v_torn, .ref a_before])), (a_st, .inl (cI, 168, .inl v_st)), (a_lanes, .inl (cI, 4, .inl v_lanes)), (a_sizes, .inl (cI, 4, .inl v_sizes)), (a_cells, .inl (cI, 160, .inl v_cells)), (a_before, .inl (cI, 56, .inl v_before))] H → va_D A [(a_this, .inr (7, [.ref a_st, .ref a_now, .ref a_isKept, .ref a_draft, .int v_hasSigns, .int v_hasEvery, .ref a_tape, .int v_taped, .int v_pos, .int v_begun, .int v_sort, .int v_value, .int v_fault, .int v_wrongAt, .int v_moved, .int v_slipTicks, .int v_bestCode, .int v_bestMuch, .long v_straightSum, .long v_movedSum, .long v_allWays, .ref a_wereAt, .ref a_byPlace, .ref a_lanes, .ref a_sizes, .ref a_cells, .int v_torn, .ref a_before])), (a_st, .inl (cI, 168, .inl v_st)), (a_lanes, .inl (cI, 4, .inl v_lanes)), (a_sizes, .inl (cI, 4, .inl v_sizes)), (a_cells, .inl (cI, 160, .inl v_cells)), (a_before, .inl (cI, 56, .inl v_before))] → va_S A s.heap H locs → lv_has ls 11 [(0, .ref a_this), (1, .int x1), (2, .int x2), (3, .int x3), (4, .int x4), (5, .int x5)] → W p l e rm_X7_read s m args below meth c H locs 0 0 (MQ below (va_Qi (fun x (_ : Unit) => x = res.1) (BW D A [(a_this, .inr (7, [.ref a_st, .ref a_now, .ref a_isKept, .ref a_draft, .int v_hasSigns, .int v_hasEvery, .ref a_tape, .int v_taped, .int v_pos, .int v_begun, .int v_sort, .int v_value, .int v_fault, .int v_wrongAt, .int v_moved, .int v_slipTicks, .int v_bestCode, .int v_bestMuch, .long v_straightSum, .long v_movedSum, .long v_allWays, .ref a_wereAt, .ref a_byPlace, .ref a_lanes, .ref a_sizes, .ref a_cells, .int res.2.1, .ref a_before])), (a_st, .inl (cI, 168, .inl res.2.2.1)), (a_lanes, .inl (cI, 4, .inl v_lanes)), (a_sizes, .inl (cI, 4, .inl v_sizes)), (a_cells, .inl (cI, 160, .inl v_cells)), (a_before, .inl (cI, 56, .inl res.2.2.2))]) A) args s 0 0 A) (F0 m 26 ls []) := by
  intro fu
  induction fu with
  | zero => intro v_torn v_st v_lanes v_sizes v_cells v_before x1 x2 x3 x4 x5 H locs ls hF; cases hF
  | succ fu ih =>
    intro v_torn v_st v_lanes v_sizes v_cells v_before x1 x2 x3 x4 x5 H locs ls hF  hP hD hS hl
    unfold F_X7_read_26 at hF
    refine lv_iload C.1 C.2.1 dX7_read_26 (lv_at hl 5 rfl) ?_
    refine lv_bipush (v := 56) C.1 C.2.1 dX7_read_28 (by decide) ?_
    refine lv_icmp_ge (tgt := 53) C.1 C.2.1 dX7_read_30 (by decide) (fun c1 => ?_) (fun c1 => ?_)
    · have hF := fp hF c1
      refine lv_iconst (v := 0) C.1 C.2.1 dX7_read_53 (by decide) ?_
      refine lv_istore (lv' := [(5, .int (0 : Int32)), (0, .ref a_this), (1, .int x1), (2, .int x2), (3, .int x3), (4, .int x4)]) C.1 C.2.1 dX7_read_54 hl (by decide) rfl (fun ls hl => ?_)
      refine lv_iconst (v := 0) C.1 C.2.1 dX7_read_56 (by decide) ?_
      refine lv_istore (lv' := [(6, .int (0 : Int32)), (5, .int (0 : Int32)), (0, .ref a_this), (1, .int x1), (2, .int x2), (3, .int x3), (4, .int x4)]) C.1 C.2.1 dX7_read_57 hl (by decide) rfl (fun ls hl => ?_)
      refine lv_iconst (v := 0) C.1 C.2.1 dX7_read_59 (by decide) ?_
      refine lv_istore (lv' := [(7, .int (0 : Int32)), (6, .int (0 : Int32)), (5, .int (0 : Int32)), (0, .ref a_this), (1, .int x1), (2, .int x2), (3, .int x3), (4, .int x4)]) C.1 C.2.1 dX7_read_60 hl (by decide) rfl (fun ls hl => ?_)
      exact b_X7_read_62 C hr hlk hK hA FU v_torn v_st v_lanes v_sizes v_cells v_before x1 x2 x3 x4 (0 : Int32) (0 : Int32) (0 : Int32) _ _ _ hF hP hD hS (lv_sub hl [3, 4, 5, 6, 7, 2, 1, 0] rfl)
    · have hF := fn hF c1
      refine lv_aload_n C.1 C.2.1 dX7_read_33 rfl (lv_at hl 0 rfl) ?_
      refine gf_7_7_before C hK hP 0 rfl rfl dX7_read_34 ?_
      refine lv_iload C.1 C.2.1 dX7_read_37 (lv_at hl 5 rfl) ?_
      refine lv_aload_n C.1 C.2.1 dX7_read_39 rfl (lv_at hl 0 rfl) ?_
      refine gf_7_7_st C hK hP 0 rfl rfl dX7_read_40 ?_
      refine lv_iload C.1 C.2.1 dX7_read_43 (lv_at hl 5 rfl) ?_
      obtain ⟨h2, hF⟩ := fk hF
      refine va_iald C.1 C.2.1 hK.1 hP 1 0 rfl rfl h2 dX7_read_45 ?_
      obtain ⟨h3, hF⟩ := fk hF
      refine va_iast C.1 C.2.1 hK.1 hP hD hS 5 0 rfl rfl h3 dX7_read_46 (fun H locs hP hD hS => ?_)
      have hP : va_P D vwCl [(a_this, .inr (7, [.ref a_st, .ref a_now, .ref a_isKept, .ref a_draft, .int v_hasSigns, .int v_hasEvery, .ref a_tape, .int v_taped, .int v_pos, .int v_begun, .int v_sort, .int v_value, .int v_fault, .int v_wrongAt, .int v_moved, .int v_slipTicks, .int v_bestCode, .int v_bestMuch, .long v_straightSum, .long v_movedSum, .long v_allWays, .ref a_wereAt, .ref a_byPlace, .ref a_lanes, .ref a_sizes, .ref a_cells, .int v_torn, .ref a_before])), (a_st, .inl (cI, 168, .inl v_st)), (a_lanes, .inl (cI, 4, .inl v_lanes)), (a_sizes, .inl (cI, 4, .inl v_sizes)), (a_cells, .inl (cI, 160, .inl v_cells)), (a_before, .inl (cI, 56, .inl (upd v_before x5.toNatClampNeg (v_st x5.toNatClampNeg))))] H := hP
      have hD : va_D A [(a_this, .inr (7, [.ref a_st, .ref a_now, .ref a_isKept, .ref a_draft, .int v_hasSigns, .int v_hasEvery, .ref a_tape, .int v_taped, .int v_pos, .int v_begun, .int v_sort, .int v_value, .int v_fault, .int v_wrongAt, .int v_moved, .int v_slipTicks, .int v_bestCode, .int v_bestMuch, .long v_straightSum, .long v_movedSum, .long v_allWays, .ref a_wereAt, .ref a_byPlace, .ref a_lanes, .ref a_sizes, .ref a_cells, .int v_torn, .ref a_before])), (a_st, .inl (cI, 168, .inl v_st)), (a_lanes, .inl (cI, 4, .inl v_lanes)), (a_sizes, .inl (cI, 4, .inl v_sizes)), (a_cells, .inl (cI, 160, .inl v_cells)), (a_before, .inl (cI, 56, .inl (upd v_before x5.toNatClampNeg (v_st x5.toNatClampNeg))))] := hD
      refine lv_iinc (v := x5 + 1) (lv' := [(5, .int (x5 + 1)), (0, .ref a_this), (1, .int x1), (2, .int x2), (3, .int x3), (4, .int x4)]) C.1 C.2.1 dX7_read_47 hl (k := 5) rfl rfl (by decide) rfl (fun ls hl => ?_)
      refine lv_goto (tgt := 26) C.1 C.2.1 dX7_read_50 (by decide) ?_
      exact ih v_torn v_st v_lanes v_sizes v_cells (upd v_before x5.toNatClampNeg (v_st x5.toNatClampNeg)) x1 x2 x3 x4 (x5 + 1) _ _ _ hF hP hD hS (lv_sub hl [1, 2, 3, 4, 5, 0] rfl)
set_option maxHeartbeats 4000000 in
set_option maxRecDepth 100000 in
theorem c0_X7_read {l : Launch} {D : va_G} {cI cB cZ cR cM cS : ClassId} {a_this : Nat} {a_st : Nat} {a_now : Nat} {a_isKept : Nat} {a_draft : Nat} {a_tape : Nat} {a_wereAt : Nat} {a_byPlace : Nat} {a_lanes : Nat} {a_sizes : Nat} {a_cells : Nat} {a_before : Nat} {v_hasSigns : Int32} {v_hasEvery : Int32} {v_taped : Int32} {v_pos : Int32} {v_begun : Int32} {v_sort : Int32} {v_value : Int32} {v_fault : Int32} {v_wrongAt : Int32} {v_moved : Int32} {v_slipTicks : Int32} {v_bestCode : Int32} {v_bestMuch : Int32} {v_straightSum : Int64} {v_movedSum : Int64} {v_allWays : Int64} {v_torn : Int32} {v_st : Nat → Int32} {v_lanes : Nat → Int32} {v_sizes : Nat → Int32} {v_cells : Nat → Int32} {v_before : Nat → Int32} {x1 : Int32} {x2 : Int32} {x3 : Int32} {x4 : Int32} {res : Int32 × Int32 × (Nat → Int32) × (Nat → Int32)} (hF : F_X7_read v_torn v_st v_lanes v_sizes v_cells v_before x1 x2 x3 x4 = some res) : MI l yX7_read cX7_read 11 .int rm_X7_read D (TS cI cB cZ cR cM cS) [.ref a_this, .int x1, .int x2, .int x3, .int x4] [(a_this, .inr (7, [.ref a_st, .ref a_now, .ref a_isKept, .ref a_draft, .int v_hasSigns, .int v_hasEvery, .ref a_tape, .int v_taped, .int v_pos, .int v_begun, .int v_sort, .int v_value, .int v_fault, .int v_wrongAt, .int v_moved, .int v_slipTicks, .int v_bestCode, .int v_bestMuch, .long v_straightSum, .long v_movedSum, .long v_allWays, .ref a_wereAt, .ref a_byPlace, .ref a_lanes, .ref a_sizes, .ref a_cells, .int v_torn, .ref a_before])), (a_st, .inl (cI, 168, .inl v_st)), (a_lanes, .inl (cI, 4, .inl v_lanes)), (a_sizes, .inl (cI, 4, .inl v_sizes)), (a_cells, .inl (cI, 160, .inl v_cells)), (a_before, .inl (cI, 56, .inl v_before))] [(a_this, .inr (7, [.ref a_st, .ref a_now, .ref a_isKept, .ref a_draft, .int v_hasSigns, .int v_hasEvery, .ref a_tape, .int v_taped, .int v_pos, .int v_begun, .int v_sort, .int v_value, .int v_fault, .int v_wrongAt, .int v_moved, .int v_slipTicks, .int v_bestCode, .int v_bestMuch, .long v_straightSum, .long v_movedSum, .long v_allWays, .ref a_wereAt, .ref a_byPlace, .ref a_lanes, .ref a_sizes, .ref a_cells, .int res.2.1, .ref a_before])), (a_st, .inl (cI, 168, .inl res.2.2.1)), (a_lanes, .inl (cI, 4, .inl v_lanes)), (a_sizes, .inl (cI, 4, .inl v_sizes)), (a_cells, .inl (cI, 160, .inl v_cells)), (a_before, .inl (cI, 56, .inl res.2.2.2))] res.1 :=
  MI_of (by decide) (Nat.le_of_ble_eq_true rfl) (fun p e s m args below meth c A ls C hr hlk hK hA hP hD hS hl => by
    have C : CX p m c cX7_read 11 s args RX7 := C
    have hl : lv_has ls 11 [(0, .ref a_this), (1, .int x1), (2, .int x2), (3, .int x3), (4, .int x4)] := hl
    unfold F_X7_read at hF
    refine lv_iload_n C.1 C.2.1 dX7_read_0 rfl (lv_at hl 1 rfl) ?_
    refine lv_iload_n C.1 C.2.1 dX7_read_1 rfl (lv_at hl 2 rfl) ?_
    obtain ⟨r1, h2, hF⟩ := fb hF
    refine callSI C hK hA hP hD hS (c_X7_isSheet  h2) cs_X7_isSheet kw5_156 ⟨Nat.le_of_ble_eq_true rfl, Nat.le_of_ble_eq_true rfl⟩ ⟨Nat.zero_le _, Nat.zero_le _⟩ hl.1 rfl (Nat.le_of_ble_eq_true rfl) dX7_read_2 (fun H locs hP hD hS => ?_)
    refine lv_if_eq (tgt := 21) C.1 C.2.1 dX7_read_5 (by decide) (fun c3 => ?_) (fun c3 => ?_)
    · have hF := fp hF c3
      refine lv_iconst (v := (-1)) C.1 C.2.1 dX7_read_21 (by decide) ?_
      have hF := Option.some.inj hF
      subst hF
      exact retI C hr hlk hP hD hS dX7_read_22
    · have hF := fn hF c3
      refine lv_iload C.1 C.2.1 dX7_read_8 (lv_at hl 4 rfl) ?_
      refine lv_i2l (v := x4.toInt64) C.1 C.2.1 dX7_read_10 rfl ?_
      refine lv_lconst (v := 0) C.1 C.2.1 dX7_read_11 rfl ?_
      refine lv_ldc2 (v := 20) C.1 C.2.1 C.2.2.2.1 (C.2.2.2.2 _ kw5_168) dX7_read_12 ?_
      obtain ⟨r4, h5, hF⟩ := fb hF
      refine callSI C hK hA hP hD hS (c_X7_in  h5) cs_X7_in kw4_76 ⟨Nat.le_of_ble_eq_true rfl, Nat.le_of_ble_eq_true rfl⟩ ⟨Nat.zero_le _, Nat.zero_le _⟩ hl.1 rfl (Nat.le_of_ble_eq_true rfl) dX7_read_15 (fun H locs hP hD hS => ?_)
      refine lv_if_ne (tgt := 23) C.1 C.2.1 dX7_read_18 (by decide) (fun c6 => ?_) (fun c6 => ?_)
      · have hF := fn hF c6
        refine lv_iconst (v := 0) C.1 C.2.1 dX7_read_23 (by decide) ?_
        refine lv_istore (lv' := [(5, .int (0 : Int32)), (0, .ref a_this), (1, .int x1), (2, .int x2), (3, .int x3), (4, .int x4)]) C.1 C.2.1 dX7_read_24 hl (by decide) rfl (fun ls hl => ?_)
        exact b_X7_read_26 C hr hlk hK hA FU v_torn v_st v_lanes v_sizes v_cells v_before x1 x2 x3 x4 (0 : Int32) _ _ _ hF hP hD hS (lv_sub hl [1, 2, 3, 4, 5, 0] rfl)
      · have hF := fp hF c6
        refine lv_iconst (v := (-1)) C.1 C.2.1 dX7_read_21 (by decide) ?_
        have hF := Option.some.inj hF
        subst hF
        exact retI C hr hlk hP hD hS dX7_read_22)
theorem c_X7_read {l : Launch} {D : va_G} {cI cB cZ cR cM cS : ClassId} {a_this : Nat} {a_st : Nat} {a_now : Nat} {a_isKept : Nat} {a_draft : Nat} {a_tape : Nat} {a_wereAt : Nat} {a_byPlace : Nat} {a_lanes : Nat} {a_sizes : Nat} {a_cells : Nat} {a_before : Nat} {v_hasSigns : Int32} {v_hasEvery : Int32} {v_taped : Int32} {v_pos : Int32} {v_begun : Int32} {v_sort : Int32} {v_value : Int32} {v_fault : Int32} {v_wrongAt : Int32} {v_moved : Int32} {v_slipTicks : Int32} {v_bestCode : Int32} {v_bestMuch : Int32} {v_straightSum : Int64} {v_movedSum : Int64} {v_allWays : Int64} {v_torn : Int32} {v_st : Nat → Int32} {v_lanes : Nat → Int32} {v_sizes : Nat → Int32} {v_cells : Nat → Int32} {v_before : Nat → Int32} {x1 : Int32} {x2 : Int32} {x3 : Int32} {x4 : Int32} {r_ : Int32} {v_torn' : Int32} {v_st' : Nat → Int32} {v_before' : Nat → Int32} (hF : F_X7_read v_torn v_st v_lanes v_sizes v_cells v_before x1 x2 x3 x4 = some (r_, v_torn', v_st', v_before')) : MI l yX7_read cX7_read 11 .int rm_X7_read D (TS cI cB cZ cR cM cS) [.ref a_this, .int x1, .int x2, .int x3, .int x4] [(a_this, .inr (7, [.ref a_st, .ref a_now, .ref a_isKept, .ref a_draft, .int v_hasSigns, .int v_hasEvery, .ref a_tape, .int v_taped, .int v_pos, .int v_begun, .int v_sort, .int v_value, .int v_fault, .int v_wrongAt, .int v_moved, .int v_slipTicks, .int v_bestCode, .int v_bestMuch, .long v_straightSum, .long v_movedSum, .long v_allWays, .ref a_wereAt, .ref a_byPlace, .ref a_lanes, .ref a_sizes, .ref a_cells, .int v_torn, .ref a_before])), (a_st, .inl (cI, 168, .inl v_st)), (a_lanes, .inl (cI, 4, .inl v_lanes)), (a_sizes, .inl (cI, 4, .inl v_sizes)), (a_cells, .inl (cI, 160, .inl v_cells)), (a_before, .inl (cI, 56, .inl v_before))] [(a_this, .inr (7, [.ref a_st, .ref a_now, .ref a_isKept, .ref a_draft, .int v_hasSigns, .int v_hasEvery, .ref a_tape, .int v_taped, .int v_pos, .int v_begun, .int v_sort, .int v_value, .int v_fault, .int v_wrongAt, .int v_moved, .int v_slipTicks, .int v_bestCode, .int v_bestMuch, .long v_straightSum, .long v_movedSum, .long v_allWays, .ref a_wereAt, .ref a_byPlace, .ref a_lanes, .ref a_sizes, .ref a_cells, .int v_torn', .ref a_before])), (a_st, .inl (cI, 168, .inl v_st')), (a_lanes, .inl (cI, 4, .inl v_lanes)), (a_sizes, .inl (cI, 4, .inl v_sizes)), (a_cells, .inl (cI, 160, .inl v_cells)), (a_before, .inl (cI, 56, .inl v_before'))] r_ :=
  c0_X7_read (res := (r_, v_torn', v_st', v_before')) hF
def rm_X7_torn : Room := { frames := 0, cells := 0, slots := 0, locals := 0 }
theorem cv_X7_torn : CV yX7_torn cX7_torn 1 (some .int) rm_X7_torn RX7 0 := ⟨kw5_171, kw5_172, kw1_8, kw5_173, by decide +kernel, rfl, rfl⟩
set_option maxHeartbeats 4000000 in
set_option maxRecDepth 100000 in
theorem c_X7_torn {l : Launch} {D : va_G} {cI cB cZ cR cM cS : ClassId} {a_this : Nat} {a_st : Nat} {a_now : Nat} {a_isKept : Nat} {a_draft : Nat} {a_tape : Nat} {a_wereAt : Nat} {a_byPlace : Nat} {a_lanes : Nat} {a_sizes : Nat} {a_cells : Nat} {a_before : Nat} {v_hasSigns : Int32} {v_hasEvery : Int32} {v_taped : Int32} {v_pos : Int32} {v_begun : Int32} {v_sort : Int32} {v_value : Int32} {v_fault : Int32} {v_wrongAt : Int32} {v_moved : Int32} {v_slipTicks : Int32} {v_bestCode : Int32} {v_bestMuch : Int32} {v_straightSum : Int64} {v_movedSum : Int64} {v_allWays : Int64} {v_torn : Int32} {res : Int32} (hF : F_X7_torn v_torn = some res) : MI l yX7_torn cX7_torn 1 .int rm_X7_torn D (TS cI cB cZ cR cM cS) [.ref a_this] [(a_this, .inr (7, [.ref a_st, .ref a_now, .ref a_isKept, .ref a_draft, .int v_hasSigns, .int v_hasEvery, .ref a_tape, .int v_taped, .int v_pos, .int v_begun, .int v_sort, .int v_value, .int v_fault, .int v_wrongAt, .int v_moved, .int v_slipTicks, .int v_bestCode, .int v_bestMuch, .long v_straightSum, .long v_movedSum, .long v_allWays, .ref a_wereAt, .ref a_byPlace, .ref a_lanes, .ref a_sizes, .ref a_cells, .int v_torn, .ref a_before]))] [(a_this, .inr (7, [.ref a_st, .ref a_now, .ref a_isKept, .ref a_draft, .int v_hasSigns, .int v_hasEvery, .ref a_tape, .int v_taped, .int v_pos, .int v_begun, .int v_sort, .int v_value, .int v_fault, .int v_wrongAt, .int v_moved, .int v_slipTicks, .int v_bestCode, .int v_bestMuch, .long v_straightSum, .long v_movedSum, .long v_allWays, .ref a_wereAt, .ref a_byPlace, .ref a_lanes, .ref a_sizes, .ref a_cells, .int v_torn, .ref a_before]))] res :=
  MI_of (by decide) (Nat.le_of_ble_eq_true rfl) (fun p e s m args below meth c A ls C hr hlk hK hA hP hD hS hl => by
    have C : CX p m c cX7_torn 1 s args RX7 := C
    have hl : lv_has ls 1 [(0, .ref a_this)] := hl
    unfold F_X7_torn at hF
    refine lv_aload_n C.1 C.2.1 dX7_torn_0 rfl (lv_at hl 0 rfl) ?_
    refine gf_7_7_torn C hK hP 0 rfl rfl dX7_torn_1 ?_
    have hF := Option.some.inj hF
    subst hF
    exact retI C hr hlk hP hD hS dX7_torn_4)
def rm_X7_count : Room := { frames := 1, cells := 0, slots := 0, locals := 20 }
theorem cv_X7_count : CV yX7_count cX7_count 5 (some .int) rm_X7_count RX7 1 := ⟨kw5_175, kw5_176, kw1_8, kw5_177, by decide +kernel, rfl, rfl⟩
set_option maxHeartbeats 4000000 in
set_option maxRecDepth 100000 in
theorem b_X7_count_45 {l : Launch} {D : va_G} {cI cB cZ cR cM cS : ClassId} {a_this : Nat} {a_st : Nat} {a_now : Nat} {a_isKept : Nat} {a_draft : Nat} {a_tape : Nat} {a_wereAt : Nat} {a_byPlace : Nat} {a_lanes : Nat} {a_sizes : Nat} {a_cells : Nat} {a_before : Nat} {v_hasSigns : Int32} {v_hasEvery : Int32} {v_pos : Int32} {v_begun : Int32} {v_sort : Int32} {v_value : Int32} {v_fault : Int32} {v_wrongAt : Int32} {v_moved : Int32} {v_slipTicks : Int32} {v_bestCode : Int32} {v_bestMuch : Int32} {v_straightSum : Int64} {v_movedSum : Int64} {v_allWays : Int64} {v_torn : Int32} {p : Program} {e : Env} {s : State} {m : MethodId} {args : Array Value} {below : List Frame} {meth : Method} {c : Code} {A : Nat → Prop} {res : Int32} (C : CX p m c cX7_count 5 s args RX7) (hr : meth.sig.returnType = (some .int)) (hlk : meth.locks = false) (hK : KK D (TS cI cB cZ cR cM cS) s) (hA : ∀ q, s.heap.size ≤ q → A q) : ∀ (fu : Nat) (v_taped : Int32) (v_st : Nat → Int32) (v_isKept : Nat → Int32) (v_lanes : Nat → Int32) (v_sizes : Nat → Int32) (x1 : Int32) (x2 : Int32) (x3 : Int32) (x4 : Int32) (H : Heap) (locs : List Loc) (ls : Array Slot), F_X7_count_45 fu v_taped v_st v_isKept v_lanes v_sizes x1 x2 x3 x4 = some res → va_P D vwCl [(a_this, .inr (7, [.ref a_st, .ref a_now, .ref a_isKept, .ref a_draft, .int v_hasSigns, .int v_hasEvery, .ref a_tape, .int v_taped, .int v_pos, .int v_begun, .int v_sort, .int v_value, .int v_fault, .int v_wrongAt, .int v_moved, .int v_slipTicks, .int v_bestCode, .int v_bestMuch, .long v_straightSum, .long v_movedSum, .long v_allWays, .ref a_wereAt, .ref a_byPlace, .ref a_lanes, .ref a_sizes, .ref a_cells, .int v_torn, .ref a_before])), (a_st, .inl (cI, 168, .inl v_st)), (a_isKept, .inl (cZ, 2, .inl v_isKept)), (a_lanes, .inl (cI, 4, .inl v_lanes)), (a_sizes, .inl (cI, 4, .inl v_sizes))] H → va_D A [(a_this, .inr (7, [.ref a_st, .ref a_now, .ref a_isKept, .ref a_draft, .int v_hasSigns, .int v_hasEvery, .ref a_tape, .int v_taped, .int v_pos, .int v_begun, .int v_sort, .int v_value, .int v_fault, .int v_wrongAt, .int v_moved, .int v_slipTicks, .int v_bestCode, .int v_bestMuch, .long v_straightSum, .long v_movedSum, .long v_allWays, .ref a_wereAt, .ref a_byPlace, .ref a_lanes, .ref a_sizes, .ref a_cells, .int v_torn, .ref a_before])), (a_st, .inl (cI, 168, .inl v_st)), (a_isKept, .inl (cZ, 2, .inl v_isKept)), (a_lanes, .inl (cI, 4, .inl v_lanes)), (a_sizes, .inl (cI, 4, .inl v_sizes))] → va_S A s.heap H locs → lv_has ls 5 [(0, .ref a_this), (1, .int x1), (2, .int x2), (3, .int x3), (4, .int x4)] → W p l e rm_X7_count s m args below meth c H locs 0 0 (MQ below (va_Qi (fun x (_ : Unit) => x = res) (BW D A [(a_this, .inr (7, [.ref a_st, .ref a_now, .ref a_isKept, .ref a_draft, .int v_hasSigns, .int v_hasEvery, .ref a_tape, .int v_taped, .int v_pos, .int v_begun, .int v_sort, .int v_value, .int v_fault, .int v_wrongAt, .int v_moved, .int v_slipTicks, .int v_bestCode, .int v_bestMuch, .long v_straightSum, .long v_movedSum, .long v_allWays, .ref a_wereAt, .ref a_byPlace, .ref a_lanes, .ref a_sizes, .ref a_cells, .int v_torn, .ref a_before])), (a_st, .inl (cI, 168, .inl v_st)), (a_isKept, .inl (cZ, 2, .inl v_isKept)), (a_lanes, .inl (cI, 4, .inl v_lanes)), (a_sizes, .inl (cI, 4, .inl v_sizes))]) A) args s 0 0 A) (F0 m 45 ls []) := by
  intro fu
  induction fu with
  | zero => intro v_taped v_st v_isKept v_lanes v_sizes x1 x2 x3 x4 H locs ls hF; cases hF
  | succ fu ih =>
    intro v_taped v_st v_isKept v_lanes v_sizes x1 x2 x3 x4 H locs ls hF  hP hD hS hl
    unfold F_X7_count_45 at hF
    refine lv_iload C.1 C.2.1 dX7_count_45 (lv_at hl 4 rfl) ?_
    refine lv_aload_n C.1 C.2.1 dX7_count_47 rfl (lv_at hl 0 rfl) ?_
    refine gf_7_7_st C hK hP 0 rfl rfl dX7_count_48 ?_
    refine lv_bipush (v := 17) C.1 C.2.1 dX7_count_51 (by decide) ?_
    obtain ⟨h1, hF⟩ := fk hF
    refine va_iald C.1 C.2.1 hK.1 hP 1 0 rfl rfl h1 dX7_count_53 ?_
    refine lv_icmp_ge (tgt := 75) C.1 C.2.1 dX7_count_54 (by decide) (fun c2 => ?_) (fun c2 => ?_)
    · have hF := fp hF c2
      refine lv_iload_n C.1 C.2.1 dX7_count_75 rfl (lv_at hl 1 rfl) ?_
      by_cases c3 : x1 = (0 : Int32)
      · have hF := fp hF c3
        refine lv_tableIn (tgt := 116) C.1 C.2.1 dX7_count_76 (by rw [c3]; decide) (by rw [c3]; decide) (by rw [c3]; rfl) (by decide) ?_
        refine lv_aload_n C.1 C.2.1 dX7_count_116 rfl (lv_at hl 0 rfl) ?_
        refine gf_7_7_st C hK hP 0 rfl rfl dX7_count_117 ?_
        refine lv_bipush (v := 37) C.1 C.2.1 dX7_count_120 (by decide) ?_
        obtain ⟨h4, hF⟩ := fk hF
        refine va_iald C.1 C.2.1 hK.1 hP 1 0 rfl rfl h4 dX7_count_122 ?_
        have hF := Option.some.inj hF
        subst hF
        exact retI C hr hlk hP hD hS dX7_count_123
      · have hF := fn hF c3
        by_cases c5 : x1 = (1 : Int32)
        · have hF := fp hF c5
          refine lv_tableIn (tgt := 124) C.1 C.2.1 dX7_count_76 (by rw [c5]; decide) (by rw [c5]; decide) (by rw [c5]; rfl) (by decide) ?_
          refine lv_aload_n C.1 C.2.1 dX7_count_124 rfl (lv_at hl 0 rfl) ?_
          refine gf_7_7_isKept C hK hP 0 rfl rfl dX7_count_125 ?_
          refine lv_iconst (v := 0) C.1 C.2.1 dX7_count_128 (by decide) ?_
          obtain ⟨h6, hF⟩ := fk hF
          refine va_zald C.1 C.2.1 hK.1 hP 2 2 rfl rfl h6 dX7_count_129 ?_
          obtain ⟨r7, h8, hF⟩ := fb hF
          refine callSI C hK hA hP hD hS (c_X7_flag  h8) cs_X7_flag kw4_162 ⟨Nat.le_of_ble_eq_true rfl, Nat.le_of_ble_eq_true rfl⟩ ⟨Nat.zero_le _, Nat.zero_le _⟩ hl.1 rfl (Nat.le_of_ble_eq_true rfl) dX7_count_130 (fun H locs hP hD hS => ?_)
          refine lv_aload_n C.1 C.2.1 dX7_count_133 rfl (lv_at hl 0 rfl) ?_
          refine gf_7_7_isKept C hK hP 0 rfl rfl dX7_count_134 ?_
          refine lv_iconst (v := 1) C.1 C.2.1 dX7_count_137 (by decide) ?_
          obtain ⟨h9, hF⟩ := fk hF
          refine va_zald C.1 C.2.1 hK.1 hP 2 2 rfl rfl h9 dX7_count_138 ?_
          obtain ⟨r10, h11, hF⟩ := fb hF
          refine callSI C hK hA hP hD hS (c_X7_flag  h11) cs_X7_flag kw4_162 ⟨Nat.le_of_ble_eq_true rfl, Nat.le_of_ble_eq_true rfl⟩ ⟨Nat.zero_le _, Nat.zero_le _⟩ hl.1 rfl (Nat.le_of_ble_eq_true rfl) dX7_count_139 (fun H locs hP hD hS => ?_)
          refine lv_iadd C.1 C.2.1 dX7_count_142 ?_
          have hF := Option.some.inj hF
          subst hF
          exact retI C hr hlk hP hD hS dX7_count_143
        · have hF := fn hF c5
          by_cases c12 : x1 = (2 : Int32)
          · have hF := fp hF c12
            refine lv_tableIn (tgt := 144) C.1 C.2.1 dX7_count_76 (by rw [c12]; decide) (by rw [c12]; decide) (by rw [c12]; rfl) (by decide) ?_
            refine lv_aload_n C.1 C.2.1 dX7_count_144 rfl (lv_at hl 0 rfl) ?_
            refine gf_7_7_taped C hK hP 0 rfl rfl dX7_count_145 ?_
            have hF := Option.some.inj hF
            subst hF
            exact retI C hr hlk hP hD hS dX7_count_148
          · have hF := fn hF c12
            by_cases c13 : x1 = (3 : Int32)
            · have hF := fp hF c13
              refine lv_tableIn (tgt := 149) C.1 C.2.1 dX7_count_76 (by rw [c13]; decide) (by rw [c13]; decide) (by rw [c13]; rfl) (by decide) ?_
              refine lv_aload_n C.1 C.2.1 dX7_count_149 rfl (lv_at hl 0 rfl) ?_
              refine gf_7_7_lanes C hK hP 0 rfl rfl dX7_count_150 ?_
              refine lv_iconst (v := 0) C.1 C.2.1 dX7_count_153 (by decide) ?_
              obtain ⟨h14, hF⟩ := fk hF
              refine va_iald C.1 C.2.1 hK.1 hP 3 0 rfl rfl h14 dX7_count_154 ?_
              refine lv_bipush (v := (-4)) C.1 C.2.1 dX7_count_155 (by decide) ?_
              refine lv_icmp_ne (tgt := 165) C.1 C.2.1 dX7_count_157 (by decide) (fun c15 => ?_) (fun c15 => ?_)
              · have hF := fn hF c15
                refine lv_aload_n C.1 C.2.1 dX7_count_165 rfl (lv_at hl 0 rfl) ?_
                refine gf_7_7_sizes C hK hP 0 rfl rfl dX7_count_166 ?_
                refine lv_iconst (v := 0) C.1 C.2.1 dX7_count_169 (by decide) ?_
                obtain ⟨h16, hF⟩ := fk hF
                refine va_iald C.1 C.2.1 hK.1 hP 4 0 rfl rfl h16 dX7_count_170 ?_
                have hF := Option.some.inj hF
                subst hF
                exact retI C hr hlk hP hD hS dX7_count_171
              · have hF := fp hF c15
                refine lv_bipush (v := (-4)) C.1 C.2.1 dX7_count_160 (by decide) ?_
                refine lv_goto (tgt := 171) C.1 C.2.1 dX7_count_162 (by decide) ?_
                have hF := Option.some.inj hF
                subst hF
                exact retI C hr hlk hP hD hS dX7_count_171
            · have hF := fn hF c13
              by_cases c17 : x1 = (4 : Int32)
              · have hF := fp hF c17
                refine lv_tableIn (tgt := 172) C.1 C.2.1 dX7_count_76 (by rw [c17]; decide) (by rw [c17]; decide) (by rw [c17]; rfl) (by decide) ?_
                refine lv_iload_n C.1 C.2.1 dX7_count_172 rfl (lv_at hl 2 rfl) ?_
                have hF := Option.some.inj hF
                subst hF
                exact retI C hr hlk hP hD hS dX7_count_173
              · have hF := fn hF c17
                by_cases c18 : x1 = (5 : Int32)
                · have hF := fp hF c18
                  refine lv_tableIn (tgt := 174) C.1 C.2.1 dX7_count_76 (by rw [c18]; decide) (by rw [c18]; decide) (by rw [c18]; rfl) (by decide) ?_
                  refine lv_iload_n C.1 C.2.1 dX7_count_174 rfl (lv_at hl 3 rfl) ?_
                  have hF := Option.some.inj hF
                  subst hF
                  exact retI C hr hlk hP hD hS dX7_count_175
                · have hF := fn hF c18
                  refine lv_tableOut (tgt := 176) C.1 C.2.1 dX7_count_76 (by have q0 := lv_neT (k := 0) (a := 0) c3 (by decide); have q1 := lv_neT (k := 1) (a := 1) c5 (by decide); have q2 := lv_neT (k := 2) (a := 2) c12 (by decide); have q3 := lv_neT (k := 3) (a := 3) c13 (by decide); have q4 := lv_neT (k := 4) (a := 4) c17 (by decide); have q5 := lv_neT (k := 5) (a := 5) c18 (by decide); omega) (by decide) ?_
                  refine lv_iconst (v := (-1)) C.1 C.2.1 dX7_count_176 (by decide) ?_
                  have hF := Option.some.inj hF
                  subst hF
                  exact retI C hr hlk hP hD hS dX7_count_177
    · have hF := fn hF c2
      refine lv_iload_n C.1 C.2.1 dX7_count_57 rfl (lv_at hl 3 rfl) ?_
      refine lv_aload_n C.1 C.2.1 dX7_count_58 rfl (lv_at hl 0 rfl) ?_
      refine gf_7_7_st C hK hP 0 rfl rfl dX7_count_59 ?_
      refine lv_iconst (v := 1) C.1 C.2.1 dX7_count_62 (by decide) ?_
      refine lv_iload C.1 C.2.1 dX7_count_63 (lv_at hl 4 rfl) ?_
      refine lv_iadd C.1 C.2.1 dX7_count_65 ?_
      obtain ⟨h19, hF⟩ := fk hF
      refine va_iald C.1 C.2.1 hK.1 hP 1 0 rfl rfl h19 dX7_count_66 ?_
      refine lv_iadd C.1 C.2.1 dX7_count_67 ?_
      refine lv_istore_n (lv' := [(3, .int (x3 + (v_st ((1 : Int32) + x4).toNatClampNeg))), (0, .ref a_this), (1, .int x1), (2, .int x2), (4, .int x4)]) C.1 C.2.1 dX7_count_68 rfl hl (by decide) rfl (fun ls hl => ?_)
      refine lv_iinc (v := x4 + 1) (lv' := [(4, .int (x4 + 1)), (3, .int (x3 + (v_st ((1 : Int32) + x4).toNatClampNeg))), (0, .ref a_this), (1, .int x1), (2, .int x2)]) C.1 C.2.1 dX7_count_69 hl (k := 4) rfl rfl (by decide) rfl (fun ls hl => ?_)
      refine lv_goto (tgt := 45) C.1 C.2.1 dX7_count_72 (by decide) ?_
      exact ih v_taped v_st v_isKept v_lanes v_sizes x1 x2 (x3 + (v_st ((1 : Int32) + x4).toNatClampNeg)) (x4 + 1) _ _ _ hF hP hD hS (lv_sub hl [2, 3, 4, 1, 0] rfl)
set_option maxHeartbeats 4000000 in
set_option maxRecDepth 100000 in
theorem b_X7_count_7 {l : Launch} {D : va_G} {cI cB cZ cR cM cS : ClassId} {a_this : Nat} {a_st : Nat} {a_now : Nat} {a_isKept : Nat} {a_draft : Nat} {a_tape : Nat} {a_wereAt : Nat} {a_byPlace : Nat} {a_lanes : Nat} {a_sizes : Nat} {a_cells : Nat} {a_before : Nat} {v_hasSigns : Int32} {v_hasEvery : Int32} {v_pos : Int32} {v_begun : Int32} {v_sort : Int32} {v_value : Int32} {v_fault : Int32} {v_wrongAt : Int32} {v_moved : Int32} {v_slipTicks : Int32} {v_bestCode : Int32} {v_bestMuch : Int32} {v_straightSum : Int64} {v_movedSum : Int64} {v_allWays : Int64} {v_torn : Int32} {p : Program} {e : Env} {s : State} {m : MethodId} {args : Array Value} {below : List Frame} {meth : Method} {c : Code} {A : Nat → Prop} {res : Int32} (C : CX p m c cX7_count 5 s args RX7) (hr : meth.sig.returnType = (some .int)) (hlk : meth.locks = false) (hK : KK D (TS cI cB cZ cR cM cS) s) (hA : ∀ q, s.heap.size ≤ q → A q) : ∀ (fu : Nat) (v_taped : Int32) (v_st : Nat → Int32) (v_isKept : Nat → Int32) (v_lanes : Nat → Int32) (v_sizes : Nat → Int32) (x1 : Int32) (x2 : Int32) (x3 : Int32) (x4 : Int32) (H : Heap) (locs : List Loc) (ls : Array Slot), F_X7_count_7 fu v_taped v_st v_isKept v_lanes v_sizes x1 x2 x3 x4 = some res → va_P D vwCl [(a_this, .inr (7, [.ref a_st, .ref a_now, .ref a_isKept, .ref a_draft, .int v_hasSigns, .int v_hasEvery, .ref a_tape, .int v_taped, .int v_pos, .int v_begun, .int v_sort, .int v_value, .int v_fault, .int v_wrongAt, .int v_moved, .int v_slipTicks, .int v_bestCode, .int v_bestMuch, .long v_straightSum, .long v_movedSum, .long v_allWays, .ref a_wereAt, .ref a_byPlace, .ref a_lanes, .ref a_sizes, .ref a_cells, .int v_torn, .ref a_before])), (a_st, .inl (cI, 168, .inl v_st)), (a_isKept, .inl (cZ, 2, .inl v_isKept)), (a_lanes, .inl (cI, 4, .inl v_lanes)), (a_sizes, .inl (cI, 4, .inl v_sizes))] H → va_D A [(a_this, .inr (7, [.ref a_st, .ref a_now, .ref a_isKept, .ref a_draft, .int v_hasSigns, .int v_hasEvery, .ref a_tape, .int v_taped, .int v_pos, .int v_begun, .int v_sort, .int v_value, .int v_fault, .int v_wrongAt, .int v_moved, .int v_slipTicks, .int v_bestCode, .int v_bestMuch, .long v_straightSum, .long v_movedSum, .long v_allWays, .ref a_wereAt, .ref a_byPlace, .ref a_lanes, .ref a_sizes, .ref a_cells, .int v_torn, .ref a_before])), (a_st, .inl (cI, 168, .inl v_st)), (a_isKept, .inl (cZ, 2, .inl v_isKept)), (a_lanes, .inl (cI, 4, .inl v_lanes)), (a_sizes, .inl (cI, 4, .inl v_sizes))] → va_S A s.heap H locs → lv_has ls 5 [(0, .ref a_this), (1, .int x1), (2, .int x2), (3, .int x3), (4, .int x4)] → W p l e rm_X7_count s m args below meth c H locs 0 0 (MQ below (va_Qi (fun x (_ : Unit) => x = res) (BW D A [(a_this, .inr (7, [.ref a_st, .ref a_now, .ref a_isKept, .ref a_draft, .int v_hasSigns, .int v_hasEvery, .ref a_tape, .int v_taped, .int v_pos, .int v_begun, .int v_sort, .int v_value, .int v_fault, .int v_wrongAt, .int v_moved, .int v_slipTicks, .int v_bestCode, .int v_bestMuch, .long v_straightSum, .long v_movedSum, .long v_allWays, .ref a_wereAt, .ref a_byPlace, .ref a_lanes, .ref a_sizes, .ref a_cells, .int v_torn, .ref a_before])), (a_st, .inl (cI, 168, .inl v_st)), (a_isKept, .inl (cZ, 2, .inl v_isKept)), (a_lanes, .inl (cI, 4, .inl v_lanes)), (a_sizes, .inl (cI, 4, .inl v_sizes))]) A) args s 0 0 A) (F0 m 7 ls []) := by
  intro fu
  induction fu with
  | zero => intro v_taped v_st v_isKept v_lanes v_sizes x1 x2 x3 x4 H locs ls hF; cases hF
  | succ fu ih =>
    intro v_taped v_st v_isKept v_lanes v_sizes x1 x2 x3 x4 H locs ls hF  hP hD hS hl
    unfold F_X7_count_7 at hF
    refine lv_iload C.1 C.2.1 dX7_count_7 (lv_at hl 4 rfl) ?_
    refine lv_aload_n C.1 C.2.1 dX7_count_9 rfl (lv_at hl 0 rfl) ?_
    refine gf_7_7_st C hK hP 0 rfl rfl dX7_count_10 ?_
    refine lv_bipush (v := 36) C.1 C.2.1 dX7_count_13 (by decide) ?_
    obtain ⟨h1, hF⟩ := fk hF
    refine va_iald C.1 C.2.1 hK.1 hP 1 0 rfl rfl h1 dX7_count_15 ?_
    refine lv_icmp_ge (tgt := 42) C.1 C.2.1 dX7_count_16 (by decide) (fun c2 => ?_) (fun c2 => ?_)
    · have hF := fp hF c2
      refine lv_iconst (v := 0) C.1 C.2.1 dX7_count_42 (by decide) ?_
      refine lv_istore (lv' := [(4, .int (0 : Int32)), (0, .ref a_this), (1, .int x1), (2, .int x2), (3, .int x3)]) C.1 C.2.1 dX7_count_43 hl (by decide) rfl (fun ls hl => ?_)
      exact b_X7_count_45 C hr hlk hK hA FU v_taped v_st v_isKept v_lanes v_sizes x1 x2 x3 (0 : Int32) _ _ _ hF hP hD hS (lv_sub hl [1, 2, 3, 4, 0] rfl)
    · have hF := fn hF c2
      refine lv_iload_n C.1 C.2.1 dX7_count_19 rfl (lv_at hl 2 rfl) ?_
      refine lv_aload_n C.1 C.2.1 dX7_count_20 rfl (lv_at hl 0 rfl) ?_
      refine gf_7_7_st C hK hP 0 rfl rfl dX7_count_21 ?_
      refine lv_bipush (v := 20) C.1 C.2.1 dX7_count_24 (by decide) ?_
      refine lv_iconst (v := 4) C.1 C.2.1 dX7_count_26 (by decide) ?_
      refine lv_iload C.1 C.2.1 dX7_count_27 (lv_at hl 4 rfl) ?_
      refine lv_imul C.1 C.2.1 dX7_count_29 ?_
      refine lv_iadd C.1 C.2.1 dX7_count_30 ?_
      refine lv_iconst (v := 1) C.1 C.2.1 dX7_count_31 (by decide) ?_
      refine lv_iadd C.1 C.2.1 dX7_count_32 ?_
      obtain ⟨h3, hF⟩ := fk hF
      refine va_iald C.1 C.2.1 hK.1 hP 1 0 rfl rfl h3 dX7_count_33 ?_
      refine lv_iadd C.1 C.2.1 dX7_count_34 ?_
      refine lv_istore_n (lv' := [(2, .int (x2 + (v_st (((20 : Int32) + ((4 : Int32) * x4)) + (1 : Int32)).toNatClampNeg))), (0, .ref a_this), (1, .int x1), (3, .int x3), (4, .int x4)]) C.1 C.2.1 dX7_count_35 rfl hl (by decide) rfl (fun ls hl => ?_)
      refine lv_iinc (v := x4 + 1) (lv' := [(4, .int (x4 + 1)), (2, .int (x2 + (v_st (((20 : Int32) + ((4 : Int32) * x4)) + (1 : Int32)).toNatClampNeg))), (0, .ref a_this), (1, .int x1), (3, .int x3)]) C.1 C.2.1 dX7_count_36 hl (k := 4) rfl rfl (by decide) rfl (fun ls hl => ?_)
      refine lv_goto (tgt := 7) C.1 C.2.1 dX7_count_39 (by decide) ?_
      exact ih v_taped v_st v_isKept v_lanes v_sizes x1 (x2 + (v_st (((20 : Int32) + ((4 : Int32) * x4)) + (1 : Int32)).toNatClampNeg)) x3 (x4 + 1) _ _ _ hF hP hD hS (lv_sub hl [2, 3, 1, 4, 0] rfl)
set_option maxHeartbeats 4000000 in
set_option maxRecDepth 100000 in
theorem c_X7_count {l : Launch} {D : va_G} {cI cB cZ cR cM cS : ClassId} {a_this : Nat} {a_st : Nat} {a_now : Nat} {a_isKept : Nat} {a_draft : Nat} {a_tape : Nat} {a_wereAt : Nat} {a_byPlace : Nat} {a_lanes : Nat} {a_sizes : Nat} {a_cells : Nat} {a_before : Nat} {v_hasSigns : Int32} {v_hasEvery : Int32} {v_taped : Int32} {v_pos : Int32} {v_begun : Int32} {v_sort : Int32} {v_value : Int32} {v_fault : Int32} {v_wrongAt : Int32} {v_moved : Int32} {v_slipTicks : Int32} {v_bestCode : Int32} {v_bestMuch : Int32} {v_straightSum : Int64} {v_movedSum : Int64} {v_allWays : Int64} {v_torn : Int32} {v_st : Nat → Int32} {v_isKept : Nat → Int32} {v_lanes : Nat → Int32} {v_sizes : Nat → Int32} {x1 : Int32} {res : Int32} (hF : F_X7_count v_taped v_st v_isKept v_lanes v_sizes x1 = some res) : MI l yX7_count cX7_count 5 .int rm_X7_count D (TS cI cB cZ cR cM cS) [.ref a_this, .int x1] [(a_this, .inr (7, [.ref a_st, .ref a_now, .ref a_isKept, .ref a_draft, .int v_hasSigns, .int v_hasEvery, .ref a_tape, .int v_taped, .int v_pos, .int v_begun, .int v_sort, .int v_value, .int v_fault, .int v_wrongAt, .int v_moved, .int v_slipTicks, .int v_bestCode, .int v_bestMuch, .long v_straightSum, .long v_movedSum, .long v_allWays, .ref a_wereAt, .ref a_byPlace, .ref a_lanes, .ref a_sizes, .ref a_cells, .int v_torn, .ref a_before])), (a_st, .inl (cI, 168, .inl v_st)), (a_isKept, .inl (cZ, 2, .inl v_isKept)), (a_lanes, .inl (cI, 4, .inl v_lanes)), (a_sizes, .inl (cI, 4, .inl v_sizes))] [(a_this, .inr (7, [.ref a_st, .ref a_now, .ref a_isKept, .ref a_draft, .int v_hasSigns, .int v_hasEvery, .ref a_tape, .int v_taped, .int v_pos, .int v_begun, .int v_sort, .int v_value, .int v_fault, .int v_wrongAt, .int v_moved, .int v_slipTicks, .int v_bestCode, .int v_bestMuch, .long v_straightSum, .long v_movedSum, .long v_allWays, .ref a_wereAt, .ref a_byPlace, .ref a_lanes, .ref a_sizes, .ref a_cells, .int v_torn, .ref a_before])), (a_st, .inl (cI, 168, .inl v_st)), (a_isKept, .inl (cZ, 2, .inl v_isKept)), (a_lanes, .inl (cI, 4, .inl v_lanes)), (a_sizes, .inl (cI, 4, .inl v_sizes))] res :=
  MI_of (by decide) (Nat.le_of_ble_eq_true rfl) (fun p e s m args below meth c A ls C hr hlk hK hA hP hD hS hl => by
    have C : CX p m c cX7_count 5 s args RX7 := C
    have hl : lv_has ls 5 [(0, .ref a_this), (1, .int x1)] := hl
    unfold F_X7_count at hF
    refine lv_iconst (v := 0) C.1 C.2.1 dX7_count_0 (by decide) ?_
    refine lv_istore_n (lv' := [(2, .int (0 : Int32)), (0, .ref a_this), (1, .int x1)]) C.1 C.2.1 dX7_count_1 rfl hl (by decide) rfl (fun ls hl => ?_)
    refine lv_iconst (v := 0) C.1 C.2.1 dX7_count_2 (by decide) ?_
    refine lv_istore_n (lv' := [(3, .int (0 : Int32)), (2, .int (0 : Int32)), (0, .ref a_this), (1, .int x1)]) C.1 C.2.1 dX7_count_3 rfl hl (by decide) rfl (fun ls hl => ?_)
    refine lv_iconst (v := 0) C.1 C.2.1 dX7_count_4 (by decide) ?_
    refine lv_istore (lv' := [(4, .int (0 : Int32)), (3, .int (0 : Int32)), (2, .int (0 : Int32)), (0, .ref a_this), (1, .int x1)]) C.1 C.2.1 dX7_count_5 hl (by decide) rfl (fun ls hl => ?_)
    exact b_X7_count_7 C hr hlk hK hA FU v_taped v_st v_isKept v_lanes v_sizes x1 (0 : Int32) (0 : Int32) (0 : Int32) _ _ _ hF hP hD hS (lv_sub hl [3, 4, 2, 1, 0] rfl))
