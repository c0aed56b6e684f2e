def rm_X7_in : Room := { frames := 0, cells := 0, slots := 0, locals := 0 }
theorem cs_X7_in : CS yX7_in cX7_in 6 (some .boolean) rm_X7_in RX7 3 := ⟨kw4_77, kw1_8, kw4_78, by decide +kernel, rfl, rfl⟩
set_option maxHeartbeats 4000000 in
set_option maxRecDepth 100000 in
theorem c_X7_in {l : Launch} {D : va_G} {cI cB cZ cR cM cS : ClassId} {x0 : Int64} {x2 : Int64} {x4 : Int64} {res : Int32} (hF : F_X7_in x0 x2 x4 = some res) : MI l yX7_in cX7_in 6 .boolean rm_X7_in D (TS cI cB cZ cR cM cS) [.long x0, .long x2, .long x4] [] [] res :=
  MI_of (by decide) (Nat.le_of_ble_eq_true rfl) (fun p e s m args below meth c A ls C hr hlk hK hA hP hD hS hl => by
    have C : CX p m c cX7_in 6 s args RX7 := C
    have hl : lv_has ls 6 [(0, .long x0), (2, .long x2), (4, .long x4)] := hl
    unfold F_X7_in at hF
    refine lv_lload_n C.1 C.2.1 dX7_in_0 rfl (lv_at hl 0 rfl) ?_
    refine lv_lload_n C.1 C.2.1 dX7_in_1 rfl (lv_at hl 1 rfl) ?_
    refine W.lcmp C.1 C.2.1 dX7_in_2 ?_
    refine lv_if_lt (tgt := 17) C.1 C.2.1 dX7_in_3 (by decide) (fun c1 => ?_) (fun c1 => ?_)
    · have hF := fp hF c1
      refine lv_iconst (v := 0) C.1 C.2.1 dX7_in_17 (by decide) ?_
      have hF := Option.some.inj hF
      subst hF
      exact retZ (v := 0) C hr hlk (by decide) hP hD hS dX7_in_18
    · have hF := fn hF c1
      refine lv_lload_n C.1 C.2.1 dX7_in_6 rfl (lv_at hl 0 rfl) ?_
      refine lv_lload C.1 C.2.1 dX7_in_7 (lv_at hl 2 rfl) ?_
      refine W.lcmp C.1 C.2.1 dX7_in_9 ?_
      refine lv_if_gt (tgt := 17) C.1 C.2.1 dX7_in_10 (by decide) (fun c2 => ?_) (fun c2 => ?_)
      · have hF := fp hF c2
        refine lv_iconst (v := 0) C.1 C.2.1 dX7_in_17 (by decide) ?_
        have hF := Option.some.inj hF
        subst hF
        exact retZ (v := 0) C hr hlk (by decide) hP hD hS dX7_in_18
      · have hF := fn hF c2
        refine lv_iconst (v := 1) C.1 C.2.1 dX7_in_13 (by decide) ?_
        refine lv_goto (tgt := 18) C.1 C.2.1 dX7_in_14 (by decide) ?_
        have hF := Option.some.inj hF
        subst hF
        exact retZ (v := 1) C hr hlk (by decide) hP hD hS dX7_in_18)
def rm_X7_flag : Room := { frames := 0, cells := 0, slots := 0, locals := 0 }
theorem cs_X7_flag : CS yX7_flag cX7_flag 1 (some .int) rm_X7_flag RX7 1 := ⟨kw4_163, kw1_8, kw4_164, by decide +kernel, rfl, rfl⟩
set_option maxHeartbeats 4000000 in
set_option maxRecDepth 100000 in
theorem c_X7_flag {l : Launch} {D : va_G} {cI cB cZ cR cM cS : ClassId} {x0 : Int32} {res : Int32} (hF : F_X7_flag x0 = some res) : MI l yX7_flag cX7_flag 1 .int rm_X7_flag D (TS cI cB cZ cR cM cS) [.int x0] [] [] res :=
  MI_of (by decide) (Nat.le_of_ble_eq_true rfl) (fun p e s m args below meth c A ls C hr hlk hK hA hP hD hS hl => by
    have C : CX p m c cX7_flag 1 s args RX7 := C
    have hl : lv_has ls 1 [(0, .int x0)] := hl
    unfold F_X7_flag at hF
    refine lv_iload_n C.1 C.2.1 dX7_flag_0 rfl (lv_at hl 0 rfl) ?_
    refine lv_if_eq (tgt := 8) C.1 C.2.1 dX7_flag_1 (by decide) (fun c1 => ?_) (fun c1 => ?_)
    · have hF := fp hF c1
      refine lv_iconst (v := 0) C.1 C.2.1 dX7_flag_8 (by decide) ?_
      have hF := Option.some.inj hF
      subst hF
      exact retI C hr hlk hP hD hS dX7_flag_9
    · have hF := fn hF c1
      refine lv_iconst (v := 1) C.1 C.2.1 dX7_flag_4 (by decide) ?_
      refine lv_goto (tgt := 9) C.1 C.2.1 dX7_flag_5 (by decide) ?_
      have hF := Option.some.inj hF
      subst hF
      exact retI C hr hlk hP hD hS dX7_flag_9)
def rm_X7_amount : Room := { frames := 0, cells := 0, slots := 0, locals := 0 }
theorem cs_X7_amount : CS yX7_amount cX7_amount 1 (some .int) rm_X7_amount RX7 1 := ⟨kw4_160, kw1_8, kw4_161, by decide +kernel, rfl, rfl⟩
set_option maxHeartbeats 4000000 in
set_option maxRecDepth 100000 in
theorem c_X7_amount {l : Launch} {D : va_G} {cI cB cZ cR cM cS : ClassId} {x0 : Int32} {res : Int32} (hF : F_X7_amount x0 = some res) : MI l yX7_amount cX7_amount 1 .int rm_X7_amount D (TS cI cB cZ cR cM cS) [.int x0] [] [] res :=
  MI_of (by decide) (Nat.le_of_ble_eq_true rfl) (fun p e s m args below meth c A ls C hr hlk hK hA hP hD hS hl => by
    have C : CX p m c cX7_amount 1 s args RX7 := C
    have hl : lv_has ls 1 [(0, .int x0)] := hl
    unfold F_X7_amount at hF
    refine lv_iload_n C.1 C.2.1 dX7_amount_0 rfl (lv_at hl 0 rfl) ?_
    refine lv_if_ge (tgt := 9) C.1 C.2.1 dX7_amount_1 (by decide) (fun c1 => ?_) (fun c1 => ?_)
    · have hF := fp hF c1
      refine lv_iload_n C.1 C.2.1 dX7_amount_9 rfl (lv_at hl 0 rfl) ?_
      have hF := Option.some.inj hF
      subst hF
      exact retI C hr hlk hP hD hS dX7_amount_10
    · have hF := fn hF c1
      refine lv_iload_n C.1 C.2.1 dX7_amount_4 rfl (lv_at hl 0 rfl) ?_
      refine lv_ineg C.1 C.2.1 dX7_amount_5 ?_
      refine lv_goto (tgt := 10) C.1 C.2.1 dX7_amount_6 (by decide) ?_
      have hF := Option.some.inj hF
      subst hF
      exact retI C hr hlk hP hD hS dX7_amount_10)
def rm_X7_byEight : Room := { frames := 0, cells := 0, slots := 0, locals := 0 }
theorem cs_X7_byEight : CS yX7_byEight cX7_byEight 2 (some .int) rm_X7_byEight RX7 1 := ⟨kw4_157, kw1_8, kw4_158, by decide +kernel, rfl, rfl⟩
set_option maxHeartbeats 4000000 in
set_option maxRecDepth 100000 in
theorem c_X7_byEight {l : Launch} {D : va_G} {cI cB cZ cR cM cS : ClassId} {x0 : Int32} {res : Int32} (hF : F_X7_byEight x0 = some res) : MI l yX7_byEight cX7_byEight 2 .int rm_X7_byEight D (TS cI cB cZ cR cM cS) [.int x0] [] [] res :=
  MI_of (by decide) (Nat.le_of_ble_eq_true rfl) (fun p e s m args below meth c A ls C hr hlk hK hA hP hD hS hl => by
    have C : CX p m c cX7_byEight 2 s args RX7 := C
    have hl : lv_has ls 2 [(0, .int x0)] := hl
    unfold F_X7_byEight at hF
    refine lv_iload_n C.1 C.2.1 dX7_byEight_0 rfl (lv_at hl 0 rfl) ?_
    refine lv_bipush (v := 8) C.1 C.2.1 dX7_byEight_1 (by decide) ?_
    refine lv_irem C.1 C.2.1 dX7_byEight_3 (by decide) ?_
    refine lv_istore_n (lv' := [(1, .int (irem x0 (8 : Int32))), (0, .int x0)]) C.1 C.2.1 dX7_byEight_4 rfl hl (by decide) rfl (fun ls hl => ?_)
    refine lv_iload_n C.1 C.2.1 dX7_byEight_5 rfl (lv_at hl 0 rfl) ?_
    refine lv_if_ge (tgt := 16) C.1 C.2.1 dX7_byEight_6 (by decide) (fun c1 => ?_) (fun c1 => ?_)
    · have hF := fp hF c1
      refine lv_iload_n C.1 C.2.1 dX7_byEight_16 rfl (lv_at hl 0 rfl) ?_
      have hF := Option.some.inj hF
      subst hF
      exact retI C hr hlk hP hD hS dX7_byEight_17
    · have hF := fn hF c1
      refine lv_iload_n C.1 C.2.1 dX7_byEight_9 rfl (lv_at hl 0 rfl) ?_
      refine lv_bipush (v := 8) C.1 C.2.1 dX7_byEight_10 (by decide) ?_
      refine lv_iadd C.1 C.2.1 dX7_byEight_12 ?_
      refine lv_goto (tgt := 17) C.1 C.2.1 dX7_byEight_13 (by decide) ?_
      have hF := Option.some.inj hF
      subst hF
      exact retI C hr hlk hP hD hS dX7_byEight_17)
def rm_X7_firstDraft : Room := { frames := 0, cells := 0, slots := 0, locals := 0 }
theorem cv_X7_firstDraft : CV yX7_firstDraft cX7_firstDraft 2 none rm_X7_firstDraft RX7 0 := ⟨kw3_219, kwp_24, kw1_8, kw3_220, by decide +kernel, rfl, rfl⟩
set_option maxHeartbeats 4000000 in
set_option maxRecDepth 100000 in
theorem b_X7_firstDraft_2 {l : Launch} {D : va_G} {cI cB cZ cR cM cS : ClassId} {a_this : Nat} {a_st : Nat} {a_now : Nat} {a_isKept : Nat} {a_draft : Nat} {a_tape : Nat} {a_wereAt : Nat} {a_byPlace : Nat} {a_lanes : Nat} {a_sizes : Nat} {a_cells : Nat} {a_before : Nat} {v_taped : Int32} {v_pos : Int32} {v_begun : Int32} {v_sort : Int32} {v_value : Int32} {v_fault : Int32} {v_wrongAt : Int32} {v_moved : Int32} {v_slipTicks : Int32} {v_bestCode : Int32} {v_bestMuch : Int32} {v_straightSum : Int64} {v_movedSum : Int64} {v_allWays : Int64} {v_torn : Int32} {p : Program} {e : Env} {s : State} {m : MethodId} {args : Array Value} {below : List Frame} {meth : Method} {c : Code} {A : Nat → Prop} {res : Int32 × Int32 × (Nat → Int32)} (C : CX p m c cX7_firstDraft 2 s args RX7) (hr : meth.sig.returnType = none) (hlk : meth.locks = false) (hK : KK D (TS cI cB cZ cR cM cS) s) (hA : ∀ q, s.heap.size ≤ q → A q) : ∀ (fu : Nat) (v_hasSigns : Int32) (v_hasEvery : Int32) (v_draft : Nat → Int32) (x1 : Int32) (H : Heap) (locs : List Loc) (ls : Array Slot), F_X7_firstDraft_2 fu v_hasSigns v_hasEvery v_draft x1 = some res → va_P D vwCl [(a_this, .inr (7, [.ref a_st, .ref a_now, .ref a_isKept, .ref a_draft, .int v_hasSigns, .int v_hasEvery, .ref a_tape, .int v_taped, .int v_pos, .int v_begun, .int v_sort, .int v_value, .int v_fault, .int v_wrongAt, .int v_moved, .int v_slipTicks, .int v_bestCode, .int v_bestMuch, .long v_straightSum, .long v_movedSum, .long v_allWays, .ref a_wereAt, .ref a_byPlace, .ref a_lanes, .ref a_sizes, .ref a_cells, .int v_torn, .ref a_before])), (a_draft, .inl (cI, 56, .inl v_draft))] H → va_D A [(a_this, .inr (7, [.ref a_st, .ref a_now, .ref a_isKept, .ref a_draft, .int v_hasSigns, .int v_hasEvery, .ref a_tape, .int v_taped, .int v_pos, .int v_begun, .int v_sort, .int v_value, .int v_fault, .int v_wrongAt, .int v_moved, .int v_slipTicks, .int v_bestCode, .int v_bestMuch, .long v_straightSum, .long v_movedSum, .long v_allWays, .ref a_wereAt, .ref a_byPlace, .ref a_lanes, .ref a_sizes, .ref a_cells, .int v_torn, .ref a_before])), (a_draft, .inl (cI, 56, .inl v_draft))] → va_S A s.heap H locs → lv_has ls 2 [(0, .ref a_this), (1, .int x1)] → W p l e rm_X7_firstDraft s m args below meth c H locs 0 0 (MQ below (va_Qv (fun (_ : Unit) => True) (BW D A [(a_this, .inr (7, [.ref a_st, .ref a_now, .ref a_isKept, .ref a_draft, .int res.1, .int res.2.1, .ref a_tape, .int v_taped, .int v_pos, .int v_begun, .int v_sort, .int v_value, .int v_fault, .int v_wrongAt, .int v_moved, .int v_slipTicks, .int v_bestCode, .int v_bestMuch, .long v_straightSum, .long v_movedSum, .long v_allWays, .ref a_wereAt, .ref a_byPlace, .ref a_lanes, .ref a_sizes, .ref a_cells, .int v_torn, .ref a_before])), (a_draft, .inl (cI, 56, .inl res.2.2))]) A) args s 0 0 A) (F0 m 2 ls []) := by
  intro fu
  induction fu with
  | zero => intro v_hasSigns v_hasEvery v_draft x1 H locs ls hF; cases hF
  | succ fu ih =>
    intro v_hasSigns v_hasEvery v_draft x1 H locs ls hF  hP hD hS hl
    unfold F_X7_firstDraft_2 at hF
    refine lv_iload_n C.1 C.2.1 dX7_firstDraft_2 rfl (lv_at hl 1 rfl) ?_
    refine lv_bipush (v := 56) C.1 C.2.1 dX7_firstDraft_3 (by decide) ?_
    refine lv_icmp_ge (tgt := 21) C.1 C.2.1 dX7_firstDraft_5 (by decide) (fun c1 => ?_) (fun c1 => ?_)
    · have hF := fp hF c1
      refine lv_aload_n C.1 C.2.1 dX7_firstDraft_21 rfl (lv_at hl 0 rfl) ?_
      refine gf_7_7_draft C hK hP 0 rfl rfl dX7_firstDraft_22 ?_
      refine lv_bipush (v := 18) C.1 C.2.1 dX7_firstDraft_25 (by decide) ?_
      refine lv_iconst (v := 1) C.1 C.2.1 dX7_firstDraft_27 (by decide) ?_
      obtain ⟨h2, hF⟩ := fk hF
      refine va_iast C.1 C.2.1 hK.1 hP hD hS 1 0 rfl rfl h2 dX7_firstDraft_28 (fun H locs hP hD hS => ?_)
      have hP : va_P D vwCl [(a_this, .inr (7, [.ref a_st, .ref a_now, .ref a_isKept, .ref a_draft, .int v_hasSigns, .int v_hasEvery, .ref a_tape, .int v_taped, .int v_pos, .int v_begun, .int v_sort, .int v_value, .int v_fault, .int v_wrongAt, .int v_moved, .int v_slipTicks, .int v_bestCode, .int v_bestMuch, .long v_straightSum, .long v_movedSum, .long v_allWays, .ref a_wereAt, .ref a_byPlace, .ref a_lanes, .ref a_sizes, .ref a_cells, .int v_torn, .ref a_before])), (a_draft, .inl (cI, 56, .inl (upd v_draft (18 : Int32).toNatClampNeg (1 : Int32))))] H := hP
      have hD : va_D A [(a_this, .inr (7, [.ref a_st, .ref a_now, .ref a_isKept, .ref a_draft, .int v_hasSigns, .int v_hasEvery, .ref a_tape, .int v_taped, .int v_pos, .int v_begun, .int v_sort, .int v_value, .int v_fault, .int v_wrongAt, .int v_moved, .int v_slipTicks, .int v_bestCode, .int v_bestMuch, .long v_straightSum, .long v_movedSum, .long v_allWays, .ref a_wereAt, .ref a_byPlace, .ref a_lanes, .ref a_sizes, .ref a_cells, .int v_torn, .ref a_before])), (a_draft, .inl (cI, 56, .inl (upd v_draft (18 : Int32).toNatClampNeg (1 : Int32))))] := hD
      refine lv_aload_n C.1 C.2.1 dX7_firstDraft_29 rfl (lv_at hl 0 rfl) ?_
      refine lv_iconst (v := 0) C.1 C.2.1 dX7_firstDraft_30 (by decide) ?_
      refine pf_7_7_hasSigns C hK hP hD hS 0 rfl rfl (by decide) dX7_firstDraft_31 (fun H locs hP hD hS => ?_)
      have hP : va_P D vwCl [(a_this, .inr (7, [.ref a_st, .ref a_now, .ref a_isKept, .ref a_draft, .int (0 : Int32), .int v_hasEvery, .ref a_tape, .int v_taped, .int v_pos, .int v_begun, .int v_sort, .int v_value, .int v_fault, .int v_wrongAt, .int v_moved, .int v_slipTicks, .int v_bestCode, .int v_bestMuch, .long v_straightSum, .long v_movedSum, .long v_allWays, .ref a_wereAt, .ref a_byPlace, .ref a_lanes, .ref a_sizes, .ref a_cells, .int v_torn, .ref a_before])), (a_draft, .inl (cI, 56, .inl (upd v_draft (18 : Int32).toNatClampNeg (1 : Int32))))] H := hP
      have hD : va_D A [(a_this, .inr (7, [.ref a_st, .ref a_now, .ref a_isKept, .ref a_draft, .int (0 : Int32), .int v_hasEvery, .ref a_tape, .int v_taped, .int v_pos, .int v_begun, .int v_sort, .int v_value, .int v_fault, .int v_wrongAt, .int v_moved, .int v_slipTicks, .int v_bestCode, .int v_bestMuch, .long v_straightSum, .long v_movedSum, .long v_allWays, .ref a_wereAt, .ref a_byPlace, .ref a_lanes, .ref a_sizes, .ref a_cells, .int v_torn, .ref a_before])), (a_draft, .inl (cI, 56, .inl (upd v_draft (18 : Int32).toNatClampNeg (1 : Int32))))] := hD
      refine lv_aload_n C.1 C.2.1 dX7_firstDraft_34 rfl (lv_at hl 0 rfl) ?_
      refine lv_iconst (v := 0) C.1 C.2.1 dX7_firstDraft_35 (by decide) ?_
      refine pf_7_7_hasEvery C hK hP hD hS 0 rfl rfl (by decide) dX7_firstDraft_36 (fun H locs hP hD hS => ?_)
      have hP : va_P D vwCl [(a_this, .inr (7, [.ref a_st, .ref a_now, .ref a_isKept, .ref a_draft, .int (0 : Int32), .int (0 : Int32), .ref a_tape, .int v_taped, .int v_pos, .int v_begun, .int v_sort, .int v_value, .int v_fault, .int v_wrongAt, .int v_moved, .int v_slipTicks, .int v_bestCode, .int v_bestMuch, .long v_straightSum, .long v_movedSum, .long v_allWays, .ref a_wereAt, .ref a_byPlace, .ref a_lanes, .ref a_sizes, .ref a_cells, .int v_torn, .ref a_before])), (a_draft, .inl (cI, 56, .inl (upd v_draft (18 : Int32).toNatClampNeg (1 : Int32))))] H := hP
      have hD : va_D A [(a_this, .inr (7, [.ref a_st, .ref a_now, .ref a_isKept, .ref a_draft, .int (0 : Int32), .int (0 : Int32), .ref a_tape, .int v_taped, .int v_pos, .int v_begun, .int v_sort, .int v_value, .int v_fault, .int v_wrongAt, .int v_moved, .int v_slipTicks, .int v_bestCode, .int v_bestMuch, .long v_straightSum, .long v_movedSum, .long v_allWays, .ref a_wereAt, .ref a_byPlace, .ref a_lanes, .ref a_sizes, .ref a_cells, .int v_torn, .ref a_before])), (a_draft, .inl (cI, 56, .inl (upd v_draft (18 : Int32).toNatClampNeg (1 : Int32))))] := hD
      have hF := Option.some.inj hF
      subst hF
      exact retV C hr hlk hP hD hS dX7_firstDraft_39
    · have hF := fn hF c1
      refine lv_aload_n C.1 C.2.1 dX7_firstDraft_8 rfl (lv_at hl 0 rfl) ?_
      refine gf_7_7_draft C hK hP 0 rfl rfl dX7_firstDraft_9 ?_
      refine lv_iload_n C.1 C.2.1 dX7_firstDraft_12 rfl (lv_at hl 1 rfl) ?_
      refine lv_iconst (v := 0) C.1 C.2.1 dX7_firstDraft_13 (by decide) ?_
      obtain ⟨h3, hF⟩ := fk hF
      refine va_iast C.1 C.2.1 hK.1 hP hD hS 1 0 rfl rfl h3 dX7_firstDraft_14 (fun H locs hP hD hS => ?_)
      have hP : va_P D vwCl [(a_this, .inr (7, [.ref a_st, .ref a_now, .ref a_isKept, .ref a_draft, .int v_hasSigns, .int v_hasEvery, .ref a_tape, .int v_taped, .int v_pos, .int v_begun, .int v_sort, .int v_value, .int v_fault, .int v_wrongAt, .int v_moved, .int v_slipTicks, .int v_bestCode, .int v_bestMuch, .long v_straightSum, .long v_movedSum, .long v_allWays, .ref a_wereAt, .ref a_byPlace, .ref a_lanes, .ref a_sizes, .ref a_cells, .int v_torn, .ref a_before])), (a_draft, .inl (cI, 56, .inl (upd v_draft x1.toNatClampNeg (0 : Int32))))] H := hP
      have hD : va_D A [(a_this, .inr (7, [.ref a_st, .ref a_now, .ref a_isKept, .ref a_draft, .int v_hasSigns, .int v_hasEvery, .ref a_tape, .int v_taped, .int v_pos, .int v_begun, .int v_sort, .int v_value, .int v_fault, .int v_wrongAt, .int v_moved, .int v_slipTicks, .int v_bestCode, .int v_bestMuch, .long v_straightSum, .long v_movedSum, .long v_allWays, .ref a_wereAt, .ref a_byPlace, .ref a_lanes, .ref a_sizes, .ref a_cells, .int v_torn, .ref a_before])), (a_draft, .inl (cI, 56, .inl (upd v_draft x1.toNatClampNeg (0 : Int32))))] := hD
      refine lv_iinc (v := x1 + 1) (lv' := [(1, .int (x1 + 1)), (0, .ref a_this)]) C.1 C.2.1 dX7_firstDraft_15 hl (k := 1) rfl rfl (by decide) rfl (fun ls hl => ?_)
      refine lv_goto (tgt := 2) C.1 C.2.1 dX7_firstDraft_18 (by decide) ?_
      exact ih v_hasSigns v_hasEvery (upd v_draft x1.toNatClampNeg (0 : Int32)) (x1 + 1) _ _ _ hF hP hD hS (lv_sub hl [1, 0] rfl)
set_option maxHeartbeats 4000000 in
set_option maxRecDepth 100000 in
theorem c0_X7_firstDraft {l : Launch} {D : va_G} {cI cB cZ cR cM cS : ClassId} {a_this : Nat} {a_st : Nat} {a_now : Nat} {a_isKept : Nat} {a_draft : Nat} {a_tape : Nat} {a_wereAt : Nat} {a_byPlace : Nat} {a_lanes : Nat} {a_sizes : Nat} {a_cells : Nat} {a_before : Nat} {v_hasSigns : Int32} {v_hasEvery : Int32} {v_taped : Int32} {v_pos : Int32} {v_begun : Int32} {v_sort : Int32} {v_value : Int32} {v_fault : Int32} {v_wrongAt : Int32} {v_moved : Int32} {v_slipTicks : Int32} {v_bestCode : Int32} {v_bestMuch : Int32} {v_straightSum : Int64} {v_movedSum : Int64} {v_allWays : Int64} {v_torn : Int32} {v_draft : Nat → Int32} {res : Int32 × Int32 × (Nat → Int32)} (hF : F_X7_firstDraft v_hasSigns v_hasEvery v_draft = some res) : MV l yX7_firstDraft cX7_firstDraft 2 rm_X7_firstDraft D (TS cI cB cZ cR cM cS) [.ref a_this] [(a_this, .inr (7, [.ref a_st, .ref a_now, .ref a_isKept, .ref a_draft, .int v_hasSigns, .int v_hasEvery, .ref a_tape, .int v_taped, .int v_pos, .int v_begun, .int v_sort, .int v_value, .int v_fault, .int v_wrongAt, .int v_moved, .int v_slipTicks, .int v_bestCode, .int v_bestMuch, .long v_straightSum, .long v_movedSum, .long v_allWays, .ref a_wereAt, .ref a_byPlace, .ref a_lanes, .ref a_sizes, .ref a_cells, .int v_torn, .ref a_before])), (a_draft, .inl (cI, 56, .inl v_draft))] [(a_this, .inr (7, [.ref a_st, .ref a_now, .ref a_isKept, .ref a_draft, .int res.1, .int res.2.1, .ref a_tape, .int v_taped, .int v_pos, .int v_begun, .int v_sort, .int v_value, .int v_fault, .int v_wrongAt, .int v_moved, .int v_slipTicks, .int v_bestCode, .int v_bestMuch, .long v_straightSum, .long v_movedSum, .long v_allWays, .ref a_wereAt, .ref a_byPlace, .ref a_lanes, .ref a_sizes, .ref a_cells, .int v_torn, .ref a_before])), (a_draft, .inl (cI, 56, .inl res.2.2))] :=
  MV_of (by decide) (Nat.le_of_ble_eq_true rfl) (fun p e s m args below meth c A ls C hr hlk hK hA hP hD hS hl => by
    have C : CX p m c cX7_firstDraft 2 s args RX7 := C
    have hl : lv_has ls 2 [(0, .ref a_this)] := hl
    unfold F_X7_firstDraft at hF
    refine lv_iconst (v := 0) C.1 C.2.1 dX7_firstDraft_0 (by decide) ?_
    refine lv_istore_n (lv' := [(1, .int (0 : Int32)), (0, .ref a_this)]) C.1 C.2.1 dX7_firstDraft_1 rfl hl (by decide) rfl (fun ls hl => ?_)
    exact b_X7_firstDraft_2 C hr hlk hK hA FU v_hasSigns v_hasEvery v_draft (0 : Int32) _ _ _ hF hP hD hS (lv_sub hl [1, 0] rfl))
theorem c_X7_firstDraft {l : Launch} {D : va_G} {cI cB cZ cR cM cS : ClassId} {a_this : Nat} {a_st : Nat} {a_now : Nat} {a_isKept : Nat} {a_draft : Nat} {a_tape : Nat} {a_wereAt : Nat} {a_byPlace : Nat} {a_lanes : Nat} {a_sizes : Nat} {a_cells : Nat} {a_before : Nat} {v_hasSigns : Int32} {v_hasEvery : Int32} {v_taped : Int32} {v_pos : Int32} {v_begun : Int32} {v_sort : Int32} {v_value : Int32} {v_fault : Int32} {v_wrongAt : Int32} {v_moved : Int32} {v_slipTicks : Int32} {v_bestCode : Int32} {v_bestMuch : Int32} {v_straightSum : Int64} {v_movedSum : Int64} {v_allWays : Int64} {v_torn : Int32} {v_draft : Nat → Int32} {v_hasSigns' : Int32} {v_hasEvery' : Int32} {v_draft' : Nat → Int32} (hF : F_X7_firstDraft v_hasSigns v_hasEvery v_draft = some (v_hasSigns', v_hasEvery', v_draft')) : MV l yX7_firstDraft cX7_firstDraft 2 rm_X7_firstDraft D (TS cI cB cZ cR cM cS) [.ref a_this] [(a_this, .inr (7, [.ref a_st, .ref a_now, .ref a_isKept, .ref a_draft, .int v_hasSigns, .int v_hasEvery, .ref a_tape, .int v_taped, .int v_pos, .int v_begun, .int v_sort, .int v_value, .int v_fault, .int v_wrongAt, .int v_moved, .int v_slipTicks, .int v_bestCode, .int v_bestMuch, .long v_straightSum, .long v_movedSum, .long v_allWays, .ref a_wereAt, .ref a_byPlace, .ref a_lanes, .ref a_sizes, .ref a_cells, .int v_torn, .ref a_before])), (a_draft, .inl (cI, 56, .inl v_draft))] [(a_this, .inr (7, [.ref a_st, .ref a_now, .ref a_isKept, .ref a_draft, .int v_hasSigns', .int v_hasEvery', .ref a_tape, .int v_taped, .int v_pos, .int v_begun, .int v_sort, .int v_value, .int v_fault, .int v_wrongAt, .int v_moved, .int v_slipTicks, .int v_bestCode, .int v_bestMuch, .long v_straightSum, .long v_movedSum, .long v_allWays, .ref a_wereAt, .ref a_byPlace, .ref a_lanes, .ref a_sizes, .ref a_cells, .int v_torn, .ref a_before])), (a_draft, .inl (cI, 56, .inl v_draft'))] :=
  c0_X7_firstDraft (res := (v_hasSigns', v_hasEvery', v_draft')) hF
def rm_X7_keepDraft : Room := { frames := 0, cells := 0, slots := 0, locals := 0 }
theorem cv_X7_keepDraft : CV yX7_keepDraft cX7_keepDraft 2 none rm_X7_keepDraft RX7 0 := ⟨kw3_223, kwp_25, kw1_8, kw3_224, by decide +kernel, rfl, rfl⟩
set_option maxHeartbeats 4000000 in
set_option maxRecDepth 100000 in
theorem b_X7_keepDraft_2 {l : Launch} {D : va_G} {cI cB cZ cR cM cS : ClassId} {a_this : Nat} {a_st : Nat} {a_now : Nat} {a_isKept : Nat} {a_draft : Nat} {a_tape : Nat} {a_wereAt : Nat} {a_byPlace : Nat} {a_lanes : Nat} {a_sizes : Nat} {a_cells : Nat} {a_before : Nat} {v_hasSigns : Int32} {v_hasEvery : Int32} {v_taped : Int32} {v_pos : Int32} {v_begun : Int32} {v_sort : Int32} {v_value : Int32} {v_fault : Int32} {v_wrongAt : Int32} {v_moved : Int32} {v_slipTicks : Int32} {v_bestCode : Int32} {v_bestMuch : Int32} {v_straightSum : Int64} {v_movedSum : Int64} {v_allWays : Int64} {v_torn : Int32} {p : Program} {e : Env} {s : State} {m : MethodId} {args : Array Value} {below : List Frame} {meth : Method} {c : Code} {A : Nat → Prop} {res : (Nat → Int32) × (Nat → Int32)} (C : CX p m c cX7_keepDraft 2 s args RX7) (hr : meth.sig.returnType = none) (hlk : meth.locks = false) (hK : KK D (TS cI cB cZ cR cM cS) s) (hA : ∀ q, s.heap.size ≤ q → A q) : ∀ (fu : Nat) (v_st : Nat → Int32) (v_isKept : Nat → Int32) (v_draft : Nat → Int32) (x1 : Int32) (H : Heap) (locs : List Loc) (ls : Array Slot), F_X7_keepDraft_2 fu v_st v_isKept v_draft x1 = some res → va_P D vwCl [(a_this, .inr (7, [.ref a_st, .ref a_now, .ref a_isKept, .ref a_draft, .int v_hasSigns, .int v_hasEvery, .ref a_tape, .int v_taped, .int v_pos, .int v_begun, .int v_sort, .int v_value, .int v_fault, .int v_wrongAt, .int v_moved, .int v_slipTicks, .int v_bestCode, .int v_bestMuch, .long v_straightSum, .long v_movedSum, .long v_allWays, .ref a_wereAt, .ref a_byPlace, .ref a_lanes, .ref a_sizes, .ref a_cells, .int v_torn, .ref a_before])), (a_st, .inl (cI, 168, .inl v_st)), (a_isKept, .inl (cZ, 2, .inl v_isKept)), (a_draft, .inl (cI, 56, .inl v_draft))] H → va_D A [(a_this, .inr (7, [.ref a_st, .ref a_now, .ref a_isKept, .ref a_draft, .int v_hasSigns, .int v_hasEvery, .ref a_tape, .int v_taped, .int v_pos, .int v_begun, .int v_sort, .int v_value, .int v_fault, .int v_wrongAt, .int v_moved, .int v_slipTicks, .int v_bestCode, .int v_bestMuch, .long v_straightSum, .long v_movedSum, .long v_allWays, .ref a_wereAt, .ref a_byPlace, .ref a_lanes, .ref a_sizes, .ref a_cells, .int v_torn, .ref a_before])), (a_st, .inl (cI, 168, .inl v_st)), (a_isKept, .inl (cZ, 2, .inl v_isKept)), (a_draft, .inl (cI, 56, .inl v_draft))] → va_S A s.heap H locs → lv_has ls 2 [(0, .ref a_this), (1, .int x1)] → W p l e rm_X7_keepDraft s m args below meth c H locs 0 0 (MQ below (va_Qv (fun (_ : Unit) => True) (BW D A [(a_this, .inr (7, [.ref a_st, .ref a_now, .ref a_isKept, .ref a_draft, .int v_hasSigns, .int v_hasEvery, .ref a_tape, .int v_taped, .int v_pos, .int v_begun, .int v_sort, .int v_value, .int v_fault, .int v_wrongAt, .int v_moved, .int v_slipTicks, .int v_bestCode, .int v_bestMuch, .long v_straightSum, .long v_movedSum, .long v_allWays, .ref a_wereAt, .ref a_byPlace, .ref a_lanes, .ref a_sizes, .ref a_cells, .int v_torn, .ref a_before])), (a_st, .inl (cI, 168, .inl res.1)), (a_isKept, .inl (cZ, 2, .inl res.2)), (a_draft, .inl (cI, 56, .inl v_draft))]) A) args s 0 0 A) (F0 m 2 ls []) := by
  intro fu
  induction fu with
  | zero => intro v_st v_isKept v_draft x1 H locs ls hF; cases hF
  | succ fu ih =>
    intro v_st v_isKept v_draft x1 H locs ls hF  hP hD hS hl
    unfold F_X7_keepDraft_2 at hF
    refine lv_iload_n C.1 C.2.1 dX7_keepDraft_2 rfl (lv_at hl 1 rfl) ?_
    refine lv_bipush (v := 56) C.1 C.2.1 dX7_keepDraft_3 (by decide) ?_
    refine lv_icmp_ge (tgt := 26) C.1 C.2.1 dX7_keepDraft_5 (by decide) (fun c1 => ?_) (fun c1 => ?_)
    · have hF := fp hF c1
      refine lv_aload_n C.1 C.2.1 dX7_keepDraft_26 rfl (lv_at hl 0 rfl) ?_
      refine gf_7_7_isKept C hK hP 0 rfl rfl dX7_keepDraft_27 ?_
      refine lv_iconst (v := 0) C.1 C.2.1 dX7_keepDraft_30 (by decide) ?_
      refine lv_iconst (v := 0) C.1 C.2.1 dX7_keepDraft_31 (by decide) ?_
      obtain ⟨h2, hF⟩ := fk hF
      refine va_zast C.1 C.2.1 hK.1 hP hD hS 2 2 rfl rfl h2 dX7_keepDraft_32 (fun H locs hP hD hS => ?_)
      have hP : va_P D vwCl [(a_this, .inr (7, [.ref a_st, .ref a_now, .ref a_isKept, .ref a_draft, .int v_hasSigns, .int v_hasEvery, .ref a_tape, .int v_taped, .int v_pos, .int v_begun, .int v_sort, .int v_value, .int v_fault, .int v_wrongAt, .int v_moved, .int v_slipTicks, .int v_bestCode, .int v_bestMuch, .long v_straightSum, .long v_movedSum, .long v_allWays, .ref a_wereAt, .ref a_byPlace, .ref a_lanes, .ref a_sizes, .ref a_cells, .int v_torn, .ref a_before])), (a_st, .inl (cI, 168, .inl v_st)), (a_isKept, .inl (cZ, 2, .inl (upd v_isKept (0 : Int32).toNatClampNeg (vp_nar .boolean (0 : Int32))))), (a_draft, .inl (cI, 56, .inl v_draft))] H := hP
      have hD : va_D A [(a_this, .inr (7, [.ref a_st, .ref a_now, .ref a_isKept, .ref a_draft, .int v_hasSigns, .int v_hasEvery, .ref a_tape, .int v_taped, .int v_pos, .int v_begun, .int v_sort, .int v_value, .int v_fault, .int v_wrongAt, .int v_moved, .int v_slipTicks, .int v_bestCode, .int v_bestMuch, .long v_straightSum, .long v_movedSum, .long v_allWays, .ref a_wereAt, .ref a_byPlace, .ref a_lanes, .ref a_sizes, .ref a_cells, .int v_torn, .ref a_before])), (a_st, .inl (cI, 168, .inl v_st)), (a_isKept, .inl (cZ, 2, .inl (upd v_isKept (0 : Int32).toNatClampNeg (vp_nar .boolean (0 : Int32))))), (a_draft, .inl (cI, 56, .inl v_draft))] := hD
      refine lv_aload_n C.1 C.2.1 dX7_keepDraft_33 rfl (lv_at hl 0 rfl) ?_
      refine gf_7_7_isKept C hK hP 0 rfl rfl dX7_keepDraft_34 ?_
      refine lv_iconst (v := 1) C.1 C.2.1 dX7_keepDraft_37 (by decide) ?_
      refine lv_iconst (v := 0) C.1 C.2.1 dX7_keepDraft_38 (by decide) ?_
      obtain ⟨h3, hF⟩ := fk hF
      refine va_zast C.1 C.2.1 hK.1 hP hD hS 2 2 rfl rfl h3 dX7_keepDraft_39 (fun H locs hP hD hS => ?_)
      have hP : va_P D vwCl [(a_this, .inr (7, [.ref a_st, .ref a_now, .ref a_isKept, .ref a_draft, .int v_hasSigns, .int v_hasEvery, .ref a_tape, .int v_taped, .int v_pos, .int v_begun, .int v_sort, .int v_value, .int v_fault, .int v_wrongAt, .int v_moved, .int v_slipTicks, .int v_bestCode, .int v_bestMuch, .long v_straightSum, .long v_movedSum, .long v_allWays, .ref a_wereAt, .ref a_byPlace, .ref a_lanes, .ref a_sizes, .ref a_cells, .int v_torn, .ref a_before])), (a_st, .inl (cI, 168, .inl v_st)), (a_isKept, .inl (cZ, 2, .inl (upd (upd v_isKept (0 : Int32).toNatClampNeg (vp_nar .boolean (0 : Int32))) (1 : Int32).toNatClampNeg (vp_nar .boolean (0 : Int32))))), (a_draft, .inl (cI, 56, .inl v_draft))] H := hP
      have hD : va_D A [(a_this, .inr (7, [.ref a_st, .ref a_now, .ref a_isKept, .ref a_draft, .int v_hasSigns, .int v_hasEvery, .ref a_tape, .int v_taped, .int v_pos, .int v_begun, .int v_sort, .int v_value, .int v_fault, .int v_wrongAt, .int v_moved, .int v_slipTicks, .int v_bestCode, .int v_bestMuch, .long v_straightSum, .long v_movedSum, .long v_allWays, .ref a_wereAt, .ref a_byPlace, .ref a_lanes, .ref a_sizes, .ref a_cells, .int v_torn, .ref a_before])), (a_st, .inl (cI, 168, .inl v_st)), (a_isKept, .inl (cZ, 2, .inl (upd (upd v_isKept (0 : Int32).toNatClampNeg (vp_nar .boolean (0 : Int32))) (1 : Int32).toNatClampNeg (vp_nar .boolean (0 : Int32))))), (a_draft, .inl (cI, 56, .inl v_draft))] := hD
      have hF := Option.some.inj hF
      subst hF
      exact retV C hr hlk hP hD hS dX7_keepDraft_40
    · have hF := fn hF c1
      refine lv_aload_n C.1 C.2.1 dX7_keepDraft_8 rfl (lv_at hl 0 rfl) ?_
      refine gf_7_7_st C hK hP 0 rfl rfl dX7_keepDraft_9 ?_
      refine lv_iload_n C.1 C.2.1 dX7_keepDraft_12 rfl (lv_at hl 1 rfl) ?_
      refine lv_aload_n C.1 C.2.1 dX7_keepDraft_13 rfl (lv_at hl 0 rfl) ?_
      refine gf_7_7_draft C hK hP 0 rfl rfl dX7_keepDraft_14 ?_
      refine lv_iload_n C.1 C.2.1 dX7_keepDraft_17 rfl (lv_at hl 1 rfl) ?_
      obtain ⟨h4, hF⟩ := fk hF
      refine va_iald C.1 C.2.1 hK.1 hP 3 0 rfl rfl h4 dX7_keepDraft_18 ?_
      obtain ⟨h5, hF⟩ := fk hF
      refine va_iast C.1 C.2.1 hK.1 hP hD hS 1 0 rfl rfl h5 dX7_keepDraft_19 (fun H locs hP hD hS => ?_)
      have hP : va_P D vwCl [(a_this, .inr (7, [.ref a_st, .ref a_now, .ref a_isKept, .ref a_draft, .int v_hasSigns, .int v_hasEvery, .ref a_tape, .int v_taped, .int v_pos, .int v_begun, .int v_sort, .int v_value, .int v_fault, .int v_wrongAt, .int v_moved, .int v_slipTicks, .int v_bestCode, .int v_bestMuch, .long v_straightSum, .long v_movedSum, .long v_allWays, .ref a_wereAt, .ref a_byPlace, .ref a_lanes, .ref a_sizes, .ref a_cells, .int v_torn, .ref a_before])), (a_st, .inl (cI, 168, .inl (upd v_st x1.toNatClampNeg (v_draft x1.toNatClampNeg)))), (a_isKept, .inl (cZ, 2, .inl v_isKept)), (a_draft, .inl (cI, 56, .inl v_draft))] H := hP
      have hD : va_D A [(a_this, .inr (7, [.ref a_st, .ref a_now, .ref a_isKept, .ref a_draft, .int v_hasSigns, .int v_hasEvery, .ref a_tape, .int v_taped, .int v_pos, .int v_begun, .int v_sort, .int v_value, .int v_fault, .int v_wrongAt, .int v_moved, .int v_slipTicks, .int v_bestCode, .int v_bestMuch, .long v_straightSum, .long v_movedSum, .long v_allWays, .ref a_wereAt, .ref a_byPlace, .ref a_lanes, .ref a_sizes, .ref a_cells, .int v_torn, .ref a_before])), (a_st, .inl (cI, 168, .inl (upd v_st x1.toNatClampNeg (v_draft x1.toNatClampNeg)))), (a_isKept, .inl (cZ, 2, .inl v_isKept)), (a_draft, .inl (cI, 56, .inl v_draft))] := hD
      refine lv_iinc (v := x1 + 1) (lv' := [(1, .int (x1 + 1)), (0, .ref a_this)]) C.1 C.2.1 dX7_keepDraft_20 hl (k := 1) rfl rfl (by decide) rfl (fun ls hl => ?_)
      refine lv_goto (tgt := 2) C.1 C.2.1 dX7_keepDraft_23 (by decide) ?_
      exact ih (upd v_st x1.toNatClampNeg (v_draft x1.toNatClampNeg)) v_isKept v_draft (x1 + 1) _ _ _ hF hP hD hS (lv_sub hl [1, 0] rfl)
set_option maxHeartbeats 4000000 in
set_option maxRecDepth 100000 in
theorem c0_X7_keepDraft {l : Launch} {D : va_G} {cI cB cZ cR cM cS : ClassId} {a_this : Nat} {a_st : Nat} {a_now : Nat} {a_isKept : Nat} {a_draft : Nat} {a_tape : Nat} {a_wereAt : Nat} {a_byPlace : Nat} {a_lanes : Nat} {a_sizes : Nat} {a_cells : Nat} {a_before : Nat} {v_hasSigns : Int32} {v_hasEvery : Int32} {v_taped : Int32} {v_pos : Int32} {v_begun : Int32} {v_sort : Int32} {v_value : Int32} {v_fault : Int32} {v_wrongAt : Int32} {v_moved : Int32} {v_slipTicks : Int32} {v_bestCode : Int32} {v_bestMuch : Int32} {v_straightSum : Int64} {v_movedSum : Int64} {v_allWays : Int64} {v_torn : Int32} {v_st : Nat → Int32} {v_isKept : Nat → Int32} {v_draft : Nat → Int32} {res : (Nat → Int32) × (Nat → Int32)} (hF : F_X7_keepDraft v_st v_isKept v_draft = some res) : MV l yX7_keepDraft cX7_keepDraft 2 rm_X7_keepDraft D (TS cI cB cZ cR cM cS) [.ref a_this] [(a_this, .inr (7, [.ref a_st, .ref a_now, .ref a_isKept, .ref a_draft, .int v_hasSigns, .int v_hasEvery, .ref a_tape, .int v_taped, .int v_pos, .int v_begun, .int v_sort, .int v_value, .int v_fault, .int v_wrongAt, .int v_moved, .int v_slipTicks, .int v_bestCode, .int v_bestMuch, .long v_straightSum, .long v_movedSum, .long v_allWays, .ref a_wereAt, .ref a_byPlace, .ref a_lanes, .ref a_sizes, .ref a_cells, .int v_torn, .ref a_before])), (a_st, .inl (cI, 168, .inl v_st)), (a_isKept, .inl (cZ, 2, .inl v_isKept)), (a_draft, .inl (cI, 56, .inl v_draft))] [(a_this, .inr (7, [.ref a_st, .ref a_now, .ref a_isKept, .ref a_draft, .int v_hasSigns, .int v_hasEvery, .ref a_tape, .int v_taped, .int v_pos, .int v_begun, .int v_sort, .int v_value, .int v_fault, .int v_wrongAt, .int v_moved, .int v_slipTicks, .int v_bestCode, .int v_bestMuch, .long v_straightSum, .long v_movedSum, .long v_allWays, .ref a_wereAt, .ref a_byPlace, .ref a_lanes, .ref a_sizes, .ref a_cells, .int v_torn, .ref a_before])), (a_st, .inl (cI, 168, .inl res.1)), (a_isKept, .inl (cZ, 2, .inl res.2)), (a_draft, .inl (cI, 56, .inl v_draft))] :=
  MV_of (by decide) (Nat.le_of_ble_eq_true rfl) (fun p e s m args below meth c A ls C hr hlk hK hA hP hD hS hl => by
    have C : CX p m c cX7_keepDraft 2 s args RX7 := C
    have hl : lv_has ls 2 [(0, .ref a_this)] := hl
    unfold F_X7_keepDraft at hF
    refine lv_iconst (v := 0) C.1 C.2.1 dX7_keepDraft_0 (by decide) ?_
    refine lv_istore_n (lv' := [(1, .int (0 : Int32)), (0, .ref a_this)]) C.1 C.2.1 dX7_keepDraft_1 rfl hl (by decide) rfl (fun ls hl => ?_)
    exact b_X7_keepDraft_2 C hr hlk hK hA FU v_st v_isKept v_draft (0 : Int32) _ _ _ hF hP hD hS (lv_sub hl [1, 0] rfl))
theorem c_X7_keepDraft {l : Launch} {D : va_G} {cI cB cZ cR cM cS : ClassId} {a_this : Nat} {a_st : Nat} {a_now : Nat} {a_isKept : Nat} {a_draft : Nat} {a_tape : Nat} {a_wereAt : Nat} {a_byPlace : Nat} {a_lanes : Nat} {a_sizes : Nat} {a_cells : Nat} {a_before : Nat} {v_hasSigns : Int32} {v_hasEvery : Int32} {v_taped : Int32} {v_pos : Int32} {v_begun : Int32} {v_sort : Int32} {v_value : Int32} {v_fault : Int32} {v_wrongAt : Int32} {v_moved : Int32} {v_slipTicks : Int32} {v_bestCode : Int32} {v_bestMuch : Int32} {v_straightSum : Int64} {v_movedSum : Int64} {v_allWays : Int64} {v_torn : Int32} {v_st : Nat → Int32} {v_isKept : Nat → Int32} {v_draft : Nat → Int32} {v_st' : Nat → Int32} {v_isKept' : Nat → Int32} (hF : F_X7_keepDraft v_st v_isKept v_draft = some (v_st', v_isKept')) : MV l yX7_keepDraft cX7_keepDraft 2 rm_X7_keepDraft D (TS cI cB cZ cR cM cS) [.ref a_this] [(a_this, .inr (7, [.ref a_st, .ref a_now, .ref a_isKept, .ref a_draft, .int v_hasSigns, .int v_hasEvery, .ref a_tape, .int v_taped, .int v_pos, .int v_begun, .int v_sort, .int v_value, .int v_fault, .int v_wrongAt, .int v_moved, .int v_slipTicks, .int v_bestCode, .int v_bestMuch, .long v_straightSum, .long v_movedSum, .long v_allWays, .ref a_wereAt, .ref a_byPlace, .ref a_lanes, .ref a_sizes, .ref a_cells, .int v_torn, .ref a_before])), (a_st, .inl (cI, 168, .inl v_st)), (a_isKept, .inl (cZ, 2, .inl v_isKept)), (a_draft, .inl (cI, 56, .inl v_draft))] [(a_this, .inr (7, [.ref a_st, .ref a_now, .ref a_isKept, .ref a_draft, .int v_hasSigns, .int v_hasEvery, .ref a_tape, .int v_taped, .int v_pos, .int v_begun, .int v_sort, .int v_value, .int v_fault, .int v_wrongAt, .int v_moved, .int v_slipTicks, .int v_bestCode, .int v_bestMuch, .long v_straightSum, .long v_movedSum, .long v_allWays, .ref a_wereAt, .ref a_byPlace, .ref a_lanes, .ref a_sizes, .ref a_cells, .int v_torn, .ref a_before])), (a_st, .inl (cI, 168, .inl v_st')), (a_isKept, .inl (cZ, 2, .inl v_isKept')), (a_draft, .inl (cI, 56, .inl v_draft))] :=
  c0_X7_keepDraft (res := (v_st', v_isKept')) hF
def rm_X7_feed : Room := { frames := 1, cells := 0, slots := 0, locals := 25 }
theorem cv_X7_feed : CV yX7_feed cX7_feed 2 (some .int) rm_X7_feed RX7 1 := ⟨kw4_72, kw4_73, kw1_8, kw4_74, by decide +kernel, rfl, rfl⟩
set_option maxHeartbeats 4000000 in
set_option maxRecDepth 100000 in
theorem c0_X7_feed {l : Launch} {D : va_G} {cI cB cZ cR cM cS : ClassId} {a_this : Nat} {a_st : Nat} {a_now : Nat} {a_isKept : Nat} {a_draft : Nat} {a_tape : Nat} {a_wereAt : Nat} {a_byPlace : Nat} {a_lanes : Nat} {a_sizes : Nat} {a_cells : Nat} {a_before : Nat} {v_hasSigns : Int32} {v_hasEvery : Int32} {v_taped : Int32} {v_pos : Int32} {v_begun : Int32} {v_sort : Int32} {v_value : Int32} {v_fault : Int32} {v_wrongAt : Int32} {v_moved : Int32} {v_slipTicks : Int32} {v_bestCode : Int32} {v_bestMuch : Int32} {v_straightSum : Int64} {v_movedSum : Int64} {v_allWays : Int64} {v_torn : Int32} {v_tape : Nat → Int32} {x1 : Int32} {res : Int32 × Int32 × (Nat → Int32)} (hF : F_X7_feed v_taped v_tape x1 = some res) : MI l yX7_feed cX7_feed 2 .int rm_X7_feed D (TS cI cB cZ cR cM cS) [.ref a_this, .int x1] [(a_this, .inr (7, [.ref a_st, .ref a_now, .ref a_isKept, .ref a_draft, .int v_hasSigns, .int v_hasEvery, .ref a_tape, .int v_taped, .int v_pos, .int v_begun, .int v_sort, .int v_value, .int v_fault, .int v_wrongAt, .int v_moved, .int v_slipTicks, .int v_bestCode, .int v_bestMuch, .long v_straightSum, .long v_movedSum, .long v_allWays, .ref a_wereAt, .ref a_byPlace, .ref a_lanes, .ref a_sizes, .ref a_cells, .int v_torn, .ref a_before])), (a_tape, .inl (cI, 160, .inl v_tape))] [(a_this, .inr (7, [.ref a_st, .ref a_now, .ref a_isKept, .ref a_draft, .int v_hasSigns, .int v_hasEvery, .ref a_tape, .int res.2.1, .int v_pos, .int v_begun, .int v_sort, .int v_value, .int v_fault, .int v_wrongAt, .int v_moved, .int v_slipTicks, .int v_bestCode, .int v_bestMuch, .long v_straightSum, .long v_movedSum, .long v_allWays, .ref a_wereAt, .ref a_byPlace, .ref a_lanes, .ref a_sizes, .ref a_cells, .int v_torn, .ref a_before])), (a_tape, .inl (cI, 160, .inl res.2.2))] res.1 :=
  MI_of (by decide) (Nat.le_of_ble_eq_true rfl) (fun p e s m args below meth c A ls C hr hlk hK hA hP hD hS hl => by
    have C : CX p m c cX7_feed 2 s args RX7 := C
    have hl : lv_has ls 2 [(0, .ref a_this), (1, .int x1)] := hl
    unfold F_X7_feed at hF
    refine lv_iload_n C.1 C.2.1 dX7_feed_0 rfl (lv_at hl 1 rfl) ?_
    refine lv_i2l (v := x1.toInt64) C.1 C.2.1 dX7_feed_1 rfl ?_
    refine lv_lconst (v := 0) C.1 C.2.1 dX7_feed_2 rfl ?_
    refine lv_ldc2 (v := 127) C.1 C.2.1 C.2.2.2.1 (C.2.2.2.2 _ kw4_75) dX7_feed_3 ?_
    obtain ⟨r1, h2, hF⟩ := fb hF
    refine callSI C hK hA hP hD hS (c_X7_in  h2) cs_X7_in kw4_76 ⟨Nat.le_of_ble_eq_true rfl, Nat.le_of_ble_eq_true rfl⟩ ⟨Nat.zero_le _, Nat.zero_le _⟩ hl.1 rfl (Nat.le_of_ble_eq_true rfl) dX7_feed_6 (fun H locs hP hD hS => ?_)
    refine lv_if_ne (tgt := 14) C.1 C.2.1 dX7_feed_9 (by decide) (fun c3 => ?_) (fun c3 => ?_)
    · have hF := fn hF c3
      refine lv_aload_n C.1 C.2.1 dX7_feed_14 rfl (lv_at hl 0 rfl) ?_
      refine gf_7_7_taped C hK hP 0 rfl rfl dX7_feed_15 ?_
      refine lv_sipush (v := 160) C.1 C.2.1 dX7_feed_18 (by decide) ?_
      refine lv_icmp_ne (tgt := 27) C.1 C.2.1 dX7_feed_21 (by decide) (fun c4 => ?_) (fun c4 => ?_)
      · have hF := fn hF c4
        refine lv_aload_n C.1 C.2.1 dX7_feed_27 rfl (lv_at hl 0 rfl) ?_
        refine gf_7_7_tape C hK hP 0 rfl rfl dX7_feed_28 ?_
        refine lv_aload_n C.1 C.2.1 dX7_feed_31 rfl (lv_at hl 0 rfl) ?_
        refine gf_7_7_taped C hK hP 0 rfl rfl dX7_feed_32 ?_
        refine lv_iload_n C.1 C.2.1 dX7_feed_35 rfl (lv_at hl 1 rfl) ?_
        obtain ⟨h5, hF⟩ := fk hF
        refine va_iast C.1 C.2.1 hK.1 hP hD hS 1 0 rfl rfl h5 dX7_feed_36 (fun H locs hP hD hS => ?_)
        have hP : va_P D vwCl [(a_this, .inr (7, [.ref a_st, .ref a_now, .ref a_isKept, .ref a_draft, .int v_hasSigns, .int v_hasEvery, .ref a_tape, .int v_taped, .int v_pos, .int v_begun, .int v_sort, .int v_value, .int v_fault, .int v_wrongAt, .int v_moved, .int v_slipTicks, .int v_bestCode, .int v_bestMuch, .long v_straightSum, .long v_movedSum, .long v_allWays, .ref a_wereAt, .ref a_byPlace, .ref a_lanes, .ref a_sizes, .ref a_cells, .int v_torn, .ref a_before])), (a_tape, .inl (cI, 160, .inl (upd v_tape v_taped.toNatClampNeg x1)))] H := hP
        have hD : va_D A [(a_this, .inr (7, [.ref a_st, .ref a_now, .ref a_isKept, .ref a_draft, .int v_hasSigns, .int v_hasEvery, .ref a_tape, .int v_taped, .int v_pos, .int v_begun, .int v_sort, .int v_value, .int v_fault, .int v_wrongAt, .int v_moved, .int v_slipTicks, .int v_bestCode, .int v_bestMuch, .long v_straightSum, .long v_movedSum, .long v_allWays, .ref a_wereAt, .ref a_byPlace, .ref a_lanes, .ref a_sizes, .ref a_cells, .int v_torn, .ref a_before])), (a_tape, .inl (cI, 160, .inl (upd v_tape v_taped.toNatClampNeg x1)))] := hD
        refine lv_aload_n C.1 C.2.1 dX7_feed_37 rfl (lv_at hl 0 rfl) ?_
        refine lv_dup C.1 C.2.1 dX7_feed_38 rfl ?_
        refine gf_7_7_taped C hK hP 0 rfl rfl dX7_feed_39 ?_
        refine lv_iconst (v := 1) C.1 C.2.1 dX7_feed_42 (by decide) ?_
        refine lv_iadd C.1 C.2.1 dX7_feed_43 ?_
        refine pf_7_7_taped C hK hP hD hS 0 rfl rfl dX7_feed_44 (fun H locs hP hD hS => ?_)
        have hP : va_P D vwCl [(a_this, .inr (7, [.ref a_st, .ref a_now, .ref a_isKept, .ref a_draft, .int v_hasSigns, .int v_hasEvery, .ref a_tape, .int (v_taped + (1 : Int32)), .int v_pos, .int v_begun, .int v_sort, .int v_value, .int v_fault, .int v_wrongAt, .int v_moved, .int v_slipTicks, .int v_bestCode, .int v_bestMuch, .long v_straightSum, .long v_movedSum, .long v_allWays, .ref a_wereAt, .ref a_byPlace, .ref a_lanes, .ref a_sizes, .ref a_cells, .int v_torn, .ref a_before])), (a_tape, .inl (cI, 160, .inl (upd v_tape v_taped.toNatClampNeg x1)))] H := hP
        have hD : va_D A [(a_this, .inr (7, [.ref a_st, .ref a_now, .ref a_isKept, .ref a_draft, .int v_hasSigns, .int v_hasEvery, .ref a_tape, .int (v_taped + (1 : Int32)), .int v_pos, .int v_begun, .int v_sort, .int v_value, .int v_fault, .int v_wrongAt, .int v_moved, .int v_slipTicks, .int v_bestCode, .int v_bestMuch, .long v_straightSum, .long v_movedSum, .long v_allWays, .ref a_wereAt, .ref a_byPlace, .ref a_lanes, .ref a_sizes, .ref a_cells, .int v_torn, .ref a_before])), (a_tape, .inl (cI, 160, .inl (upd v_tape v_taped.toNatClampNeg x1)))] := hD
        refine lv_aload_n C.1 C.2.1 dX7_feed_47 rfl (lv_at hl 0 rfl) ?_
        refine gf_7_7_taped C hK hP 0 rfl rfl dX7_feed_48 ?_
        have hF := Option.some.inj hF
        subst hF
        exact retI C hr hlk hP hD hS dX7_feed_51
      · have hF := fp hF c4
        refine lv_bipush (v := (-3)) C.1 C.2.1 dX7_feed_24 (by decide) ?_
        have hF := Option.some.inj hF
        subst hF
        exact retI C hr hlk hP hD hS dX7_feed_26
    · have hF := fp hF c3
      refine lv_iconst (v := (-1)) C.1 C.2.1 dX7_feed_12 (by decide) ?_
      have hF := Option.some.inj hF
      subst hF
      exact retI C hr hlk hP hD hS dX7_feed_13)
theorem c_X7_feed {l : Launch} {D : va_G} {cI cB cZ cR cM cS : ClassId} {a_this : Nat} {a_st : Nat} {a_now : Nat} {a_isKept : Nat} {a_draft : Nat} {a_tape : Nat} {a_wereAt : Nat} {a_byPlace : Nat} {a_lanes : Nat} {a_sizes : Nat} {a_cells : Nat} {a_before : Nat} {v_hasSigns : Int32} {v_hasEvery : Int32} {v_taped : Int32} {v_pos : Int32} {v_begun : Int32} {v_sort : Int32} {v_value : Int32} {v_fault : Int32} {v_wrongAt : Int32} {v_moved : Int32} {v_slipTicks : Int32} {v_bestCode : Int32} {v_bestMuch : Int32} {v_straightSum : Int64} {v_movedSum : Int64} {v_allWays : Int64} {v_torn : Int32} {v_tape : Nat → Int32} {x1 : Int32} {r_ : Int32} {v_taped' : Int32} {v_tape' : Nat → Int32} (hF : F_X7_feed v_taped v_tape x1 = some (r_, v_taped', v_tape')) : MI l yX7_feed cX7_feed 2 .int rm_X7_feed D (TS cI cB cZ cR cM cS) [.ref a_this, .int x1] [(a_this, .inr (7, [.ref a_st, .ref a_now, .ref a_isKept, .ref a_draft, .int v_hasSigns, .int v_hasEvery, .ref a_tape, .int v_taped, .int v_pos, .int v_begun, .int v_sort, .int v_value, .int v_fault, .int v_wrongAt, .int v_moved, .int v_slipTicks, .int v_bestCode, .int v_bestMuch, .long v_straightSum, .long v_movedSum, .long v_allWays, .ref a_wereAt, .ref a_byPlace, .ref a_lanes, .ref a_sizes, .ref a_cells, .int v_torn, .ref a_before])), (a_tape, .inl (cI, 160, .inl v_tape))] [(a_this, .inr (7, [.ref a_st, .ref a_now, .ref a_isKept, .ref a_draft, .int v_hasSigns, .int v_hasEvery, .ref a_tape, .int v_taped', .int v_pos, .int v_begun, .int v_sort, .int v_value, .int v_fault, .int v_wrongAt, .int v_moved, .int v_slipTicks, .int v_bestCode, .int v_bestMuch, .long v_straightSum, .long v_movedSum, .long v_allWays, .ref a_wereAt, .ref a_byPlace, .ref a_lanes, .ref a_sizes, .ref a_cells, .int v_torn, .ref a_before])), (a_tape, .inl (cI, 160, .inl v_tape'))] r_ :=
  c0_X7_feed (res := (r_, v_taped', v_tape')) hF
def rm_X7_end : Room := { frames := 1, cells := 0, slots := 0, locals := 25 }
theorem cv_X7_end : CV yX7_end cX7_end 3 (some .int) rm_X7_end RX7 1 := ⟨kw4_80, kw4_81, kw1_8, kw4_82, by decide +kernel, rfl, rfl⟩
set_option maxHeartbeats 4000000 in
set_option maxRecDepth 100000 in
theorem c0_X7_end {l : Launch} {D : va_G} {cI cB cZ cR cM cS : ClassId} {a_this : Nat} {a_st : Nat} {a_now : Nat} {a_isKept : Nat} {a_draft : Nat} {a_tape : Nat} {a_wereAt : Nat} {a_byPlace : Nat} {a_lanes : Nat} {a_sizes : Nat} {a_cells : Nat} {a_before : Nat} {v_hasSigns : Int32} {v_hasEvery : Int32} {v_taped : Int32} {v_pos : Int32} {v_begun : Int32} {v_sort : Int32} {v_value : Int32} {v_fault : Int32} {v_wrongAt : Int32} {v_moved : Int32} {v_slipTicks : Int32} {v_bestCode : Int32} {v_bestMuch : Int32} {v_straightSum : Int64} {v_movedSum : Int64} {v_allWays : Int64} {v_torn : Int32} {x1 : Int32} {res : Int32 × Int32} (hF : F_X7_end v_taped x1 = some res) : MI l yX7_end cX7_end 3 .int rm_X7_end D (TS cI cB cZ cR cM cS) [.ref a_this, .int x1] [(a_this, .inr (7, [.ref a_st, .ref a_now, .ref a_isKept, .ref a_draft, .int v_hasSigns, .int v_hasEvery, .ref a_tape, .int v_taped, .int v_pos, .int v_begun, .int v_sort, .int v_value, .int v_fault, .int v_wrongAt, .int v_moved, .int v_slipTicks, .int v_bestCode, .int v_bestMuch, .long v_straightSum, .long v_movedSum, .long v_allWays, .ref a_wereAt, .ref a_byPlace, .ref a_lanes, .ref a_sizes, .ref a_cells, .int v_torn, .ref a_before]))] [(a_this, .inr (7, [.ref a_st, .ref a_now, .ref a_isKept, .ref a_draft, .int v_hasSigns, .int v_hasEvery, .ref a_tape, .int res.2, .int v_pos, .int v_begun, .int v_sort, .int v_value, .int v_fault, .int v_wrongAt, .int v_moved, .int v_slipTicks, .int v_bestCode, .int v_bestMuch, .long v_straightSum, .long v_movedSum, .long v_allWays, .ref a_wereAt, .ref a_byPlace, .ref a_lanes, .ref a_sizes, .ref a_cells, .int v_torn, .ref a_before]))] res.1 :=
  MI_of (by decide) (Nat.le_of_ble_eq_true rfl) (fun p e s m args below meth c A ls C hr hlk hK hA hP hD hS hl => by
    have C : CX p m c cX7_end 3 s args RX7 := C
    have hl : lv_has ls 3 [(0, .ref a_this), (1, .int x1)] := hl
    unfold F_X7_end at hF
    refine lv_iload_n C.1 C.2.1 dX7_end_0 rfl (lv_at hl 1 rfl) ?_
    refine lv_i2l (v := x1.toInt64) C.1 C.2.1 dX7_end_1 rfl ?_
    refine lv_lconst (v := 0) C.1 C.2.1 dX7_end_2 rfl ?_
    refine lv_aload_n C.1 C.2.1 dX7_end_3 rfl (lv_at hl 0 rfl) ?_
    refine gf_7_7_taped C hK hP 0 rfl rfl dX7_end_4 ?_
    refine lv_i2l (v := v_taped.toInt64) C.1 C.2.1 dX7_end_7 rfl ?_
    obtain ⟨r1, h2, hF⟩ := fb hF
    refine callSI C hK hA hP hD hS (c_X7_in  h2) cs_X7_in kw4_76 ⟨Nat.le_of_ble_eq_true rfl, Nat.le_of_ble_eq_true rfl⟩ ⟨Nat.zero_le _, Nat.zero_le _⟩ hl.1 rfl (Nat.le_of_ble_eq_true rfl) dX7_end_8 (fun H locs hP hD hS => ?_)
    refine lv_if_ne (tgt := 16) C.1 C.2.1 dX7_end_11 (by decide) (fun c3 => ?_) (fun c3 => ?_)
    · have hF := fn hF c3
      refine lv_aload_n C.1 C.2.1 dX7_end_16 rfl (lv_at hl 0 rfl) ?_
      refine gf_7_7_taped C hK hP 0 rfl rfl dX7_end_17 ?_
      refine lv_istore_n (lv' := [(2, .int v_taped), (0, .ref a_this), (1, .int x1)]) C.1 C.2.1 dX7_end_20 rfl hl (by decide) rfl (fun ls hl => ?_)
      refine lv_aload_n C.1 C.2.1 dX7_end_21 rfl (lv_at hl 1 rfl) ?_
      refine lv_iload_n C.1 C.2.1 dX7_end_22 rfl (lv_at hl 2 rfl) ?_
      refine pf_7_7_taped C hK hP hD hS 0 rfl rfl dX7_end_23 (fun H locs hP hD hS => ?_)
      have hP : va_P D vwCl [(a_this, .inr (7, [.ref a_st, .ref a_now, .ref a_isKept, .ref a_draft, .int v_hasSigns, .int v_hasEvery, .ref a_tape, .int x1, .int v_pos, .int v_begun, .int v_sort, .int v_value, .int v_fault, .int v_wrongAt, .int v_moved, .int v_slipTicks, .int v_bestCode, .int v_bestMuch, .long v_straightSum, .long v_movedSum, .long v_allWays, .ref a_wereAt, .ref a_byPlace, .ref a_lanes, .ref a_sizes, .ref a_cells, .int v_torn, .ref a_before]))] H := hP
      have hD : va_D A [(a_this, .inr (7, [.ref a_st, .ref a_now, .ref a_isKept, .ref a_draft, .int v_hasSigns, .int v_hasEvery, .ref a_tape, .int x1, .int v_pos, .int v_begun, .int v_sort, .int v_value, .int v_fault, .int v_wrongAt, .int v_moved, .int v_slipTicks, .int v_bestCode, .int v_bestMuch, .long v_straightSum, .long v_movedSum, .long v_allWays, .ref a_wereAt, .ref a_byPlace, .ref a_lanes, .ref a_sizes, .ref a_cells, .int v_torn, .ref a_before]))] := hD
      refine lv_iload_n C.1 C.2.1 dX7_end_26 rfl (lv_at hl 0 rfl) ?_
      have hF := Option.some.inj hF
      subst hF
      exact retI C hr hlk hP hD hS dX7_end_27
    · have hF := fp hF c3
      refine lv_iconst (v := (-1)) C.1 C.2.1 dX7_end_14 (by decide) ?_
      have hF := Option.some.inj hF
      subst hF
      exact retI C hr hlk hP hD hS dX7_end_15)
theorem c_X7_end {l : Launch} {D : va_G} {cI cB cZ cR cM cS : ClassId} {a_this : Nat} {a_st : Nat} {a_now : Nat} {a_isKept : Nat} {a_draft : Nat} {a_tape : Nat} {a_wereAt : Nat} {a_byPlace : Nat} {a_lanes : Nat} {a_sizes : Nat} {a_cells : Nat} {a_before : Nat} {v_hasSigns : Int32} {v_hasEvery : Int32} {v_taped : Int32} {v_pos : Int32} {v_begun : Int32} {v_sort : Int32} {v_value : Int32} {v_fault : Int32} {v_wrongAt : Int32} {v_moved : Int32} {v_slipTicks : Int32} {v_bestCode : Int32} {v_bestMuch : Int32} {v_straightSum : Int64} {v_movedSum : Int64} {v_allWays : Int64} {v_torn : Int32} {x1 : Int32} {r_ : Int32} {v_taped' : Int32} (hF : F_X7_end v_taped x1 = some (r_, v_taped')) : MI l yX7_end cX7_end 3 .int rm_X7_end D (TS cI cB cZ cR cM cS) [.ref a_this, .int x1] [(a_this, .inr (7, [.ref a_st, .ref a_now, .ref a_isKept, .ref a_draft, .int v_hasSigns, .int v_hasEvery, .ref a_tape, .int v_taped, .int v_pos, .int v_begun, .int v_sort, .int v_value, .int v_fault, .int v_wrongAt, .int v_moved, .int v_slipTicks, .int v_bestCode, .int v_bestMuch, .long v_straightSum, .long v_movedSum, .long v_allWays, .ref a_wereAt, .ref a_byPlace, .ref a_lanes, .ref a_sizes, .ref a_cells, .int v_torn, .ref a_before]))] [(a_this, .inr (7, [.ref a_st, .ref a_now, .ref a_isKept, .ref a_draft, .int v_hasSigns, .int v_hasEvery, .ref a_tape, .int v_taped', .int v_pos, .int v_begun, .int v_sort, .int v_value, .int v_fault, .int v_wrongAt, .int v_moved, .int v_slipTicks, .int v_bestCode, .int v_bestMuch, .long v_straightSum, .long v_movedSum, .long v_allWays, .ref a_wereAt, .ref a_byPlace, .ref a_lanes, .ref a_sizes, .ref a_cells, .int v_torn, .ref a_before]))] r_ :=
  c0_X7_end (res := (r_, v_taped')) hF
def rm_X7_requires : Room := { frames := 0, cells := 0, slots := 0, locals := 0 }
theorem cv_X7_requires : CV yX7_requires cX7_requires 3 none rm_X7_requires RX7 2 := ⟨kw4_101, kwp_28, kw1_8, kw4_102, by decide +kernel, rfl, rfl⟩
set_option maxHeartbeats 4000000 in
set_option maxRecDepth 100000 in
theorem c0_X7_requires {l : Launch} {D : va_G} {cI cB cZ cR cM cS : ClassId} {a_this : Nat} {a_st : Nat} {a_now : Nat} {a_isKept : Nat} {a_draft : Nat} {a_tape : Nat} {a_wereAt : Nat} {a_byPlace : Nat} {a_lanes : Nat} {a_sizes : Nat} {a_cells : Nat} {a_before : Nat} {v_hasSigns : Int32} {v_hasEvery : Int32} {v_taped : Int32} {v_pos : Int32} {v_begun : Int32} {v_sort : Int32} {v_value : Int32} {v_fault : Int32} {v_wrongAt : Int32} {v_moved : Int32} {v_slipTicks : Int32} {v_bestCode : Int32} {v_bestMuch : Int32} {v_straightSum : Int64} {v_movedSum : Int64} {v_allWays : Int64} {v_torn : Int32} {x1 : Int32} {x2 : Int32} {res : Int32 × Int32} (hF : F_X7_requires v_begun v_fault v_wrongAt x1 x2 = some res) : MV l yX7_requires cX7_requires 3 rm_X7_requires D (TS cI cB cZ cR cM cS) [.ref a_this, .int x1, .int x2] [(a_this, .inr (7, [.ref a_st, .ref a_now, .ref a_isKept, .ref a_draft, .int v_hasSigns, .int v_hasEvery, .ref a_tape, .int v_taped, .int v_pos, .int v_begun, .int v_sort, .int v_value, .int v_fault, .int v_wrongAt, .int v_moved, .int v_slipTicks, .int v_bestCode, .int v_bestMuch, .long v_straightSum, .long v_movedSum, .long v_allWays, .ref a_wereAt, .ref a_byPlace, .ref a_lanes, .ref a_sizes, .ref a_cells, .int v_torn, .ref a_before]))] [(a_this, .inr (7, [.ref a_st, .ref a_now, .ref a_isKept, .ref a_draft, .int v_hasSigns, .int v_hasEvery, .ref a_tape, .int v_taped, .int v_pos, .int v_begun, .int v_sort, .int v_value, .int res.1, .int res.2, .int v_moved, .int v_slipTicks, .int v_bestCode, .int v_bestMuch, .long v_straightSum, .long v_movedSum, .long v_allWays, .ref a_wereAt, .ref a_byPlace, .ref a_lanes, .ref a_sizes, .ref a_cells, .int v_torn, .ref a_before]))] :=
  MV_of (by decide) (Nat.le_of_ble_eq_true rfl) (fun p e s m args below meth c A ls C hr hlk hK hA hP hD hS hl => by
    have C : CX p m c cX7_requires 3 s args RX7 := C
    have hl : lv_has ls 3 [(0, .ref a_this), (1, .int x1), (2, .int x2)] := hl
    unfold F_X7_requires at hF
    refine lv_iload_n C.1 C.2.1 dX7_requires_0 rfl (lv_at hl 1 rfl) ?_
    refine lv_if_ne (tgt := 24) C.1 C.2.1 dX7_requires_1 (by decide) (fun c1 => ?_) (fun c1 => ?_)
    · have hF := fn hF c1
      have hF := Option.some.inj hF
      subst hF
      exact retV C hr hlk hP hD hS dX7_requires_24
    · have hF := fp hF c1
      refine lv_aload_n C.1 C.2.1 dX7_requires_4 rfl (lv_at hl 0 rfl) ?_
      refine gf_7_7_fault C hK hP 0 rfl rfl dX7_requires_5 ?_
      refine lv_if_ne (tgt := 24) C.1 C.2.1 dX7_requires_8 (by decide) (fun c2 => ?_) (fun c2 => ?_)
      · have hF := fn hF c2
        have hF := Option.some.inj hF
        subst hF
        exact retV C hr hlk hP hD hS dX7_requires_24
      · have hF := fp hF c2
        refine lv_aload_n C.1 C.2.1 dX7_requires_11 rfl (lv_at hl 0 rfl) ?_
        refine lv_iload_n C.1 C.2.1 dX7_requires_12 rfl (lv_at hl 2 rfl) ?_
        refine pf_7_7_fault C hK hP hD hS 0 rfl rfl dX7_requires_13 (fun H locs hP hD hS => ?_)
        have hP : va_P D vwCl [(a_this, .inr (7, [.ref a_st, .ref a_now, .ref a_isKept, .ref a_draft, .int v_hasSigns, .int v_hasEvery, .ref a_tape, .int v_taped, .int v_pos, .int v_begun, .int v_sort, .int v_value, .int x2, .int v_wrongAt, .int v_moved, .int v_slipTicks, .int v_bestCode, .int v_bestMuch, .long v_straightSum, .long v_movedSum, .long v_allWays, .ref a_wereAt, .ref a_byPlace, .ref a_lanes, .ref a_sizes, .ref a_cells, .int v_torn, .ref a_before]))] H := hP
        have hD : va_D A [(a_this, .inr (7, [.ref a_st, .ref a_now, .ref a_isKept, .ref a_draft, .int v_hasSigns, .int v_hasEvery, .ref a_tape, .int v_taped, .int v_pos, .int v_begun, .int v_sort, .int v_value, .int x2, .int v_wrongAt, .int v_moved, .int v_slipTicks, .int v_bestCode, .int v_bestMuch, .long v_straightSum, .long v_movedSum, .long v_allWays, .ref a_wereAt, .ref a_byPlace, .ref a_lanes, .ref a_sizes, .ref a_cells, .int v_torn, .ref a_before]))] := hD
        refine lv_aload_n C.1 C.2.1 dX7_requires_16 rfl (lv_at hl 0 rfl) ?_
        refine lv_aload_n C.1 C.2.1 dX7_requires_17 rfl (lv_at hl 0 rfl) ?_
        refine gf_7_7_begun C hK hP 0 rfl rfl dX7_requires_18 ?_
        refine pf_7_7_wrongAt C hK hP hD hS 0 rfl rfl dX7_requires_21 (fun H locs hP hD hS => ?_)
        have hP : va_P D vwCl [(a_this, .inr (7, [.ref a_st, .ref a_now, .ref a_isKept, .ref a_draft, .int v_hasSigns, .int v_hasEvery, .ref a_tape, .int v_taped, .int v_pos, .int v_begun, .int v_sort, .int v_value, .int x2, .int v_begun, .int v_moved, .int v_slipTicks, .int v_bestCode, .int v_bestMuch, .long v_straightSum, .long v_movedSum, .long v_allWays, .ref a_wereAt, .ref a_byPlace, .ref a_lanes, .ref a_sizes, .ref a_cells, .int v_torn, .ref a_before]))] H := hP
        have hD : va_D A [(a_this, .inr (7, [.ref a_st, .ref a_now, .ref a_isKept, .ref a_draft, .int v_hasSigns, .int v_hasEvery, .ref a_tape, .int v_taped, .int v_pos, .int v_begun, .int v_sort, .int v_value, .int x2, .int v_begun, .int v_moved, .int v_slipTicks, .int v_bestCode, .int v_bestMuch, .long v_straightSum, .long v_movedSum, .long v_allWays, .ref a_wereAt, .ref a_byPlace, .ref a_lanes, .ref a_sizes, .ref a_cells, .int v_torn, .ref a_before]))] := hD
        have hF := Option.some.inj hF
        subst hF
        exact retV C hr hlk hP hD hS dX7_requires_24)
theorem c_X7_requires {l : Launch} {D : va_G} {cI cB cZ cR cM cS : ClassId} {a_this : Nat} {a_st : Nat} {a_now : Nat} {a_isKept : Nat} {a_draft : Nat} {a_tape : Nat} {a_wereAt : Nat} {a_byPlace : Nat} {a_lanes : Nat} {a_sizes : Nat} {a_cells : Nat} {a_before : Nat} {v_hasSigns : Int32} {v_hasEvery : Int32} {v_taped : Int32} {v_pos : Int32} {v_begun : Int32} {v_sort : Int32} {v_value : Int32} {v_fault : Int32} {v_wrongAt : Int32} {v_moved : Int32} {v_slipTicks : Int32} {v_bestCode : Int32} {v_bestMuch : Int32} {v_straightSum : Int64} {v_movedSum : Int64} {v_allWays : Int64} {v_torn : Int32} {x1 : Int32} {x2 : Int32} {v_fault' : Int32} {v_wrongAt' : Int32} (hF : F_X7_requires v_begun v_fault v_wrongAt x1 x2 = some (v_fault', v_wrongAt')) : MV l yX7_requires cX7_requires 3 rm_X7_requires D (TS cI cB cZ cR cM cS) [.ref a_this, .int x1, .int x2] [(a_this, .inr (7, [.ref a_st, .ref a_now, .ref a_isKept, .ref a_draft, .int v_hasSigns, .int v_hasEvery, .ref a_tape, .int v_taped, .int v_pos, .int v_begun, .int v_sort, .int v_value, .int v_fault, .int v_wrongAt, .int v_moved, .int v_slipTicks, .int v_bestCode, .int v_bestMuch, .long v_straightSum, .long v_movedSum, .long v_allWays, .ref a_wereAt, .ref a_byPlace, .ref a_lanes, .ref a_sizes, .ref a_cells, .int v_torn, .ref a_before]))] [(a_this, .inr (7, [.ref a_st, .ref a_now, .ref a_isKept, .ref a_draft, .int v_hasSigns, .int v_hasEvery, .ref a_tape, .int v_taped, .int v_pos, .int v_begun, .int v_sort, .int v_value, .int v_fault', .int v_wrongAt', .int v_moved, .int v_slipTicks, .int v_bestCode, .int v_bestMuch, .long v_straightSum, .long v_movedSum, .long v_allWays, .ref a_wereAt, .ref a_byPlace, .ref a_lanes, .ref a_sizes, .ref a_cells, .int v_torn, .ref a_before]))] :=
  c0_X7_requires (res := (v_fault', v_wrongAt')) hF
def rm_X7_byteAt : Room := { frames := 0, cells := 0, slots := 0, locals := 0 }
theorem cv_X7_byteAt : CV yX7_byteAt cX7_byteAt 2 (some .int) rm_X7_byteAt RX7 1 := ⟨kw4_93, kwp_27, kw1_8, kw4_94, by decide +kernel, rfl, rfl⟩
set_option maxHeartbeats 4000000 in
set_option maxRecDepth 100000 in
theorem c_X7_byteAt {l : Launch} {D : va_G} {cI cB cZ cR cM cS : ClassId} {a_this : Nat} {a_st : Nat} {a_now : Nat} {a_isKept : Nat} {a_draft : Nat} {a_tape : Nat} {a_wereAt : Nat} {a_byPlace : Nat} {a_lanes : Nat} {a_sizes : Nat} {a_cells : Nat} {a_before : Nat} {v_hasSigns : Int32} {v_hasEvery : Int32} {v_taped : Int32} {v_pos : Int32} {v_begun : Int32} {v_sort : Int32} {v_value : Int32} {v_fault : Int32} {v_wrongAt : Int32} {v_moved : Int32} {v_slipTicks : Int32} {v_bestCode : Int32} {v_bestMuch : Int32} {v_straightSum : Int64} {v_movedSum : Int64} {v_allWays : Int64} {v_torn : Int32} {v_tape : Nat → Int32} {x1 : Int32} {res : Int32} (hF : F_X7_byteAt v_taped v_tape x1 = some res) : MI l yX7_byteAt cX7_byteAt 2 .int rm_X7_byteAt D (TS cI cB cZ cR cM cS) [.ref a_this, .int x1] [(a_this, .inr (7, [.ref a_st, .ref a_now, .ref a_isKept, .ref a_draft, .int v_hasSigns, .int v_hasEvery, .ref a_tape, .int v_taped, .int v_pos, .int v_begun, .int v_sort, .int v_value, .int v_fault, .int v_wrongAt, .int v_moved, .int v_slipTicks, .int v_bestCode, .int v_bestMuch, .long v_straightSum, .long v_movedSum, .long v_allWays, .ref a_wereAt, .ref a_byPlace, .ref a_lanes, .ref a_sizes, .ref a_cells, .int v_torn, .ref a_before])), (a_tape, .inl (cI, 160, .inl v_tape))] [(a_this, .inr (7, [.ref a_st, .ref a_now, .ref a_isKept, .ref a_draft, .int v_hasSigns, .int v_hasEvery, .ref a_tape, .int v_taped, .int v_pos, .int v_begun, .int v_sort, .int v_value, .int v_fault, .int v_wrongAt, .int v_moved, .int v_slipTicks, .int v_bestCode, .int v_bestMuch, .long v_straightSum, .long v_movedSum, .long v_allWays, .ref a_wereAt, .ref a_byPlace, .ref a_lanes, .ref a_sizes, .ref a_cells, .int v_torn, .ref a_before])), (a_tape, .inl (cI, 160, .inl v_tape))] res :=
  MI_of (by decide) (Nat.le_of_ble_eq_true rfl) (fun p e s m args below meth c A ls C hr hlk hK hA hP hD hS hl => by
    have C : CX p m c cX7_byteAt 2 s args RX7 := C
    have hl : lv_has ls 2 [(0, .ref a_this), (1, .int x1)] := hl
    unfold F_X7_byteAt at hF
    refine lv_iload_n C.1 C.2.1 dX7_byteAt_0 rfl (lv_at hl 1 rfl) ?_
    refine lv_aload_n C.1 C.2.1 dX7_byteAt_1 rfl (lv_at hl 0 rfl) ?_
    refine gf_7_7_taped C hK hP 0 rfl rfl dX7_byteAt_2 ?_
    refine lv_icmp_ge (tgt := 17) C.1 C.2.1 dX7_byteAt_5 (by decide) (fun c1 => ?_) (fun c1 => ?_)
    · have hF := fp hF c1
      refine lv_iconst (v := (-1)) C.1 C.2.1 dX7_byteAt_17 (by decide) ?_
      have hF := Option.some.inj hF
      subst hF
      exact retI C hr hlk hP hD hS dX7_byteAt_18
    · have hF := fn hF c1
      refine lv_aload_n C.1 C.2.1 dX7_byteAt_8 rfl (lv_at hl 0 rfl) ?_
      refine gf_7_7_tape C hK hP 0 rfl rfl dX7_byteAt_9 ?_
      refine lv_iload_n C.1 C.2.1 dX7_byteAt_12 rfl (lv_at hl 1 rfl) ?_
      obtain ⟨h2, hF⟩ := fk hF
      refine va_iald C.1 C.2.1 hK.1 hP 1 0 rfl rfl h2 dX7_byteAt_13 ?_
      refine lv_goto (tgt := 18) C.1 C.2.1 dX7_byteAt_14 (by decide) ?_
      have hF := Option.some.inj hF
      subst hF
      exact retI C hr hlk hP hD hS dX7_byteAt_18)
def rm_X7_is : Room := { frames := 1, cells := 0, slots := 0, locals := 21 }
theorem cv_X7_is : CV yX7_is cX7_is 6 (some .boolean) rm_X7_is RX7 5 := ⟨kw4_113, kwp_31, kw1_8, kw4_114, by decide +kernel, rfl, rfl⟩
set_option maxHeartbeats 4000000 in
set_option maxRecDepth 100000 in
theorem c_X7_is {l : Launch} {D : va_G} {cI cB cZ cR cM cS : ClassId} {a_this : Nat} {a_st : Nat} {a_now : Nat} {a_isKept : Nat} {a_draft : Nat} {a_tape : Nat} {a_wereAt : Nat} {a_byPlace : Nat} {a_lanes : Nat} {a_sizes : Nat} {a_cells : Nat} {a_before : Nat} {v_hasSigns : Int32} {v_hasEvery : Int32} {v_taped : Int32} {v_pos : Int32} {v_begun : Int32} {v_sort : Int32} {v_value : Int32} {v_fault : Int32} {v_wrongAt : Int32} {v_moved : Int32} {v_slipTicks : Int32} {v_bestCode : Int32} {v_bestMuch : Int32} {v_straightSum : Int64} {v_movedSum : Int64} {v_allWays : Int64} {v_torn : Int32} {v_tape : Nat → Int32} {x1 : Int32} {x2 : Int32} {x3 : Int32} {x4 : Int32} {x5 : Int32} {res : Int32} (hF : F_X7_is v_taped v_pos v_begun v_tape x1 x2 x3 x4 x5 = some res) : MI l yX7_is cX7_is 6 .boolean rm_X7_is D (TS cI cB cZ cR cM cS) [.ref a_this, .int x1, .int x2, .int x3, .int x4, .int x5] [(a_this, .inr (7, [.ref a_st, .ref a_now, .ref a_isKept, .ref a_draft, .int v_hasSigns, .int v_hasEvery, .ref a_tape, .int v_taped, .int v_pos, .int v_begun, .int v_sort, .int v_value, .int v_fault, .int v_wrongAt, .int v_moved, .int v_slipTicks, .int v_bestCode, .int v_bestMuch, .long v_straightSum, .long v_movedSum, .long v_allWays, .ref a_wereAt, .ref a_byPlace, .ref a_lanes, .ref a_sizes, .ref a_cells, .int v_torn, .ref a_before])), (a_tape, .inl (cI, 160, .inl v_tape))] [(a_this, .inr (7, [.ref a_st, .ref a_now, .ref a_isKept, .ref a_draft, .int v_hasSigns, .int v_hasEvery, .ref a_tape, .int v_taped, .int v_pos, .int v_begun, .int v_sort, .int v_value, .int v_fault, .int v_wrongAt, .int v_moved, .int v_slipTicks, .int v_bestCode, .int v_bestMuch, .long v_straightSum, .long v_movedSum, .long v_allWays, .ref a_wereAt, .ref a_byPlace, .ref a_lanes, .ref a_sizes, .ref a_cells, .int v_torn, .ref a_before])), (a_tape, .inl (cI, 160, .inl v_tape))] res :=
  MI_of (by decide) (Nat.le_of_ble_eq_true rfl) (fun p e s m args below meth c A ls C hr hlk hK hA hP hD hS hl => by
    have C : CX p m c cX7_is 6 s args RX7 := C
    have hl : lv_has ls 6 [(0, .ref a_this), (1, .int x1), (2, .int x2), (3, .int x3), (4, .int x4), (5, .int x5)] := hl
    unfold F_X7_is at hF
    refine lv_aload_n C.1 C.2.1 dX7_is_0 rfl (lv_at hl 0 rfl) ?_
    refine gf_7_7_pos C hK hP 0 rfl rfl dX7_is_1 ?_
    refine lv_aload_n C.1 C.2.1 dX7_is_4 rfl (lv_at hl 0 rfl) ?_
    refine gf_7_7_begun C hK hP 0 rfl rfl dX7_is_5 ?_
    refine lv_isub C.1 C.2.1 dX7_is_8 ?_
    refine lv_iconst (v := 5) C.1 C.2.1 dX7_is_9 (by decide) ?_
    refine lv_icmp_ne (tgt := 87) C.1 C.2.1 dX7_is_10 (by decide) (fun c1 => ?_) (fun c1 => ?_)
    · have hF := fn hF c1
      refine lv_iconst (v := 0) C.1 C.2.1 dX7_is_87 (by decide) ?_
      have hF := Option.some.inj hF
      subst hF
      exact retZ (v := 0) C hr hlk (by decide) hP hD hS dX7_is_88
    · have hF := fp hF c1
      refine lv_aload_n C.1 C.2.1 dX7_is_13 rfl (lv_at hl 0 rfl) ?_
      refine lv_aload_n C.1 C.2.1 dX7_is_14 rfl (lv_at hl 0 rfl) ?_
      refine gf_7_7_begun C hK hP 0 rfl rfl dX7_is_15 ?_
      obtain ⟨r2, h3, hF⟩ := fb hF
      refine callVI C hK hA hP hD hS [0, 1] (c_X7_byteAt (a_this := a_this) (a_st := a_st) (a_now := a_now) (a_isKept := a_isKept) (a_draft := a_draft) (a_tape := a_tape) (a_wereAt := a_wereAt) (a_byPlace := a_byPlace) (a_lanes := a_lanes) (a_sizes := a_sizes) (a_cells := a_cells) (a_before := a_before) (v_hasSigns := v_hasSigns) (v_hasEvery := v_hasEvery) (v_taped := v_taped) (v_pos := v_pos) (v_begun := v_begun) (v_sort := v_sort) (v_value := v_value) (v_fault := v_fault) (v_wrongAt := v_wrongAt) (v_moved := v_moved) (v_slipTicks := v_slipTicks) (v_bestCode := v_bestCode) (v_bestMuch := v_bestMuch) (v_straightSum := v_straightSum) (v_movedSum := v_movedSum) (v_allWays := v_allWays) (v_torn := v_torn) (v_tape := v_tape) h3) cv_X7_byteAt kw4_91 rfl (by decide) rfl rfl rfl ⟨Nat.le_of_ble_eq_true rfl, Nat.le_of_ble_eq_true rfl⟩ ⟨Nat.zero_le _, Nat.zero_le _⟩ hl.1 rfl (Nat.le_of_ble_eq_true rfl) dX7_is_18 (fun H locs hP hD hS => ?_)
      have hP : va_P D vwCl [(a_this, .inr (7, [.ref a_st, .ref a_now, .ref a_isKept, .ref a_draft, .int v_hasSigns, .int v_hasEvery, .ref a_tape, .int v_taped, .int v_pos, .int v_begun, .int v_sort, .int v_value, .int v_fault, .int v_wrongAt, .int v_moved, .int v_slipTicks, .int v_bestCode, .int v_bestMuch, .long v_straightSum, .long v_movedSum, .long v_allWays, .ref a_wereAt, .ref a_byPlace, .ref a_lanes, .ref a_sizes, .ref a_cells, .int v_torn, .ref a_before])), (a_tape, .inl (cI, 160, .inl v_tape))] H := hP
      have hD : va_D A [(a_this, .inr (7, [.ref a_st, .ref a_now, .ref a_isKept, .ref a_draft, .int v_hasSigns, .int v_hasEvery, .ref a_tape, .int v_taped, .int v_pos, .int v_begun, .int v_sort, .int v_value, .int v_fault, .int v_wrongAt, .int v_moved, .int v_slipTicks, .int v_bestCode, .int v_bestMuch, .long v_straightSum, .long v_movedSum, .long v_allWays, .ref a_wereAt, .ref a_byPlace, .ref a_lanes, .ref a_sizes, .ref a_cells, .int v_torn, .ref a_before])), (a_tape, .inl (cI, 160, .inl v_tape))] := hD
      refine lv_iload_n C.1 C.2.1 dX7_is_21 rfl (lv_at hl 1 rfl) ?_
      refine lv_icmp_ne (tgt := 87) C.1 C.2.1 dX7_is_22 (by decide) (fun c4 => ?_) (fun c4 => ?_)
      · have hF := fn hF c4
        refine lv_iconst (v := 0) C.1 C.2.1 dX7_is_87 (by decide) ?_
        have hF := Option.some.inj hF
        subst hF
        exact retZ (v := 0) C hr hlk (by decide) hP hD hS dX7_is_88
      · have hF := fp hF c4
        refine lv_aload_n C.1 C.2.1 dX7_is_25 rfl (lv_at hl 0 rfl) ?_
        refine lv_aload_n C.1 C.2.1 dX7_is_26 rfl (lv_at hl 0 rfl) ?_
        refine gf_7_7_begun C hK hP 0 rfl rfl dX7_is_27 ?_
        refine lv_iconst (v := 1) C.1 C.2.1 dX7_is_30 (by decide) ?_
        refine lv_iadd C.1 C.2.1 dX7_is_31 ?_
        obtain ⟨r5, h6, hF⟩ := fb hF
        refine callVI C hK hA hP hD hS [0, 1] (c_X7_byteAt (a_this := a_this) (a_st := a_st) (a_now := a_now) (a_isKept := a_isKept) (a_draft := a_draft) (a_tape := a_tape) (a_wereAt := a_wereAt) (a_byPlace := a_byPlace) (a_lanes := a_lanes) (a_sizes := a_sizes) (a_cells := a_cells) (a_before := a_before) (v_hasSigns := v_hasSigns) (v_hasEvery := v_hasEvery) (v_taped := v_taped) (v_pos := v_pos) (v_begun := v_begun) (v_sort := v_sort) (v_value := v_value) (v_fault := v_fault) (v_wrongAt := v_wrongAt) (v_moved := v_moved) (v_slipTicks := v_slipTicks) (v_bestCode := v_bestCode) (v_bestMuch := v_bestMuch) (v_straightSum := v_straightSum) (v_movedSum := v_movedSum) (v_allWays := v_allWays) (v_torn := v_torn) (v_tape := v_tape) h6) cv_X7_byteAt kw4_91 rfl (by decide) rfl rfl rfl ⟨Nat.le_of_ble_eq_true rfl, Nat.le_of_ble_eq_true rfl⟩ ⟨Nat.zero_le _, Nat.zero_le _⟩ hl.1 rfl (Nat.le_of_ble_eq_true rfl) dX7_is_32 (fun H locs hP hD hS => ?_)
        have hP : va_P D vwCl [(a_this, .inr (7, [.ref a_st, .ref a_now, .ref a_isKept, .ref a_draft, .int v_hasSigns, .int v_hasEvery, .ref a_tape, .int v_taped, .int v_pos, .int v_begun, .int v_sort, .int v_value, .int v_fault, .int v_wrongAt, .int v_moved, .int v_slipTicks, .int v_bestCode, .int v_bestMuch, .long v_straightSum, .long v_movedSum, .long v_allWays, .ref a_wereAt, .ref a_byPlace, .ref a_lanes, .ref a_sizes, .ref a_cells, .int v_torn, .ref a_before])), (a_tape, .inl (cI, 160, .inl v_tape))] H := hP
        have hD : va_D A [(a_this, .inr (7, [.ref a_st, .ref a_now, .ref a_isKept, .ref a_draft, .int v_hasSigns, .int v_hasEvery, .ref a_tape, .int v_taped, .int v_pos, .int v_begun, .int v_sort, .int v_value, .int v_fault, .int v_wrongAt, .int v_moved, .int v_slipTicks, .int v_bestCode, .int v_bestMuch, .long v_straightSum, .long v_movedSum, .long v_allWays, .ref a_wereAt, .ref a_byPlace, .ref a_lanes, .ref a_sizes, .ref a_cells, .int v_torn, .ref a_before])), (a_tape, .inl (cI, 160, .inl v_tape))] := hD
        refine lv_iload_n C.1 C.2.1 dX7_is_35 rfl (lv_at hl 2 rfl) ?_
        refine lv_icmp_ne (tgt := 87) C.1 C.2.1 dX7_is_36 (by decide) (fun c7 => ?_) (fun c7 => ?_)
        · have hF := fn hF c7
          refine lv_iconst (v := 0) C.1 C.2.1 dX7_is_87 (by decide) ?_
          have hF := Option.some.inj hF
          subst hF
          exact retZ (v := 0) C hr hlk (by decide) hP hD hS dX7_is_88
        · have hF := fp hF c7
          refine lv_aload_n C.1 C.2.1 dX7_is_39 rfl (lv_at hl 0 rfl) ?_
          refine lv_aload_n C.1 C.2.1 dX7_is_40 rfl (lv_at hl 0 rfl) ?_
          refine gf_7_7_begun C hK hP 0 rfl rfl dX7_is_41 ?_
          refine lv_iconst (v := 2) C.1 C.2.1 dX7_is_44 (by decide) ?_
          refine lv_iadd C.1 C.2.1 dX7_is_45 ?_
          obtain ⟨r8, h9, hF⟩ := fb hF
          refine callVI C hK hA hP hD hS [0, 1] (c_X7_byteAt (a_this := a_this) (a_st := a_st) (a_now := a_now) (a_isKept := a_isKept) (a_draft := a_draft) (a_tape := a_tape) (a_wereAt := a_wereAt) (a_byPlace := a_byPlace) (a_lanes := a_lanes) (a_sizes := a_sizes) (a_cells := a_cells) (a_before := a_before) (v_hasSigns := v_hasSigns) (v_hasEvery := v_hasEvery) (v_taped := v_taped) (v_pos := v_pos) (v_begun := v_begun) (v_sort := v_sort) (v_value := v_value) (v_fault := v_fault) (v_wrongAt := v_wrongAt) (v_moved := v_moved) (v_slipTicks := v_slipTicks) (v_bestCode := v_bestCode) (v_bestMuch := v_bestMuch) (v_straightSum := v_straightSum) (v_movedSum := v_movedSum) (v_allWays := v_allWays) (v_torn := v_torn) (v_tape := v_tape) h9) cv_X7_byteAt kw4_91 rfl (by decide) rfl rfl rfl ⟨Nat.le_of_ble_eq_true rfl, Nat.le_of_ble_eq_true rfl⟩ ⟨Nat.zero_le _, Nat.zero_le _⟩ hl.1 rfl (Nat.le_of_ble_eq_true rfl) dX7_is_46 (fun H locs hP hD hS => ?_)
          have hP : va_P D vwCl [(a_this, .inr (7, [.ref a_st, .ref a_now, .ref a_isKept, .ref a_draft, .int v_hasSigns, .int v_hasEvery, .ref a_tape, .int v_taped, .int v_pos, .int v_begun, .int v_sort, .int v_value, .int v_fault, .int v_wrongAt, .int v_moved, .int v_slipTicks, .int v_bestCode, .int v_bestMuch, .long v_straightSum, .long v_movedSum, .long v_allWays, .ref a_wereAt, .ref a_byPlace, .ref a_lanes, .ref a_sizes, .ref a_cells, .int v_torn, .ref a_before])), (a_tape, .inl (cI, 160, .inl v_tape))] H := hP
          have hD : va_D A [(a_this, .inr (7, [.ref a_st, .ref a_now, .ref a_isKept, .ref a_draft, .int v_hasSigns, .int v_hasEvery, .ref a_tape, .int v_taped, .int v_pos, .int v_begun, .int v_sort, .int v_value, .int v_fault, .int v_wrongAt, .int v_moved, .int v_slipTicks, .int v_bestCode, .int v_bestMuch, .long v_straightSum, .long v_movedSum, .long v_allWays, .ref a_wereAt, .ref a_byPlace, .ref a_lanes, .ref a_sizes, .ref a_cells, .int v_torn, .ref a_before])), (a_tape, .inl (cI, 160, .inl v_tape))] := hD
          refine lv_iload_n C.1 C.2.1 dX7_is_49 rfl (lv_at hl 3 rfl) ?_
          refine lv_icmp_ne (tgt := 87) C.1 C.2.1 dX7_is_50 (by decide) (fun c10 => ?_) (fun c10 => ?_)
          · have hF := fn hF c10
            refine lv_iconst (v := 0) C.1 C.2.1 dX7_is_87 (by decide) ?_
            have hF := Option.some.inj hF
            subst hF
            exact retZ (v := 0) C hr hlk (by decide) hP hD hS dX7_is_88
          · have hF := fp hF c10
            refine lv_aload_n C.1 C.2.1 dX7_is_53 rfl (lv_at hl 0 rfl) ?_
            refine lv_aload_n C.1 C.2.1 dX7_is_54 rfl (lv_at hl 0 rfl) ?_
            refine gf_7_7_begun C hK hP 0 rfl rfl dX7_is_55 ?_
            refine lv_iconst (v := 3) C.1 C.2.1 dX7_is_58 (by decide) ?_
            refine lv_iadd C.1 C.2.1 dX7_is_59 ?_
            obtain ⟨r11, h12, hF⟩ := fb hF
            refine callVI C hK hA hP hD hS [0, 1] (c_X7_byteAt (a_this := a_this) (a_st := a_st) (a_now := a_now) (a_isKept := a_isKept) (a_draft := a_draft) (a_tape := a_tape) (a_wereAt := a_wereAt) (a_byPlace := a_byPlace) (a_lanes := a_lanes) (a_sizes := a_sizes) (a_cells := a_cells) (a_before := a_before) (v_hasSigns := v_hasSigns) (v_hasEvery := v_hasEvery) (v_taped := v_taped) (v_pos := v_pos) (v_begun := v_begun) (v_sort := v_sort) (v_value := v_value) (v_fault := v_fault) (v_wrongAt := v_wrongAt) (v_moved := v_moved) (v_slipTicks := v_slipTicks) (v_bestCode := v_bestCode) (v_bestMuch := v_bestMuch) (v_straightSum := v_straightSum) (v_movedSum := v_movedSum) (v_allWays := v_allWays) (v_torn := v_torn) (v_tape := v_tape) h12) cv_X7_byteAt kw4_91 rfl (by decide) rfl rfl rfl ⟨Nat.le_of_ble_eq_true rfl, Nat.le_of_ble_eq_true rfl⟩ ⟨Nat.zero_le _, Nat.zero_le _⟩ hl.1 rfl (Nat.le_of_ble_eq_true rfl) dX7_is_60 (fun H locs hP hD hS => ?_)
            have hP : va_P D vwCl [(a_this, .inr (7, [.ref a_st, .ref a_now, .ref a_isKept, .ref a_draft, .int v_hasSigns, .int v_hasEvery, .ref a_tape, .int v_taped, .int v_pos, .int v_begun, .int v_sort, .int v_value, .int v_fault, .int v_wrongAt, .int v_moved, .int v_slipTicks, .int v_bestCode, .int v_bestMuch, .long v_straightSum, .long v_movedSum, .long v_allWays, .ref a_wereAt, .ref a_byPlace, .ref a_lanes, .ref a_sizes, .ref a_cells, .int v_torn, .ref a_before])), (a_tape, .inl (cI, 160, .inl v_tape))] H := hP
            have hD : va_D A [(a_this, .inr (7, [.ref a_st, .ref a_now, .ref a_isKept, .ref a_draft, .int v_hasSigns, .int v_hasEvery, .ref a_tape, .int v_taped, .int v_pos, .int v_begun, .int v_sort, .int v_value, .int v_fault, .int v_wrongAt, .int v_moved, .int v_slipTicks, .int v_bestCode, .int v_bestMuch, .long v_straightSum, .long v_movedSum, .long v_allWays, .ref a_wereAt, .ref a_byPlace, .ref a_lanes, .ref a_sizes, .ref a_cells, .int v_torn, .ref a_before])), (a_tape, .inl (cI, 160, .inl v_tape))] := hD
            refine lv_iload C.1 C.2.1 dX7_is_63 (lv_at hl 4 rfl) ?_
            refine lv_icmp_ne (tgt := 87) C.1 C.2.1 dX7_is_65 (by decide) (fun c13 => ?_) (fun c13 => ?_)
            · have hF := fn hF c13
              refine lv_iconst (v := 0) C.1 C.2.1 dX7_is_87 (by decide) ?_
              have hF := Option.some.inj hF
              subst hF
              exact retZ (v := 0) C hr hlk (by decide) hP hD hS dX7_is_88
            · have hF := fp hF c13
              refine lv_aload_n C.1 C.2.1 dX7_is_68 rfl (lv_at hl 0 rfl) ?_
              refine lv_aload_n C.1 C.2.1 dX7_is_69 rfl (lv_at hl 0 rfl) ?_
              refine gf_7_7_begun C hK hP 0 rfl rfl dX7_is_70 ?_
              refine lv_iconst (v := 4) C.1 C.2.1 dX7_is_73 (by decide) ?_
              refine lv_iadd C.1 C.2.1 dX7_is_74 ?_
              obtain ⟨r14, h15, hF⟩ := fb hF
              refine callVI C hK hA hP hD hS [0, 1] (c_X7_byteAt (a_this := a_this) (a_st := a_st) (a_now := a_now) (a_isKept := a_isKept) (a_draft := a_draft) (a_tape := a_tape) (a_wereAt := a_wereAt) (a_byPlace := a_byPlace) (a_lanes := a_lanes) (a_sizes := a_sizes) (a_cells := a_cells) (a_before := a_before) (v_hasSigns := v_hasSigns) (v_hasEvery := v_hasEvery) (v_taped := v_taped) (v_pos := v_pos) (v_begun := v_begun) (v_sort := v_sort) (v_value := v_value) (v_fault := v_fault) (v_wrongAt := v_wrongAt) (v_moved := v_moved) (v_slipTicks := v_slipTicks) (v_bestCode := v_bestCode) (v_bestMuch := v_bestMuch) (v_straightSum := v_straightSum) (v_movedSum := v_movedSum) (v_allWays := v_allWays) (v_torn := v_torn) (v_tape := v_tape) h15) cv_X7_byteAt kw4_91 rfl (by decide) rfl rfl rfl ⟨Nat.le_of_ble_eq_true rfl, Nat.le_of_ble_eq_true rfl⟩ ⟨Nat.zero_le _, Nat.zero_le _⟩ hl.1 rfl (Nat.le_of_ble_eq_true rfl) dX7_is_75 (fun H locs hP hD hS => ?_)
              have hP : va_P D vwCl [(a_this, .inr (7, [.ref a_st, .ref a_now, .ref a_isKept, .ref a_draft, .int v_hasSigns, .int v_hasEvery, .ref a_tape, .int v_taped, .int v_pos, .int v_begun, .int v_sort, .int v_value, .int v_fault, .int v_wrongAt, .int v_moved, .int v_slipTicks, .int v_bestCode, .int v_bestMuch, .long v_straightSum, .long v_movedSum, .long v_allWays, .ref a_wereAt, .ref a_byPlace, .ref a_lanes, .ref a_sizes, .ref a_cells, .int v_torn, .ref a_before])), (a_tape, .inl (cI, 160, .inl v_tape))] H := hP
              have hD : va_D A [(a_this, .inr (7, [.ref a_st, .ref a_now, .ref a_isKept, .ref a_draft, .int v_hasSigns, .int v_hasEvery, .ref a_tape, .int v_taped, .int v_pos, .int v_begun, .int v_sort, .int v_value, .int v_fault, .int v_wrongAt, .int v_moved, .int v_slipTicks, .int v_bestCode, .int v_bestMuch, .long v_straightSum, .long v_movedSum, .long v_allWays, .ref a_wereAt, .ref a_byPlace, .ref a_lanes, .ref a_sizes, .ref a_cells, .int v_torn, .ref a_before])), (a_tape, .inl (cI, 160, .inl v_tape))] := hD
              refine lv_iload C.1 C.2.1 dX7_is_78 (lv_at hl 5 rfl) ?_
              refine lv_icmp_ne (tgt := 87) C.1 C.2.1 dX7_is_80 (by decide) (fun c16 => ?_) (fun c16 => ?_)
              · have hF := fn hF c16
                refine lv_iconst (v := 0) C.1 C.2.1 dX7_is_87 (by decide) ?_
                have hF := Option.some.inj hF
                subst hF
                exact retZ (v := 0) C hr hlk (by decide) hP hD hS dX7_is_88
              · have hF := fp hF c16
                refine lv_iconst (v := 1) C.1 C.2.1 dX7_is_83 (by decide) ?_
                refine lv_goto (tgt := 88) C.1 C.2.1 dX7_is_84 (by decide) ?_
                have hF := Option.some.inj hF
                subst hF
                exact retZ (v := 1) C hr hlk (by decide) hP hD hS dX7_is_88)
def rm_X7_lineNow : Room := { frames := 2, cells := 0, slots := 0, locals := 46 }
theorem cv_X7_lineNow : CV yX7_lineNow cX7_lineNow 1 (some .int) rm_X7_lineNow RX7 0 := ⟨kw4_109, kwp_30, kw1_8, kw4_110, by decide +kernel, rfl, rfl⟩
set_option maxHeartbeats 4000000 in
set_option maxRecDepth 100000 in
theorem c_X7_lineNow {l : Launch} {D : va_G} {cI cB cZ cR cM cS : ClassId} {a_this : Nat} {a_st : Nat} {a_now : Nat} {a_isKept : Nat} {a_draft : Nat} {a_tape : Nat} {a_wereAt : Nat} {a_byPlace : Nat} {a_lanes : Nat} {a_sizes : Nat} {a_cells : Nat} {a_before : Nat} {v_hasSigns : Int32} {v_hasEvery : Int32} {v_taped : Int32} {v_pos : Int32} {v_begun : Int32} {v_sort : Int32} {v_value : Int32} {v_fault : Int32} {v_wrongAt : Int32} {v_moved : Int32} {v_slipTicks : Int32} {v_bestCode : Int32} {v_bestMuch : Int32} {v_straightSum : Int64} {v_movedSum : Int64} {v_allWays : Int64} {v_torn : Int32} {v_tape : Nat → Int32} {res : Int32} (hF : F_X7_lineNow v_taped v_pos v_begun v_tape = some res) : MI l yX7_lineNow cX7_lineNow 1 .int rm_X7_lineNow D (TS cI cB cZ cR cM cS) [.ref a_this] [(a_this, .inr (7, [.ref a_st, .ref a_now, .ref a_isKept, .ref a_draft, .int v_hasSigns, .int v_hasEvery, .ref a_tape, .int v_taped, .int v_pos, .int v_begun, .int v_sort, .int v_value, .int v_fault, .int v_wrongAt, .int v_moved, .int v_slipTicks, .int v_bestCode, .int v_bestMuch, .long v_straightSum, .long v_movedSum, .long v_allWays, .ref a_wereAt, .ref a_byPlace, .ref a_lanes, .ref a_sizes, .ref a_cells, .int v_torn, .ref a_before])), (a_tape, .inl (cI, 160, .inl v_tape))] [(a_this, .inr (7, [.ref a_st, .ref a_now, .ref a_isKept, .ref a_draft, .int v_hasSigns, .int v_hasEvery, .ref a_tape, .int v_taped, .int v_pos, .int v_begun, .int v_sort, .int v_value, .int v_fault, .int v_wrongAt, .int v_moved, .int v_slipTicks, .int v_bestCode, .int v_bestMuch, .long v_straightSum, .long v_movedSum, .long v_allWays, .ref a_wereAt, .ref a_byPlace, .ref a_lanes, .ref a_sizes, .ref a_cells, .int v_torn, .ref a_before])), (a_tape, .inl (cI, 160, .inl v_tape))] res :=
  MI_of (by decide) (Nat.le_of_ble_eq_true rfl) (fun p e s m args below meth c A ls C hr hlk hK hA hP hD hS hl => by
    have C : CX p m c cX7_lineNow 1 s args RX7 := C
    have hl : lv_has ls 1 [(0, .ref a_this)] := hl
    unfold F_X7_lineNow at hF
    refine lv_aload_n C.1 C.2.1 dX7_lineNow_0 rfl (lv_at hl 0 rfl) ?_
    refine lv_bipush (v := 112) C.1 C.2.1 dX7_lineNow_1 (by decide) ?_
    refine lv_bipush (v := 108) C.1 C.2.1 dX7_lineNow_3 (by decide) ?_
    refine lv_bipush (v := 97) C.1 C.2.1 dX7_lineNow_5 (by decide) ?_
    refine lv_bipush (v := 105) C.1 C.2.1 dX7_lineNow_7 (by decide) ?_
    refine lv_bipush (v := 110) C.1 C.2.1 dX7_lineNow_9 (by decide) ?_
    obtain ⟨r1, h2, hF⟩ := fb hF
    refine callVI C hK hA hP hD hS [0, 1] (c_X7_is (a_this := a_this) (a_st := a_st) (a_now := a_now) (a_isKept := a_isKept) (a_draft := a_draft) (a_tape := a_tape) (a_wereAt := a_wereAt) (a_byPlace := a_byPlace) (a_lanes := a_lanes) (a_sizes := a_sizes) (a_cells := a_cells) (a_before := a_before) (v_hasSigns := v_hasSigns) (v_hasEvery := v_hasEvery) (v_taped := v_taped) (v_pos := v_pos) (v_begun := v_begun) (v_sort := v_sort) (v_value := v_value) (v_fault := v_fault) (v_wrongAt := v_wrongAt) (v_moved := v_moved) (v_slipTicks := v_slipTicks) (v_bestCode := v_bestCode) (v_bestMuch := v_bestMuch) (v_straightSum := v_straightSum) (v_movedSum := v_movedSum) (v_allWays := v_allWays) (v_torn := v_torn) (v_tape := v_tape) h2) cv_X7_is kw4_111 rfl (by decide) rfl rfl rfl ⟨Nat.le_of_ble_eq_true rfl, Nat.le_of_ble_eq_true rfl⟩ ⟨Nat.zero_le _, Nat.zero_le _⟩ hl.1 rfl (Nat.le_of_ble_eq_true rfl) dX7_lineNow_11 (fun H locs hP hD hS => ?_)
    have hP : va_P D vwCl [(a_this, .inr (7, [.ref a_st, .ref a_now, .ref a_isKept, .ref a_draft, .int v_hasSigns, .int v_hasEvery, .ref a_tape, .int v_taped, .int v_pos, .int v_begun, .int v_sort, .int v_value, .int v_fault, .int v_wrongAt, .int v_moved, .int v_slipTicks, .int v_bestCode, .int v_bestMuch, .long v_straightSum, .long v_movedSum, .long v_allWays, .ref a_wereAt, .ref a_byPlace, .ref a_lanes, .ref a_sizes, .ref a_cells, .int v_torn, .ref a_before])), (a_tape, .inl (cI, 160, .inl v_tape))] H := hP
    have hD : va_D A [(a_this, .inr (7, [.ref a_st, .ref a_now, .ref a_isKept, .ref a_draft, .int v_hasSigns, .int v_hasEvery, .ref a_tape, .int v_taped, .int v_pos, .int v_begun, .int v_sort, .int v_value, .int v_fault, .int v_wrongAt, .int v_moved, .int v_slipTicks, .int v_bestCode, .int v_bestMuch, .long v_straightSum, .long v_movedSum, .long v_allWays, .ref a_wereAt, .ref a_byPlace, .ref a_lanes, .ref a_sizes, .ref a_cells, .int v_torn, .ref a_before])), (a_tape, .inl (cI, 160, .inl v_tape))] := hD
    refine lv_if_eq (tgt := 19) C.1 C.2.1 dX7_lineNow_14 (by decide) (fun c3 => ?_) (fun c3 => ?_)
    · have hF := fp hF c3
      refine lv_aload_n C.1 C.2.1 dX7_lineNow_19 rfl (lv_at hl 0 rfl) ?_
      refine lv_bipush (v := 113) C.1 C.2.1 dX7_lineNow_20 (by decide) ?_
      refine lv_bipush (v := 117) C.1 C.2.1 dX7_lineNow_22 (by decide) ?_
      refine lv_bipush (v := 105) C.1 C.2.1 dX7_lineNow_24 (by decide) ?_
      refine lv_bipush (v := 99) C.1 C.2.1 dX7_lineNow_26 (by decide) ?_
      refine lv_bipush (v := 107) C.1 C.2.1 dX7_lineNow_28 (by decide) ?_
      obtain ⟨r4, h5, hF⟩ := fb hF
      refine callVI C hK hA hP hD hS [0, 1] (c_X7_is (a_this := a_this) (a_st := a_st) (a_now := a_now) (a_isKept := a_isKept) (a_draft := a_draft) (a_tape := a_tape) (a_wereAt := a_wereAt) (a_byPlace := a_byPlace) (a_lanes := a_lanes) (a_sizes := a_sizes) (a_cells := a_cells) (a_before := a_before) (v_hasSigns := v_hasSigns) (v_hasEvery := v_hasEvery) (v_taped := v_taped) (v_pos := v_pos) (v_begun := v_begun) (v_sort := v_sort) (v_value := v_value) (v_fault := v_fault) (v_wrongAt := v_wrongAt) (v_moved := v_moved) (v_slipTicks := v_slipTicks) (v_bestCode := v_bestCode) (v_bestMuch := v_bestMuch) (v_straightSum := v_straightSum) (v_movedSum := v_movedSum) (v_allWays := v_allWays) (v_torn := v_torn) (v_tape := v_tape) h5) cv_X7_is kw4_111 rfl (by decide) rfl rfl rfl ⟨Nat.le_of_ble_eq_true rfl, Nat.le_of_ble_eq_true rfl⟩ ⟨Nat.zero_le _, Nat.zero_le _⟩ hl.1 rfl (Nat.le_of_ble_eq_true rfl) dX7_lineNow_30 (fun H locs hP hD hS => ?_)
      have hP : va_P D vwCl [(a_this, .inr (7, [.ref a_st, .ref a_now, .ref a_isKept, .ref a_draft, .int v_hasSigns, .int v_hasEvery, .ref a_tape, .int v_taped, .int v_pos, .int v_begun, .int v_sort, .int v_value, .int v_fault, .int v_wrongAt, .int v_moved, .int v_slipTicks, .int v_bestCode, .int v_bestMuch, .long v_straightSum, .long v_movedSum, .long v_allWays, .ref a_wereAt, .ref a_byPlace, .ref a_lanes, .ref a_sizes, .ref a_cells, .int v_torn, .ref a_before])), (a_tape, .inl (cI, 160, .inl v_tape))] H := hP
      have hD : va_D A [(a_this, .inr (7, [.ref a_st, .ref a_now, .ref a_isKept, .ref a_draft, .int v_hasSigns, .int v_hasEvery, .ref a_tape, .int v_taped, .int v_pos, .int v_begun, .int v_sort, .int v_value, .int v_fault, .int v_wrongAt, .int v_moved, .int v_slipTicks, .int v_bestCode, .int v_bestMuch, .long v_straightSum, .long v_movedSum, .long v_allWays, .ref a_wereAt, .ref a_byPlace, .ref a_lanes, .ref a_sizes, .ref a_cells, .int v_torn, .ref a_before])), (a_tape, .inl (cI, 160, .inl v_tape))] := hD
      refine lv_if_eq (tgt := 38) C.1 C.2.1 dX7_lineNow_33 (by decide) (fun c6 => ?_) (fun c6 => ?_)
      · have hF := fp hF c6
        refine lv_aload_n C.1 C.2.1 dX7_lineNow_38 rfl (lv_at hl 0 rfl) ?_
        refine lv_bipush (v := 104) C.1 C.2.1 dX7_lineNow_39 (by decide) ?_
        refine lv_bipush (v := 101) C.1 C.2.1 dX7_lineNow_41 (by decide) ?_
        refine lv_bipush (v := 97) C.1 C.2.1 dX7_lineNow_43 (by decide) ?_
        refine lv_bipush (v := 118) C.1 C.2.1 dX7_lineNow_45 (by decide) ?_
        refine lv_bipush (v := 121) C.1 C.2.1 dX7_lineNow_47 (by decide) ?_
        obtain ⟨r7, h8, hF⟩ := fb hF
        refine callVI C hK hA hP hD hS [0, 1] (c_X7_is (a_this := a_this) (a_st := a_st) (a_now := a_now) (a_isKept := a_isKept) (a_draft := a_draft) (a_tape := a_tape) (a_wereAt := a_wereAt) (a_byPlace := a_byPlace) (a_lanes := a_lanes) (a_sizes := a_sizes) (a_cells := a_cells) (a_before := a_before) (v_hasSigns := v_hasSigns) (v_hasEvery := v_hasEvery) (v_taped := v_taped) (v_pos := v_pos) (v_begun := v_begun) (v_sort := v_sort) (v_value := v_value) (v_fault := v_fault) (v_wrongAt := v_wrongAt) (v_moved := v_moved) (v_slipTicks := v_slipTicks) (v_bestCode := v_bestCode) (v_bestMuch := v_bestMuch) (v_straightSum := v_straightSum) (v_movedSum := v_movedSum) (v_allWays := v_allWays) (v_torn := v_torn) (v_tape := v_tape) h8) cv_X7_is kw4_111 rfl (by decide) rfl rfl rfl ⟨Nat.le_of_ble_eq_true rfl, Nat.le_of_ble_eq_true rfl⟩ ⟨Nat.zero_le _, Nat.zero_le _⟩ hl.1 rfl (Nat.le_of_ble_eq_true rfl) dX7_lineNow_49 (fun H locs hP hD hS => ?_)
        have hP : va_P D vwCl [(a_this, .inr (7, [.ref a_st, .ref a_now, .ref a_isKept, .ref a_draft, .int v_hasSigns, .int v_hasEvery, .ref a_tape, .int v_taped, .int v_pos, .int v_begun, .int v_sort, .int v_value, .int v_fault, .int v_wrongAt, .int v_moved, .int v_slipTicks, .int v_bestCode, .int v_bestMuch, .long v_straightSum, .long v_movedSum, .long v_allWays, .ref a_wereAt, .ref a_byPlace, .ref a_lanes, .ref a_sizes, .ref a_cells, .int v_torn, .ref a_before])), (a_tape, .inl (cI, 160, .inl v_tape))] H := hP
        have hD : va_D A [(a_this, .inr (7, [.ref a_st, .ref a_now, .ref a_isKept, .ref a_draft, .int v_hasSigns, .int v_hasEvery, .ref a_tape, .int v_taped, .int v_pos, .int v_begun, .int v_sort, .int v_value, .int v_fault, .int v_wrongAt, .int v_moved, .int v_slipTicks, .int v_bestCode, .int v_bestMuch, .long v_straightSum, .long v_movedSum, .long v_allWays, .ref a_wereAt, .ref a_byPlace, .ref a_lanes, .ref a_sizes, .ref a_cells, .int v_torn, .ref a_before])), (a_tape, .inl (cI, 160, .inl v_tape))] := hD
        refine lv_if_eq (tgt := 57) C.1 C.2.1 dX7_lineNow_52 (by decide) (fun c9 => ?_) (fun c9 => ?_)
        · have hF := fp hF c9
          refine lv_aload_n C.1 C.2.1 dX7_lineNow_57 rfl (lv_at hl 0 rfl) ?_
          refine lv_bipush (v := 115) C.1 C.2.1 dX7_lineNow_58 (by decide) ?_
          refine lv_bipush (v := 116) C.1 C.2.1 dX7_lineNow_60 (by decide) ?_
          refine lv_bipush (v := 105) C.1 C.2.1 dX7_lineNow_62 (by decide) ?_
          refine lv_bipush (v := 102) C.1 C.2.1 dX7_lineNow_64 (by decide) ?_
          refine lv_bipush (v := 102) C.1 C.2.1 dX7_lineNow_66 (by decide) ?_
          obtain ⟨r10, h11, hF⟩ := fb hF
          refine callVI C hK hA hP hD hS [0, 1] (c_X7_is (a_this := a_this) (a_st := a_st) (a_now := a_now) (a_isKept := a_isKept) (a_draft := a_draft) (a_tape := a_tape) (a_wereAt := a_wereAt) (a_byPlace := a_byPlace) (a_lanes := a_lanes) (a_sizes := a_sizes) (a_cells := a_cells) (a_before := a_before) (v_hasSigns := v_hasSigns) (v_hasEvery := v_hasEvery) (v_taped := v_taped) (v_pos := v_pos) (v_begun := v_begun) (v_sort := v_sort) (v_value := v_value) (v_fault := v_fault) (v_wrongAt := v_wrongAt) (v_moved := v_moved) (v_slipTicks := v_slipTicks) (v_bestCode := v_bestCode) (v_bestMuch := v_bestMuch) (v_straightSum := v_straightSum) (v_movedSum := v_movedSum) (v_allWays := v_allWays) (v_torn := v_torn) (v_tape := v_tape) h11) cv_X7_is kw4_111 rfl (by decide) rfl rfl rfl ⟨Nat.le_of_ble_eq_true rfl, Nat.le_of_ble_eq_true rfl⟩ ⟨Nat.zero_le _, Nat.zero_le _⟩ hl.1 rfl (Nat.le_of_ble_eq_true rfl) dX7_lineNow_68 (fun H locs hP hD hS => ?_)
          have hP : va_P D vwCl [(a_this, .inr (7, [.ref a_st, .ref a_now, .ref a_isKept, .ref a_draft, .int v_hasSigns, .int v_hasEvery, .ref a_tape, .int v_taped, .int v_pos, .int v_begun, .int v_sort, .int v_value, .int v_fault, .int v_wrongAt, .int v_moved, .int v_slipTicks, .int v_bestCode, .int v_bestMuch, .long v_straightSum, .long v_movedSum, .long v_allWays, .ref a_wereAt, .ref a_byPlace, .ref a_lanes, .ref a_sizes, .ref a_cells, .int v_torn, .ref a_before])), (a_tape, .inl (cI, 160, .inl v_tape))] H := hP
          have hD : va_D A [(a_this, .inr (7, [.ref a_st, .ref a_now, .ref a_isKept, .ref a_draft, .int v_hasSigns, .int v_hasEvery, .ref a_tape, .int v_taped, .int v_pos, .int v_begun, .int v_sort, .int v_value, .int v_fault, .int v_wrongAt, .int v_moved, .int v_slipTicks, .int v_bestCode, .int v_bestMuch, .long v_straightSum, .long v_movedSum, .long v_allWays, .ref a_wereAt, .ref a_byPlace, .ref a_lanes, .ref a_sizes, .ref a_cells, .int v_torn, .ref a_before])), (a_tape, .inl (cI, 160, .inl v_tape))] := hD
          refine lv_if_eq (tgt := 76) C.1 C.2.1 dX7_lineNow_71 (by decide) (fun c12 => ?_) (fun c12 => ?_)
          · have hF := fp hF c12
            refine lv_aload_n C.1 C.2.1 dX7_lineNow_76 rfl (lv_at hl 0 rfl) ?_
            refine lv_bipush (v := 115) C.1 C.2.1 dX7_lineNow_77 (by decide) ?_
            refine lv_bipush (v := 105) C.1 C.2.1 dX7_lineNow_79 (by decide) ?_
            refine lv_bipush (v := 103) C.1 C.2.1 dX7_lineNow_81 (by decide) ?_
            refine lv_bipush (v := 110) C.1 C.2.1 dX7_lineNow_83 (by decide) ?_
            refine lv_bipush (v := 115) C.1 C.2.1 dX7_lineNow_85 (by decide) ?_
            obtain ⟨r13, h14, hF⟩ := fb hF
            refine callVI C hK hA hP hD hS [0, 1] (c_X7_is (a_this := a_this) (a_st := a_st) (a_now := a_now) (a_isKept := a_isKept) (a_draft := a_draft) (a_tape := a_tape) (a_wereAt := a_wereAt) (a_byPlace := a_byPlace) (a_lanes := a_lanes) (a_sizes := a_sizes) (a_cells := a_cells) (a_before := a_before) (v_hasSigns := v_hasSigns) (v_hasEvery := v_hasEvery) (v_taped := v_taped) (v_pos := v_pos) (v_begun := v_begun) (v_sort := v_sort) (v_value := v_value) (v_fault := v_fault) (v_wrongAt := v_wrongAt) (v_moved := v_moved) (v_slipTicks := v_slipTicks) (v_bestCode := v_bestCode) (v_bestMuch := v_bestMuch) (v_straightSum := v_straightSum) (v_movedSum := v_movedSum) (v_allWays := v_allWays) (v_torn := v_torn) (v_tape := v_tape) h14) cv_X7_is kw4_111 rfl (by decide) rfl rfl rfl ⟨Nat.le_of_ble_eq_true rfl, Nat.le_of_ble_eq_true rfl⟩ ⟨Nat.zero_le _, Nat.zero_le _⟩ hl.1 rfl (Nat.le_of_ble_eq_true rfl) dX7_lineNow_87 (fun H locs hP hD hS => ?_)
            have hP : va_P D vwCl [(a_this, .inr (7, [.ref a_st, .ref a_now, .ref a_isKept, .ref a_draft, .int v_hasSigns, .int v_hasEvery, .ref a_tape, .int v_taped, .int v_pos, .int v_begun, .int v_sort, .int v_value, .int v_fault, .int v_wrongAt, .int v_moved, .int v_slipTicks, .int v_bestCode, .int v_bestMuch, .long v_straightSum, .long v_movedSum, .long v_allWays, .ref a_wereAt, .ref a_byPlace, .ref a_lanes, .ref a_sizes, .ref a_cells, .int v_torn, .ref a_before])), (a_tape, .inl (cI, 160, .inl v_tape))] H := hP
            have hD : va_D A [(a_this, .inr (7, [.ref a_st, .ref a_now, .ref a_isKept, .ref a_draft, .int v_hasSigns, .int v_hasEvery, .ref a_tape, .int v_taped, .int v_pos, .int v_begun, .int v_sort, .int v_value, .int v_fault, .int v_wrongAt, .int v_moved, .int v_slipTicks, .int v_bestCode, .int v_bestMuch, .long v_straightSum, .long v_movedSum, .long v_allWays, .ref a_wereAt, .ref a_byPlace, .ref a_lanes, .ref a_sizes, .ref a_cells, .int v_torn, .ref a_before])), (a_tape, .inl (cI, 160, .inl v_tape))] := hD
            refine lv_if_eq (tgt := 97) C.1 C.2.1 dX7_lineNow_90 (by decide) (fun c15 => ?_) (fun c15 => ?_)
            · have hF := fp hF c15
              refine lv_aload_n C.1 C.2.1 dX7_lineNow_97 rfl (lv_at hl 0 rfl) ?_
              refine lv_bipush (v := 101) C.1 C.2.1 dX7_lineNow_98 (by decide) ?_
              refine lv_bipush (v := 118) C.1 C.2.1 dX7_lineNow_100 (by decide) ?_
              refine lv_bipush (v := 101) C.1 C.2.1 dX7_lineNow_102 (by decide) ?_
              refine lv_bipush (v := 114) C.1 C.2.1 dX7_lineNow_104 (by decide) ?_
              refine lv_bipush (v := 121) C.1 C.2.1 dX7_lineNow_106 (by decide) ?_
              obtain ⟨r16, h17, hF⟩ := fb hF
              refine callVI C hK hA hP hD hS [0, 1] (c_X7_is (a_this := a_this) (a_st := a_st) (a_now := a_now) (a_isKept := a_isKept) (a_draft := a_draft) (a_tape := a_tape) (a_wereAt := a_wereAt) (a_byPlace := a_byPlace) (a_lanes := a_lanes) (a_sizes := a_sizes) (a_cells := a_cells) (a_before := a_before) (v_hasSigns := v_hasSigns) (v_hasEvery := v_hasEvery) (v_taped := v_taped) (v_pos := v_pos) (v_begun := v_begun) (v_sort := v_sort) (v_value := v_value) (v_fault := v_fault) (v_wrongAt := v_wrongAt) (v_moved := v_moved) (v_slipTicks := v_slipTicks) (v_bestCode := v_bestCode) (v_bestMuch := v_bestMuch) (v_straightSum := v_straightSum) (v_movedSum := v_movedSum) (v_allWays := v_allWays) (v_torn := v_torn) (v_tape := v_tape) h17) cv_X7_is kw4_111 rfl (by decide) rfl rfl rfl ⟨Nat.le_of_ble_eq_true rfl, Nat.le_of_ble_eq_true rfl⟩ ⟨Nat.zero_le _, Nat.zero_le _⟩ hl.1 rfl (Nat.le_of_ble_eq_true rfl) dX7_lineNow_108 (fun H locs hP hD hS => ?_)
              have hP : va_P D vwCl [(a_this, .inr (7, [.ref a_st, .ref a_now, .ref a_isKept, .ref a_draft, .int v_hasSigns, .int v_hasEvery, .ref a_tape, .int v_taped, .int v_pos, .int v_begun, .int v_sort, .int v_value, .int v_fault, .int v_wrongAt, .int v_moved, .int v_slipTicks, .int v_bestCode, .int v_bestMuch, .long v_straightSum, .long v_movedSum, .long v_allWays, .ref a_wereAt, .ref a_byPlace, .ref a_lanes, .ref a_sizes, .ref a_cells, .int v_torn, .ref a_before])), (a_tape, .inl (cI, 160, .inl v_tape))] H := hP
              have hD : va_D A [(a_this, .inr (7, [.ref a_st, .ref a_now, .ref a_isKept, .ref a_draft, .int v_hasSigns, .int v_hasEvery, .ref a_tape, .int v_taped, .int v_pos, .int v_begun, .int v_sort, .int v_value, .int v_fault, .int v_wrongAt, .int v_moved, .int v_slipTicks, .int v_bestCode, .int v_bestMuch, .long v_straightSum, .long v_movedSum, .long v_allWays, .ref a_wereAt, .ref a_byPlace, .ref a_lanes, .ref a_sizes, .ref a_cells, .int v_torn, .ref a_before])), (a_tape, .inl (cI, 160, .inl v_tape))] := hD
              refine lv_if_eq (tgt := 118) C.1 C.2.1 dX7_lineNow_111 (by decide) (fun c18 => ?_) (fun c18 => ?_)
              · have hF := fp hF c18
                refine lv_bipush (v := (-4)) C.1 C.2.1 dX7_lineNow_118 (by decide) ?_
                have hF := Option.some.inj hF
                subst hF
                exact retI C hr hlk hP hD hS dX7_lineNow_120
              · have hF := fn hF c18
                refine lv_iconst (v := 5) C.1 C.2.1 dX7_lineNow_114 (by decide) ?_
                refine lv_goto (tgt := 120) C.1 C.2.1 dX7_lineNow_115 (by decide) ?_
                have hF := Option.some.inj hF
                subst hF
                exact retI C hr hlk hP hD hS dX7_lineNow_120
            · have hF := fn hF c15
              refine lv_iconst (v := 4) C.1 C.2.1 dX7_lineNow_93 (by decide) ?_
              refine lv_goto (tgt := 120) C.1 C.2.1 dX7_lineNow_94 (by decide) ?_
              have hF := Option.some.inj hF
              subst hF
              exact retI C hr hlk hP hD hS dX7_lineNow_120
          · have hF := fn hF c12
            refine lv_iconst (v := 3) C.1 C.2.1 dX7_lineNow_74 (by decide) ?_
            have hF := Option.some.inj hF
            subst hF
            exact retI C hr hlk hP hD hS dX7_lineNow_75
        · have hF := fn hF c9
          refine lv_iconst (v := 2) C.1 C.2.1 dX7_lineNow_55 (by decide) ?_
          have hF := Option.some.inj hF
          subst hF
          exact retI C hr hlk hP hD hS dX7_lineNow_56
      · have hF := fn hF c6
        refine lv_iconst (v := 1) C.1 C.2.1 dX7_lineNow_36 (by decide) ?_
        have hF := Option.some.inj hF
        subst hF
        exact retI C hr hlk hP hD hS dX7_lineNow_37
    · have hF := fn hF c3
      refine lv_iconst (v := 0) C.1 C.2.1 dX7_lineNow_17 (by decide) ?_
      have hF := Option.some.inj hF
      subst hF
      exact retI C hr hlk hP hD hS dX7_lineNow_18)
