def rm_X7_ask : Room := { frames := 7, cells := 0, slots := 0, locals := 158 }
theorem cv_X7_ask : CV yX7_ask cX7_ask 8 (some .int) rm_X7_ask RX7 2 := ⟨kw5_132, kw5_133, kw1_8, kw5_134, by decide +kernel, rfl, rfl⟩
set_option maxHeartbeats 4000000 in
set_option maxRecDepth 100000 in
theorem b_X7_ask_154 {l : Launch} {D : va_G} {cI cB cZ cR cM cS : ClassId} {a_this : Nat} {a_st : Nat} {a_now : Nat} {a_isKept : Nat} {a_draft : Nat} {a_tape : Nat} {a_wereAt : Nat} {a_byPlace : Nat} {a_lanes : Nat} {a_sizes : Nat} {a_cells : Nat} {a_before : Nat} {v_hasSigns : Int32} {v_hasEvery : Int32} {v_taped : Int32} {v_pos : Int32} {v_begun : Int32} {v_sort : Int32} {v_value : Int32} {v_fault : Int32} {v_wrongAt : Int32} {v_straightSum : Int64} {v_movedSum : Int64} {v_allWays : Int64} {v_torn : Int32} {p : Program} {e : Env} {s : State} {m : MethodId} {args : Array Value} {below : List Frame} {meth : Method} {c : Code} {A : Nat → Prop} {res : Int32 × Int32 × Int32 × Int32 × Int32 × (Nat → Int32) × (Nat → Int32) × (Nat → Int32)} (C : CX p m c cX7_ask 8 s args RX7) (hr : meth.sig.returnType = (some .int)) (hlk : meth.locks = false) (hK : KK D (TS cI cB cZ cR cM cS) s) (hA : ∀ q, s.heap.size ≤ q → A q) (kk : Int32 → Int32 → Int32 → Int32 → (Nat → Int32) → (Nat → Int32) → (Nat → Int32) → (Nat → Int32) → Int32 → Int32 → Option (Int32 × Int32 × Int32 × Int32 × Int32 × (Nat → Int32) × (Nat → Int32) × (Nat → Int32))) (hk : ∀ (v_moved : Int32) (v_slipTicks : Int32) (v_bestCode : Int32) (v_bestMuch : Int32) (v_st : Nat → Int32) (v_now : Nat → Int32) (v_wereAt : Nat → Int32) (v_byPlace : Nat → Int32) (x2 : Int32) (x5 : Int32) (H : Heap) (locs : List Loc) (ls : Array Slot), kk v_moved v_slipTicks v_bestCode v_bestMuch v_st v_now v_wereAt v_byPlace x2 x5 = some res → va_P D vwCl [(a_this, .inr (7, [.ref a_st, .ref a_now, .ref a_isKept, .ref a_draft, .int v_hasSigns, .int v_hasEvery, .ref a_tape, .int v_taped, .int v_pos, .int v_begun, .int v_sort, .int v_value, .int v_fault, .int v_wrongAt, .int v_moved, .int v_slipTicks, .int v_bestCode, .int v_bestMuch, .long v_straightSum, .long v_movedSum, .long v_allWays, .ref a_wereAt, .ref a_byPlace, .ref a_lanes, .ref a_sizes, .ref a_cells, .int v_torn, .ref a_before])), (a_st, .inl (cI, 168, .inl v_st)), (a_now, .inl (cI, 56, .inl v_now)), (a_wereAt, .inl (cI, 164, .inl v_wereAt)), (a_byPlace, .inl (cI, 328, .inl v_byPlace))] H → va_D A [(a_this, .inr (7, [.ref a_st, .ref a_now, .ref a_isKept, .ref a_draft, .int v_hasSigns, .int v_hasEvery, .ref a_tape, .int v_taped, .int v_pos, .int v_begun, .int v_sort, .int v_value, .int v_fault, .int v_wrongAt, .int v_moved, .int v_slipTicks, .int v_bestCode, .int v_bestMuch, .long v_straightSum, .long v_movedSum, .long v_allWays, .ref a_wereAt, .ref a_byPlace, .ref a_lanes, .ref a_sizes, .ref a_cells, .int v_torn, .ref a_before])), (a_st, .inl (cI, 168, .inl v_st)), (a_now, .inl (cI, 56, .inl v_now)), (a_wereAt, .inl (cI, 164, .inl v_wereAt)), (a_byPlace, .inl (cI, 328, .inl v_byPlace))] → va_S A s.heap H locs → lv_has ls 8 [(0, .ref a_this), (2, .int x2), (5, .int x5)] → W p l e rm_X7_ask s m args below meth c H locs 0 0 (MQ below (va_Qi (fun x (_ : Unit) => x = res.1) (BW D A [(a_this, .inr (7, [.ref a_st, .ref a_now, .ref a_isKept, .ref a_draft, .int v_hasSigns, .int v_hasEvery, .ref a_tape, .int v_taped, .int v_pos, .int v_begun, .int v_sort, .int v_value, .int v_fault, .int v_wrongAt, .int res.2.1, .int res.2.2.1, .int res.2.2.2.1, .int res.2.2.2.2.1, .long v_straightSum, .long v_movedSum, .long v_allWays, .ref a_wereAt, .ref a_byPlace, .ref a_lanes, .ref a_sizes, .ref a_cells, .int v_torn, .ref a_before])), (a_st, .inl (cI, 168, .inl v_st)), (a_now, .inl (cI, 56, .inl res.2.2.2.2.2.1)), (a_wereAt, .inl (cI, 164, .inl res.2.2.2.2.2.2.1)), (a_byPlace, .inl (cI, 328, .inl res.2.2.2.2.2.2.2))]) A) args s 0 0 A) (F0 m 141 ls [])) : ∀ (fu : Nat) (v_moved : Int32) (v_slipTicks : Int32) (v_bestCode : Int32) (v_bestMuch : Int32) (v_st : Nat → Int32) (v_now : Nat → Int32) (v_wereAt : Nat → Int32) (v_byPlace : Nat → Int32) (x2 : Int32) (x5 : Int32) (x6 : Int32) (x7 : Int32) (H : Heap) (locs : List Loc) (ls : Array Slot), F_X7_ask_154 fu kk v_moved v_slipTicks v_bestCode v_bestMuch v_st v_now v_wereAt v_byPlace x2 x5 x6 x7 = some res → va_P D vwCl [(a_this, .inr (7, [.ref a_st, .ref a_now, .ref a_isKept, .ref a_draft, .int v_hasSigns, .int v_hasEvery, .ref a_tape, .int v_taped, .int v_pos, .int v_begun, .int v_sort, .int v_value, .int v_fault, .int v_wrongAt, .int v_moved, .int v_slipTicks, .int v_bestCode, .int v_bestMuch, .long v_straightSum, .long v_movedSum, .long v_allWays, .ref a_wereAt, .ref a_byPlace, .ref a_lanes, .ref a_sizes, .ref a_cells, .int v_torn, .ref a_before])), (a_st, .inl (cI, 168, .inl v_st)), (a_now, .inl (cI, 56, .inl v_now)), (a_wereAt, .inl (cI, 164, .inl v_wereAt)), (a_byPlace, .inl (cI, 328, .inl v_byPlace))] H → va_D A [(a_this, .inr (7, [.ref a_st, .ref a_now, .ref a_isKept, .ref a_draft, .int v_hasSigns, .int v_hasEvery, .ref a_tape, .int v_taped, .int v_pos, .int v_begun, .int v_sort, .int v_value, .int v_fault, .int v_wrongAt, .int v_moved, .int v_slipTicks, .int v_bestCode, .int v_bestMuch, .long v_straightSum, .long v_movedSum, .long v_allWays, .ref a_wereAt, .ref a_byPlace, .ref a_lanes, .ref a_sizes, .ref a_cells, .int v_torn, .ref a_before])), (a_st, .inl (cI, 168, .inl v_st)), (a_now, .inl (cI, 56, .inl v_now)), (a_wereAt, .inl (cI, 164, .inl v_wereAt)), (a_byPlace, .inl (cI, 328, .inl v_byPlace))] → va_S A s.heap H locs → lv_has ls 8 [(0, .ref a_this), (2, .int x2), (5, .int x5), (6, .int x6), (7, .int x7)] → W p l e rm_X7_ask s m args below meth c H locs 0 0 (MQ below (va_Qi (fun x (_ : Unit) => x = res.1) (BW D A [(a_this, .inr (7, [.ref a_st, .ref a_now, .ref a_isKept, .ref a_draft, .int v_hasSigns, .int v_hasEvery, .ref a_tape, .int v_taped, .int v_pos, .int v_begun, .int v_sort, .int v_value, .int v_fault, .int v_wrongAt, .int res.2.1, .int res.2.2.1, .int res.2.2.2.1, .int res.2.2.2.2.1, .long v_straightSum, .long v_movedSum, .long v_allWays, .ref a_wereAt, .ref a_byPlace, .ref a_lanes, .ref a_sizes, .ref a_cells, .int v_torn, .ref a_before])), (a_st, .inl (cI, 168, .inl v_st)), (a_now, .inl (cI, 56, .inl res.2.2.2.2.2.1)), (a_wereAt, .inl (cI, 164, .inl res.2.2.2.2.2.2.1)), (a_byPlace, .inl (cI, 328, .inl res.2.2.2.2.2.2.2))]) A) args s 0 0 A) (F0 m 154 ls []) := by
  intro fu
  induction fu with
  | zero => intro v_moved v_slipTicks v_bestCode v_bestMuch v_st v_now v_wereAt v_byPlace x2 x5 x6 x7 H locs ls hF; cases hF
  | succ fu ih =>
    intro v_moved v_slipTicks v_bestCode v_bestMuch v_st v_now v_wereAt v_byPlace x2 x5 x6 x7 H locs ls hF  hP hD hS hl
    unfold F_X7_ask_154 at hF
    refine lv_iload C.1 C.2.1 dX7_ask_154 (lv_at hl 4 rfl) ?_
    refine lv_bipush (v := 8) C.1 C.2.1 dX7_ask_156 (by decide) ?_
    refine lv_icmp_ge (tgt := 205) C.1 C.2.1 dX7_ask_158 (by decide) (fun c1 => ?_) (fun c1 => ?_)
    · have hF := fp hF c1
      refine lv_aload_n C.1 C.2.1 dX7_ask_205 rfl (lv_at hl 0 rfl) ?_
      refine lv_iload C.1 C.2.1 dX7_ask_206 (lv_at hl 2 rfl) ?_
      refine lv_iload C.1 C.2.1 dX7_ask_208 (lv_at hl 3 rfl) ?_
      obtain ⟨⟨w2, w3⟩, h4, hF⟩ := fb hF
      refine callVV C hK hA hP hD hS [0] (c_X7_judges (a_this := a_this) (a_st := a_st) (a_now := a_now) (a_isKept := a_isKept) (a_draft := a_draft) (a_tape := a_tape) (a_wereAt := a_wereAt) (a_byPlace := a_byPlace) (a_lanes := a_lanes) (a_sizes := a_sizes) (a_cells := a_cells) (a_before := a_before) (v_hasSigns := v_hasSigns) (v_hasEvery := v_hasEvery) (v_taped := v_taped) (v_pos := v_pos) (v_begun := v_begun) (v_sort := v_sort) (v_value := v_value) (v_fault := v_fault) (v_wrongAt := v_wrongAt) (v_moved := v_moved) (v_slipTicks := v_slipTicks) (v_bestCode := v_bestCode) (v_bestMuch := v_bestMuch) (v_straightSum := v_straightSum) (v_movedSum := v_movedSum) (v_allWays := v_allWays) (v_torn := v_torn) h4) cv_X7_judges kw5_60 rfl (by decide) rfl rfl rfl ⟨Nat.le_of_ble_eq_true rfl, Nat.le_of_ble_eq_true rfl⟩ ⟨Nat.zero_le _, Nat.zero_le _⟩ hl.1 rfl (Nat.le_of_ble_eq_true rfl) dX7_ask_210 (fun H locs hP hD hS => ?_)
      have hP : va_P D vwCl [(a_this, .inr (7, [.ref a_st, .ref a_now, .ref a_isKept, .ref a_draft, .int v_hasSigns, .int v_hasEvery, .ref a_tape, .int v_taped, .int v_pos, .int v_begun, .int v_sort, .int v_value, .int v_fault, .int v_wrongAt, .int v_moved, .int v_slipTicks, .int w2, .int w3, .long v_straightSum, .long v_movedSum, .long v_allWays, .ref a_wereAt, .ref a_byPlace, .ref a_lanes, .ref a_sizes, .ref a_cells, .int v_torn, .ref a_before])), (a_st, .inl (cI, 168, .inl v_st)), (a_now, .inl (cI, 56, .inl v_now)), (a_wereAt, .inl (cI, 164, .inl v_wereAt)), (a_byPlace, .inl (cI, 328, .inl v_byPlace))] H := hP
      have hD : va_D A [(a_this, .inr (7, [.ref a_st, .ref a_now, .ref a_isKept, .ref a_draft, .int v_hasSigns, .int v_hasEvery, .ref a_tape, .int v_taped, .int v_pos, .int v_begun, .int v_sort, .int v_value, .int v_fault, .int v_wrongAt, .int v_moved, .int v_slipTicks, .int w2, .int w3, .long v_straightSum, .long v_movedSum, .long v_allWays, .ref a_wereAt, .ref a_byPlace, .ref a_lanes, .ref a_sizes, .ref a_cells, .int v_torn, .ref a_before])), (a_st, .inl (cI, 168, .inl v_st)), (a_now, .inl (cI, 56, .inl v_now)), (a_wereAt, .inl (cI, 164, .inl v_wereAt)), (a_byPlace, .inl (cI, 328, .inl v_byPlace))] := hD
      refine lv_iinc (v := x5 + 1) (lv' := [(5, .int (x5 + 1)), (0, .ref a_this), (2, .int x2), (6, .int x6), (7, .int x7)]) C.1 C.2.1 dX7_ask_213 hl (k := 2) rfl rfl (by decide) rfl (fun ls hl => ?_)
      refine lv_goto (tgt := 141) C.1 C.2.1 dX7_ask_216 (by decide) ?_
      exact hk v_moved v_slipTicks w2 w3 v_st v_now v_wereAt v_byPlace x2 (x5 + 1) _ _ _ hF hP hD hS (lv_sub hl [1, 2, 0] rfl)
    · have hF := fn hF c1
      refine lv_aload_n C.1 C.2.1 dX7_ask_161 rfl (lv_at hl 0 rfl) ?_
      refine gf_7_7_byPlace C hK hP 0 rfl rfl dX7_ask_162 ?_
      refine lv_bipush (v := 8) C.1 C.2.1 dX7_ask_165 (by decide) ?_
      refine lv_iload C.1 C.2.1 dX7_ask_167 (lv_at hl 2 rfl) ?_
      refine lv_imul C.1 C.2.1 dX7_ask_169 ?_
      refine lv_iload C.1 C.2.1 dX7_ask_170 (lv_at hl 4 rfl) ?_
      refine lv_iadd C.1 C.2.1 dX7_ask_172 ?_
      obtain ⟨h5, hF⟩ := fk hF
      refine va_iald C.1 C.2.1 hK.1 hP 4 0 rfl rfl h5 dX7_ask_173 ?_
      refine lv_iload C.1 C.2.1 dX7_ask_174 (lv_at hl 3 rfl) ?_
      refine lv_icmp_le (tgt := 195) C.1 C.2.1 dX7_ask_176 (by decide) (fun c6 => ?_) (fun c6 => ?_)
      · have hF := fp hF c6
        refine lv_iload C.1 C.2.1 dX7_ask_195 (lv_at hl 3 rfl) ?_
        refine lv_istore (lv' := [(6, .int x6), (0, .ref a_this), (2, .int x2), (5, .int x5), (7, .int x7)]) C.1 C.2.1 dX7_ask_197 hl (by decide) rfl (fun ls hl => ?_)
        refine lv_iinc (v := x7 + 1) (lv' := [(7, .int (x7 + 1)), (6, .int x6), (0, .ref a_this), (2, .int x2), (5, .int x5)]) C.1 C.2.1 dX7_ask_199 hl (k := 4) rfl rfl (by decide) rfl (fun ls hl => ?_)
        refine lv_goto (tgt := 154) C.1 C.2.1 dX7_ask_202 (by decide) ?_
        exact ih v_moved v_slipTicks v_bestCode v_bestMuch v_st v_now v_wereAt v_byPlace x2 x5 x6 (x7 + 1) _ _ _ hF hP hD hS (lv_sub hl [2, 3, 4, 1, 0] rfl)
      · have hF := fn hF c6
        refine lv_aload_n C.1 C.2.1 dX7_ask_179 rfl (lv_at hl 0 rfl) ?_
        refine gf_7_7_byPlace C hK hP 0 rfl rfl dX7_ask_180 ?_
        refine lv_bipush (v := 8) C.1 C.2.1 dX7_ask_183 (by decide) ?_
        refine lv_iload C.1 C.2.1 dX7_ask_185 (lv_at hl 2 rfl) ?_
        refine lv_imul C.1 C.2.1 dX7_ask_187 ?_
        refine lv_iload C.1 C.2.1 dX7_ask_188 (lv_at hl 4 rfl) ?_
        refine lv_iadd C.1 C.2.1 dX7_ask_190 ?_
        obtain ⟨h7, hF⟩ := fk hF
        refine va_iald C.1 C.2.1 hK.1 hP 4 0 rfl rfl h7 dX7_ask_191 ?_
        refine lv_goto (tgt := 197) C.1 C.2.1 dX7_ask_192 (by decide) ?_
        refine lv_istore (lv' := [(6, .int (v_byPlace (((8 : Int32) * x5) + x7).toNatClampNeg)), (0, .ref a_this), (2, .int x2), (5, .int x5), (7, .int x7)]) C.1 C.2.1 dX7_ask_197 hl (by decide) rfl (fun ls hl => ?_)
        refine lv_iinc (v := x7 + 1) (lv' := [(7, .int (x7 + 1)), (6, .int (v_byPlace (((8 : Int32) * x5) + x7).toNatClampNeg)), (0, .ref a_this), (2, .int x2), (5, .int x5)]) C.1 C.2.1 dX7_ask_199 hl (k := 4) rfl rfl (by decide) rfl (fun ls hl => ?_)
        refine lv_goto (tgt := 154) C.1 C.2.1 dX7_ask_202 (by decide) ?_
        exact ih v_moved v_slipTicks v_bestCode v_bestMuch v_st v_now v_wereAt v_byPlace x2 x5 (v_byPlace (((8 : Int32) * x5) + x7).toNatClampNeg) (x7 + 1) _ _ _ hF hP hD hS (lv_sub hl [2, 3, 4, 1, 0] rfl)
set_option maxHeartbeats 4000000 in
set_option maxRecDepth 100000 in
theorem b_X7_ask_141 {l : Launch} {D : va_G} {cI cB cZ cR cM cS : ClassId} {a_this : Nat} {a_st : Nat} {a_now : Nat} {a_isKept : Nat} {a_draft : Nat} {a_tape : Nat} {a_wereAt : Nat} {a_byPlace : Nat} {a_lanes : Nat} {a_sizes : Nat} {a_cells : Nat} {a_before : Nat} {v_hasSigns : Int32} {v_hasEvery : Int32} {v_taped : Int32} {v_pos : Int32} {v_begun : Int32} {v_sort : Int32} {v_value : Int32} {v_fault : Int32} {v_wrongAt : Int32} {v_straightSum : Int64} {v_movedSum : Int64} {v_allWays : Int64} {v_torn : Int32} {p : Program} {e : Env} {s : State} {m : MethodId} {args : Array Value} {below : List Frame} {meth : Method} {c : Code} {A : Nat → Prop} {res : Int32 × Int32 × Int32 × Int32 × Int32 × (Nat → Int32) × (Nat → Int32) × (Nat → Int32)} (C : CX p m c cX7_ask 8 s args RX7) (hr : meth.sig.returnType = (some .int)) (hlk : meth.locks = false) (hK : KK D (TS cI cB cZ cR cM cS) s) (hA : ∀ q, s.heap.size ≤ q → A q) : ∀ (fu : Nat) (v_moved : Int32) (v_slipTicks : Int32) (v_bestCode : Int32) (v_bestMuch : Int32) (v_st : Nat → Int32) (v_now : Nat → Int32) (v_wereAt : Nat → Int32) (v_byPlace : Nat → Int32) (x2 : Int32) (x5 : Int32) (H : Heap) (locs : List Loc) (ls : Array Slot), F_X7_ask_141 fu v_moved v_slipTicks v_bestCode v_bestMuch v_st v_now v_wereAt v_byPlace x2 x5 = some res → va_P D vwCl [(a_this, .inr (7, [.ref a_st, .ref a_now, .ref a_isKept, .ref a_draft, .int v_hasSigns, .int v_hasEvery, .ref a_tape, .int v_taped, .int v_pos, .int v_begun, .int v_sort, .int v_value, .int v_fault, .int v_wrongAt, .int v_moved, .int v_slipTicks, .int v_bestCode, .int v_bestMuch, .long v_straightSum, .long v_movedSum, .long v_allWays, .ref a_wereAt, .ref a_byPlace, .ref a_lanes, .ref a_sizes, .ref a_cells, .int v_torn, .ref a_before])), (a_st, .inl (cI, 168, .inl v_st)), (a_now, .inl (cI, 56, .inl v_now)), (a_wereAt, .inl (cI, 164, .inl v_wereAt)), (a_byPlace, .inl (cI, 328, .inl v_byPlace))] H → va_D A [(a_this, .inr (7, [.ref a_st, .ref a_now, .ref a_isKept, .ref a_draft, .int v_hasSigns, .int v_hasEvery, .ref a_tape, .int v_taped, .int v_pos, .int v_begun, .int v_sort, .int v_value, .int v_fault, .int v_wrongAt, .int v_moved, .int v_slipTicks, .int v_bestCode, .int v_bestMuch, .long v_straightSum, .long v_movedSum, .long v_allWays, .ref a_wereAt, .ref a_byPlace, .ref a_lanes, .ref a_sizes, .ref a_cells, .int v_torn, .ref a_before])), (a_st, .inl (cI, 168, .inl v_st)), (a_now, .inl (cI, 56, .inl v_now)), (a_wereAt, .inl (cI, 164, .inl v_wereAt)), (a_byPlace, .inl (cI, 328, .inl v_byPlace))] → va_S A s.heap H locs → lv_has ls 8 [(0, .ref a_this), (2, .int x2), (5, .int x5)] → W p l e rm_X7_ask s m args below meth c H locs 0 0 (MQ below (va_Qi (fun x (_ : Unit) => x = res.1) (BW D A [(a_this, .inr (7, [.ref a_st, .ref a_now, .ref a_isKept, .ref a_draft, .int v_hasSigns, .int v_hasEvery, .ref a_tape, .int v_taped, .int v_pos, .int v_begun, .int v_sort, .int v_value, .int v_fault, .int v_wrongAt, .int res.2.1, .int res.2.2.1, .int res.2.2.2.1, .int res.2.2.2.2.1, .long v_straightSum, .long v_movedSum, .long v_allWays, .ref a_wereAt, .ref a_byPlace, .ref a_lanes, .ref a_sizes, .ref a_cells, .int v_torn, .ref a_before])), (a_st, .inl (cI, 168, .inl v_st)), (a_now, .inl (cI, 56, .inl res.2.2.2.2.2.1)), (a_wereAt, .inl (cI, 164, .inl res.2.2.2.2.2.2.1)), (a_byPlace, .inl (cI, 328, .inl res.2.2.2.2.2.2.2))]) A) args s 0 0 A) (F0 m 141 ls []) := by
  intro fu
  induction fu with
  | zero => intro v_moved v_slipTicks v_bestCode v_bestMuch v_st v_now v_wereAt v_byPlace x2 x5 H locs ls hF; cases hF
  | succ fu ih =>
    intro v_moved v_slipTicks v_bestCode v_bestMuch v_st v_now v_wereAt v_byPlace x2 x5 H locs ls hF  hP hD hS hl
    unfold F_X7_ask_141 at hF
    refine lv_iload C.1 C.2.1 dX7_ask_141 (lv_at hl 2 rfl) ?_
    refine lv_bipush (v := 40) C.1 C.2.1 dX7_ask_143 (by decide) ?_
    refine lv_icmp_gt (tgt := 219) C.1 C.2.1 dX7_ask_145 (by decide) (fun c1 => ?_) (fun c1 => ?_)
    · have hF := fp hF c1
      refine lv_aload_n C.1 C.2.1 dX7_ask_219 rfl (lv_at hl 0 rfl) ?_
      refine lv_iload_n C.1 C.2.1 dX7_ask_220 rfl (lv_at hl 1 rfl) ?_
      obtain ⟨r2, h3, hF⟩ := fb hF
      refine callVI C hK hA hP hD hS [0] (c_X7_judged (a_this := a_this) (a_st := a_st) (a_now := a_now) (a_isKept := a_isKept) (a_draft := a_draft) (a_tape := a_tape) (a_wereAt := a_wereAt) (a_byPlace := a_byPlace) (a_lanes := a_lanes) (a_sizes := a_sizes) (a_cells := a_cells) (a_before := a_before) (v_hasSigns := v_hasSigns) (v_hasEvery := v_hasEvery) (v_taped := v_taped) (v_pos := v_pos) (v_begun := v_begun) (v_sort := v_sort) (v_value := v_value) (v_fault := v_fault) (v_wrongAt := v_wrongAt) (v_moved := v_moved) (v_slipTicks := v_slipTicks) (v_bestCode := v_bestCode) (v_bestMuch := v_bestMuch) (v_straightSum := v_straightSum) (v_movedSum := v_movedSum) (v_allWays := v_allWays) (v_torn := v_torn) h3) cv_X7_judged kw5_64 rfl (by decide) rfl rfl rfl ⟨Nat.le_of_ble_eq_true rfl, Nat.le_of_ble_eq_true rfl⟩ ⟨Nat.zero_le _, Nat.zero_le _⟩ hl.1 rfl (Nat.le_of_ble_eq_true rfl) dX7_ask_221 (fun H locs hP hD hS => ?_)
      have hP : va_P D vwCl [(a_this, .inr (7, [.ref a_st, .ref a_now, .ref a_isKept, .ref a_draft, .int v_hasSigns, .int v_hasEvery, .ref a_tape, .int v_taped, .int v_pos, .int v_begun, .int v_sort, .int v_value, .int v_fault, .int v_wrongAt, .int v_moved, .int v_slipTicks, .int v_bestCode, .int v_bestMuch, .long v_straightSum, .long v_movedSum, .long v_allWays, .ref a_wereAt, .ref a_byPlace, .ref a_lanes, .ref a_sizes, .ref a_cells, .int v_torn, .ref a_before])), (a_st, .inl (cI, 168, .inl v_st)), (a_now, .inl (cI, 56, .inl v_now)), (a_wereAt, .inl (cI, 164, .inl v_wereAt)), (a_byPlace, .inl (cI, 328, .inl v_byPlace))] H := hP
      have hD : va_D A [(a_this, .inr (7, [.ref a_st, .ref a_now, .ref a_isKept, .ref a_draft, .int v_hasSigns, .int v_hasEvery, .ref a_tape, .int v_taped, .int v_pos, .int v_begun, .int v_sort, .int v_value, .int v_fault, .int v_wrongAt, .int v_moved, .int v_slipTicks, .int v_bestCode, .int v_bestMuch, .long v_straightSum, .long v_movedSum, .long v_allWays, .ref a_wereAt, .ref a_byPlace, .ref a_lanes, .ref a_sizes, .ref a_cells, .int v_torn, .ref a_before])), (a_st, .inl (cI, 168, .inl v_st)), (a_now, .inl (cI, 56, .inl v_now)), (a_wereAt, .inl (cI, 164, .inl v_wereAt)), (a_byPlace, .inl (cI, 328, .inl v_byPlace))] := hD
      have hF := Option.some.inj hF
      subst hF
      exact retI C hr hlk hP hD hS dX7_ask_224
    · have hF := fn hF c1
      refine lv_iconst (v := 0) C.1 C.2.1 dX7_ask_148 (by decide) ?_
      refine lv_istore (lv' := [(6, .int (0 : Int32)), (0, .ref a_this), (2, .int x2), (5, .int x5)]) C.1 C.2.1 dX7_ask_149 hl (by decide) rfl (fun ls hl => ?_)
      refine lv_iconst (v := 0) C.1 C.2.1 dX7_ask_151 (by decide) ?_
      refine lv_istore (lv' := [(7, .int (0 : Int32)), (6, .int (0 : Int32)), (0, .ref a_this), (2, .int x2), (5, .int x5)]) C.1 C.2.1 dX7_ask_152 hl (by decide) rfl (fun ls hl => ?_)
      exact b_X7_ask_154 C hr hlk hK hA (fun (v_moved : Int32) (v_slipTicks : Int32) (v_bestCode : Int32) (v_bestMuch : Int32) (v_st : Nat → Int32) (v_now : Nat → Int32) (v_wereAt : Nat → Int32) (v_byPlace : Nat → Int32) (x2 : Int32) (x5 : Int32) => F_X7_ask_141 fu v_moved v_slipTicks v_bestCode v_bestMuch v_st v_now v_wereAt v_byPlace x2 x5) ih FU v_moved v_slipTicks v_bestCode v_bestMuch v_st v_now v_wereAt v_byPlace x2 x5 (0 : Int32) (0 : Int32) _ _ _ hF hP hD hS (lv_sub hl [2, 3, 4, 1, 0] rfl)
set_option maxHeartbeats 4000000 in
set_option maxRecDepth 100000 in
theorem b_X7_ask_84 {l : Launch} {D : va_G} {cI cB cZ cR cM cS : ClassId} {a_this : Nat} {a_st : Nat} {a_now : Nat} {a_isKept : Nat} {a_draft : Nat} {a_tape : Nat} {a_wereAt : Nat} {a_byPlace : Nat} {a_lanes : Nat} {a_sizes : Nat} {a_cells : Nat} {a_before : Nat} {v_hasSigns : Int32} {v_hasEvery : Int32} {v_taped : Int32} {v_pos : Int32} {v_begun : Int32} {v_sort : Int32} {v_value : Int32} {v_fault : Int32} {v_wrongAt : Int32} {v_straightSum : Int64} {v_movedSum : Int64} {v_allWays : Int64} {v_torn : Int32} {p : Program} {e : Env} {s : State} {m : MethodId} {args : Array Value} {below : List Frame} {meth : Method} {c : Code} {A : Nat → Prop} {res : Int32 × Int32 × Int32 × Int32 × Int32 × (Nat → Int32) × (Nat → Int32) × (Nat → Int32)} (C : CX p m c cX7_ask 8 s args RX7) (hr : meth.sig.returnType = (some .int)) (hlk : meth.locks = false) (hK : KK D (TS cI cB cZ cR cM cS) s) (hA : ∀ q, s.heap.size ≤ q → A q) (kk : Int32 → Int32 → Int32 → Int32 → (Nat → Int32) → (Nat → Int32) → (Nat → Int32) → (Nat → Int32) → Int32 → Int32 → Int32 → Int32 → Int32 → Option (Int32 × Int32 × Int32 × Int32 × Int32 × (Nat → Int32) × (Nat → Int32) × (Nat → Int32))) (hk : ∀ (v_moved : Int32) (v_slipTicks : Int32) (v_bestCode : Int32) (v_bestMuch : Int32) (v_st : Nat → Int32) (v_now : Nat → Int32) (v_wereAt : Nat → Int32) (v_byPlace : Nat → Int32) (x1 : Int32) (x2 : Int32) (x3 : Int32) (x4 : Int32) (x5 : Int32) (H : Heap) (locs : List Loc) (ls : Array Slot), kk v_moved v_slipTicks v_bestCode v_bestMuch v_st v_now v_wereAt v_byPlace x1 x2 x3 x4 x5 = some res → va_P D vwCl [(a_this, .inr (7, [.ref a_st, .ref a_now, .ref a_isKept, .ref a_draft, .int v_hasSigns, .int v_hasEvery, .ref a_tape, .int v_taped, .int v_pos, .int v_begun, .int v_sort, .int v_value, .int v_fault, .int v_wrongAt, .int v_moved, .int v_slipTicks, .int v_bestCode, .int v_bestMuch, .long v_straightSum, .long v_movedSum, .long v_allWays, .ref a_wereAt, .ref a_byPlace, .ref a_lanes, .ref a_sizes, .ref a_cells, .int v_torn, .ref a_before])), (a_st, .inl (cI, 168, .inl v_st)), (a_now, .inl (cI, 56, .inl v_now)), (a_wereAt, .inl (cI, 164, .inl v_wereAt)), (a_byPlace, .inl (cI, 328, .inl v_byPlace))] H → va_D A [(a_this, .inr (7, [.ref a_st, .ref a_now, .ref a_isKept, .ref a_draft, .int v_hasSigns, .int v_hasEvery, .ref a_tape, .int v_taped, .int v_pos, .int v_begun, .int v_sort, .int v_value, .int v_fault, .int v_wrongAt, .int v_moved, .int v_slipTicks, .int v_bestCode, .int v_bestMuch, .long v_straightSum, .long v_movedSum, .long v_allWays, .ref a_wereAt, .ref a_byPlace, .ref a_lanes, .ref a_sizes, .ref a_cells, .int v_torn, .ref a_before])), (a_st, .inl (cI, 168, .inl v_st)), (a_now, .inl (cI, 56, .inl v_now)), (a_wereAt, .inl (cI, 164, .inl v_wereAt)), (a_byPlace, .inl (cI, 328, .inl v_byPlace))] → va_S A s.heap H locs → lv_has ls 8 [(0, .ref a_this), (1, .int x1), (2, .int x2), (3, .int x3), (4, .int x4), (5, .int x5)] → W p l e rm_X7_ask s m args below meth c H locs 0 0 (MQ below (va_Qi (fun x (_ : Unit) => x = res.1) (BW D A [(a_this, .inr (7, [.ref a_st, .ref a_now, .ref a_isKept, .ref a_draft, .int v_hasSigns, .int v_hasEvery, .ref a_tape, .int v_taped, .int v_pos, .int v_begun, .int v_sort, .int v_value, .int v_fault, .int v_wrongAt, .int res.2.1, .int res.2.2.1, .int res.2.2.2.1, .int res.2.2.2.2.1, .long v_straightSum, .long v_movedSum, .long v_allWays, .ref a_wereAt, .ref a_byPlace, .ref a_lanes, .ref a_sizes, .ref a_cells, .int v_torn, .ref a_before])), (a_st, .inl (cI, 168, .inl v_st)), (a_now, .inl (cI, 56, .inl res.2.2.2.2.2.1)), (a_wereAt, .inl (cI, 164, .inl res.2.2.2.2.2.2.1)), (a_byPlace, .inl (cI, 328, .inl res.2.2.2.2.2.2.2))]) A) args s 0 0 A) (F0 m 57 ls [])) : ∀ (fu : Nat) (v_moved : Int32) (v_slipTicks : Int32) (v_bestCode : Int32) (v_bestMuch : Int32) (v_st : Nat → Int32) (v_now : Nat → Int32) (v_wereAt : Nat → Int32) (v_byPlace : Nat → Int32) (x1 : Int32) (x2 : Int32) (x3 : Int32) (x4 : Int32) (x5 : Int32) (x6 : Int32) (H : Heap) (locs : List Loc) (ls : Array Slot), F_X7_ask_84 fu kk v_moved v_slipTicks v_bestCode v_bestMuch v_st v_now v_wereAt v_byPlace x1 x2 x3 x4 x5 x6 = some res → va_P D vwCl [(a_this, .inr (7, [.ref a_st, .ref a_now, .ref a_isKept, .ref a_draft, .int v_hasSigns, .int v_hasEvery, .ref a_tape, .int v_taped, .int v_pos, .int v_begun, .int v_sort, .int v_value, .int v_fault, .int v_wrongAt, .int v_moved, .int v_slipTicks, .int v_bestCode, .int v_bestMuch, .long v_straightSum, .long v_movedSum, .long v_allWays, .ref a_wereAt, .ref a_byPlace, .ref a_lanes, .ref a_sizes, .ref a_cells, .int v_torn, .ref a_before])), (a_st, .inl (cI, 168, .inl v_st)), (a_now, .inl (cI, 56, .inl v_now)), (a_wereAt, .inl (cI, 164, .inl v_wereAt)), (a_byPlace, .inl (cI, 328, .inl v_byPlace))] H → va_D A [(a_this, .inr (7, [.ref a_st, .ref a_now, .ref a_isKept, .ref a_draft, .int v_hasSigns, .int v_hasEvery, .ref a_tape, .int v_taped, .int v_pos, .int v_begun, .int v_sort, .int v_value, .int v_fault, .int v_wrongAt, .int v_moved, .int v_slipTicks, .int v_bestCode, .int v_bestMuch, .long v_straightSum, .long v_movedSum, .long v_allWays, .ref a_wereAt, .ref a_byPlace, .ref a_lanes, .ref a_sizes, .ref a_cells, .int v_torn, .ref a_before])), (a_st, .inl (cI, 168, .inl v_st)), (a_now, .inl (cI, 56, .inl v_now)), (a_wereAt, .inl (cI, 164, .inl v_wereAt)), (a_byPlace, .inl (cI, 328, .inl v_byPlace))] → va_S A s.heap H locs → lv_has ls 8 [(0, .ref a_this), (1, .int x1), (2, .int x2), (3, .int x3), (4, .int x4), (5, .int x5), (6, .int x6)] → W p l e rm_X7_ask s m args below meth c H locs 0 0 (MQ below (va_Qi (fun x (_ : Unit) => x = res.1) (BW D A [(a_this, .inr (7, [.ref a_st, .ref a_now, .ref a_isKept, .ref a_draft, .int v_hasSigns, .int v_hasEvery, .ref a_tape, .int v_taped, .int v_pos, .int v_begun, .int v_sort, .int v_value, .int v_fault, .int v_wrongAt, .int res.2.1, .int res.2.2.1, .int res.2.2.2.1, .int res.2.2.2.2.1, .long v_straightSum, .long v_movedSum, .long v_allWays, .ref a_wereAt, .ref a_byPlace, .ref a_lanes, .ref a_sizes, .ref a_cells, .int v_torn, .ref a_before])), (a_st, .inl (cI, 168, .inl v_st)), (a_now, .inl (cI, 56, .inl res.2.2.2.2.2.1)), (a_wereAt, .inl (cI, 164, .inl res.2.2.2.2.2.2.1)), (a_byPlace, .inl (cI, 328, .inl res.2.2.2.2.2.2.2))]) A) args s 0 0 A) (F0 m 84 ls []) := by
  intro fu
  induction fu with
  | zero => intro v_moved v_slipTicks v_bestCode v_bestMuch v_st v_now v_wereAt v_byPlace x1 x2 x3 x4 x5 x6 H locs ls hF; cases hF
  | succ fu ih =>
    intro v_moved v_slipTicks v_bestCode v_bestMuch v_st v_now v_wereAt v_byPlace x1 x2 x3 x4 x5 x6 H locs ls hF  hP hD hS hl
    unfold F_X7_ask_84 at hF
    refine lv_iload C.1 C.2.1 dX7_ask_84 (lv_at hl 6 rfl) ?_
    refine lv_bipush (v := 40) C.1 C.2.1 dX7_ask_86 (by decide) ?_
    refine lv_icmp_gt (tgt := 123) C.1 C.2.1 dX7_ask_88 (by decide) (fun c1 => ?_) (fun c1 => ?_)
    · have hF := fp hF c1
      refine lv_iinc (v := x4 + 1) (lv' := [(4, .int (x4 + 1)), (0, .ref a_this), (1, .int x1), (2, .int x2), (3, .int x3), (5, .int x5), (6, .int x6)]) C.1 C.2.1 dX7_ask_123 hl (k := 4) rfl rfl (by decide) rfl (fun ls hl => ?_)
      refine lv_iinc (v := x5 + 1) (lv' := [(5, .int (x5 + 1)), (4, .int (x4 + 1)), (0, .ref a_this), (1, .int x1), (2, .int x2), (3, .int x3), (6, .int x6)]) C.1 C.2.1 dX7_ask_126 hl (k := 5) rfl rfl (by decide) rfl (fun ls hl => ?_)
      refine lv_goto (tgt := 57) C.1 C.2.1 dX7_ask_129 (by decide) ?_
      exact hk v_moved v_slipTicks v_bestCode v_bestMuch v_st v_now v_wereAt v_byPlace x1 x2 x3 (x4 + 1) (x5 + 1) _ _ _ hF hP hD hS (lv_sub hl [2, 3, 4, 5, 1, 0] rfl)
    · have hF := fn hF c1
      refine lv_aload_n C.1 C.2.1 dX7_ask_91 rfl (lv_at hl 0 rfl) ?_
      refine gf_7_7_byPlace C hK hP 0 rfl rfl dX7_ask_92 ?_
      refine lv_bipush (v := 8) C.1 C.2.1 dX7_ask_95 (by decide) ?_
      refine lv_iload C.1 C.2.1 dX7_ask_97 (lv_at hl 6 rfl) ?_
      refine lv_imul C.1 C.2.1 dX7_ask_99 ?_
      refine lv_aload_n C.1 C.2.1 dX7_ask_100 rfl (lv_at hl 0 rfl) ?_
      refine gf_7_7_wereAt C hK hP 0 rfl rfl dX7_ask_101 ?_
      refine lv_iconst (v := 4) C.1 C.2.1 dX7_ask_104 (by decide) ?_
      refine lv_iload C.1 C.2.1 dX7_ask_105 (lv_at hl 6 rfl) ?_
      refine lv_imul C.1 C.2.1 dX7_ask_107 ?_
      refine lv_iload_n C.1 C.2.1 dX7_ask_108 rfl (lv_at hl 1 rfl) ?_
      refine lv_iadd C.1 C.2.1 dX7_ask_109 ?_
      obtain ⟨h2, hF⟩ := fk hF
      refine va_iald C.1 C.2.1 hK.1 hP 3 0 rfl rfl h2 dX7_ask_110 ?_
      refine lv_iadd C.1 C.2.1 dX7_ask_111 ?_
      refine lv_dup2_11 C.1 C.2.1 dX7_ask_112 rfl rfl ?_
      obtain ⟨h3, hF⟩ := fk hF
      refine va_iald C.1 C.2.1 hK.1 hP 4 0 rfl rfl h3 dX7_ask_113 ?_
      refine lv_iconst (v := 1) C.1 C.2.1 dX7_ask_114 (by decide) ?_
      refine lv_iadd C.1 C.2.1 dX7_ask_115 ?_
      obtain ⟨h4, hF⟩ := fk hF
      refine va_iast C.1 C.2.1 hK.1 hP hD hS 4 0 rfl rfl h4 dX7_ask_116 (fun H locs hP hD hS => ?_)
      have hP : va_P D vwCl [(a_this, .inr (7, [.ref a_st, .ref a_now, .ref a_isKept, .ref a_draft, .int v_hasSigns, .int v_hasEvery, .ref a_tape, .int v_taped, .int v_pos, .int v_begun, .int v_sort, .int v_value, .int v_fault, .int v_wrongAt, .int v_moved, .int v_slipTicks, .int v_bestCode, .int v_bestMuch, .long v_straightSum, .long v_movedSum, .long v_allWays, .ref a_wereAt, .ref a_byPlace, .ref a_lanes, .ref a_sizes, .ref a_cells, .int v_torn, .ref a_before])), (a_st, .inl (cI, 168, .inl v_st)), (a_now, .inl (cI, 56, .inl v_now)), (a_wereAt, .inl (cI, 164, .inl v_wereAt)), (a_byPlace, .inl (cI, 328, .inl (upd v_byPlace (((8 : Int32) * x6) + (v_wereAt (((4 : Int32) * x6) + x1).toNatClampNeg)).toNatClampNeg ((v_byPlace (((8 : Int32) * x6) + (v_wereAt (((4 : Int32) * x6) + x1).toNatClampNeg)).toNatClampNeg) + (1 : Int32)))))] H := hP
      have hD : va_D A [(a_this, .inr (7, [.ref a_st, .ref a_now, .ref a_isKept, .ref a_draft, .int v_hasSigns, .int v_hasEvery, .ref a_tape, .int v_taped, .int v_pos, .int v_begun, .int v_sort, .int v_value, .int v_fault, .int v_wrongAt, .int v_moved, .int v_slipTicks, .int v_bestCode, .int v_bestMuch, .long v_straightSum, .long v_movedSum, .long v_allWays, .ref a_wereAt, .ref a_byPlace, .ref a_lanes, .ref a_sizes, .ref a_cells, .int v_torn, .ref a_before])), (a_st, .inl (cI, 168, .inl v_st)), (a_now, .inl (cI, 56, .inl v_now)), (a_wereAt, .inl (cI, 164, .inl v_wereAt)), (a_byPlace, .inl (cI, 328, .inl (upd v_byPlace (((8 : Int32) * x6) + (v_wereAt (((4 : Int32) * x6) + x1).toNatClampNeg)).toNatClampNeg ((v_byPlace (((8 : Int32) * x6) + (v_wereAt (((4 : Int32) * x6) + x1).toNatClampNeg)).toNatClampNeg) + (1 : Int32)))))] := hD
      refine lv_iinc (v := x6 + 1) (lv' := [(6, .int (x6 + 1)), (0, .ref a_this), (1, .int x1), (2, .int x2), (3, .int x3), (4, .int x4), (5, .int x5)]) C.1 C.2.1 dX7_ask_117 hl (k := 6) rfl rfl (by decide) rfl (fun ls hl => ?_)
      refine lv_goto (tgt := 84) C.1 C.2.1 dX7_ask_120 (by decide) ?_
      exact ih v_moved v_slipTicks v_bestCode v_bestMuch v_st v_now v_wereAt (upd v_byPlace (((8 : Int32) * x6) + (v_wereAt (((4 : Int32) * x6) + x1).toNatClampNeg)).toNatClampNeg ((v_byPlace (((8 : Int32) * x6) + (v_wereAt (((4 : Int32) * x6) + x1).toNatClampNeg)).toNatClampNeg) + (1 : Int32))) x1 x2 x3 x4 x5 (x6 + 1) _ _ _ hF hP hD hS (lv_sub hl [1, 2, 3, 4, 5, 6, 0] rfl)
set_option maxHeartbeats 4000000 in
set_option maxRecDepth 100000 in
theorem b_X7_ask_57 {l : Launch} {D : va_G} {cI cB cZ cR cM cS : ClassId} {a_this : Nat} {a_st : Nat} {a_now : Nat} {a_isKept : Nat} {a_draft : Nat} {a_tape : Nat} {a_wereAt : Nat} {a_byPlace : Nat} {a_lanes : Nat} {a_sizes : Nat} {a_cells : Nat} {a_before : Nat} {v_hasSigns : Int32} {v_hasEvery : Int32} {v_taped : Int32} {v_pos : Int32} {v_begun : Int32} {v_sort : Int32} {v_value : Int32} {v_fault : Int32} {v_wrongAt : Int32} {v_straightSum : Int64} {v_movedSum : Int64} {v_allWays : Int64} {v_torn : Int32} {p : Program} {e : Env} {s : State} {m : MethodId} {args : Array Value} {below : List Frame} {meth : Method} {c : Code} {A : Nat → Prop} {res : Int32 × Int32 × Int32 × Int32 × Int32 × (Nat → Int32) × (Nat → Int32) × (Nat → Int32)} (C : CX p m c cX7_ask 8 s args RX7) (hr : meth.sig.returnType = (some .int)) (hlk : meth.locks = false) (hK : KK D (TS cI cB cZ cR cM cS) s) (hA : ∀ q, s.heap.size ≤ q → A q) : ∀ (fu : Nat) (v_moved : Int32) (v_slipTicks : Int32) (v_bestCode : Int32) (v_bestMuch : Int32) (v_st : Nat → Int32) (v_now : Nat → Int32) (v_wereAt : Nat → Int32) (v_byPlace : Nat → Int32) (x1 : Int32) (x2 : Int32) (x3 : Int32) (x4 : Int32) (x5 : Int32) (H : Heap) (locs : List Loc) (ls : Array Slot), F_X7_ask_57 fu v_moved v_slipTicks v_bestCode v_bestMuch v_st v_now v_wereAt v_byPlace x1 x2 x3 x4 x5 = some res → va_P D vwCl [(a_this, .inr (7, [.ref a_st, .ref a_now, .ref a_isKept, .ref a_draft, .int v_hasSigns, .int v_hasEvery, .ref a_tape, .int v_taped, .int v_pos, .int v_begun, .int v_sort, .int v_value, .int v_fault, .int v_wrongAt, .int v_moved, .int v_slipTicks, .int v_bestCode, .int v_bestMuch, .long v_straightSum, .long v_movedSum, .long v_allWays, .ref a_wereAt, .ref a_byPlace, .ref a_lanes, .ref a_sizes, .ref a_cells, .int v_torn, .ref a_before])), (a_st, .inl (cI, 168, .inl v_st)), (a_now, .inl (cI, 56, .inl v_now)), (a_wereAt, .inl (cI, 164, .inl v_wereAt)), (a_byPlace, .inl (cI, 328, .inl v_byPlace))] H → va_D A [(a_this, .inr (7, [.ref a_st, .ref a_now, .ref a_isKept, .ref a_draft, .int v_hasSigns, .int v_hasEvery, .ref a_tape, .int v_taped, .int v_pos, .int v_begun, .int v_sort, .int v_value, .int v_fault, .int v_wrongAt, .int v_moved, .int v_slipTicks, .int v_bestCode, .int v_bestMuch, .long v_straightSum, .long v_movedSum, .long v_allWays, .ref a_wereAt, .ref a_byPlace, .ref a_lanes, .ref a_sizes, .ref a_cells, .int v_torn, .ref a_before])), (a_st, .inl (cI, 168, .inl v_st)), (a_now, .inl (cI, 56, .inl v_now)), (a_wereAt, .inl (cI, 164, .inl v_wereAt)), (a_byPlace, .inl (cI, 328, .inl v_byPlace))] → va_S A s.heap H locs → lv_has ls 8 [(0, .ref a_this), (1, .int x1), (2, .int x2), (3, .int x3), (4, .int x4), (5, .int x5)] → W p l e rm_X7_ask s m args below meth c H locs 0 0 (MQ below (va_Qi (fun x (_ : Unit) => x = res.1) (BW D A [(a_this, .inr (7, [.ref a_st, .ref a_now, .ref a_isKept, .ref a_draft, .int v_hasSigns, .int v_hasEvery, .ref a_tape, .int v_taped, .int v_pos, .int v_begun, .int v_sort, .int v_value, .int v_fault, .int v_wrongAt, .int res.2.1, .int res.2.2.1, .int res.2.2.2.1, .int res.2.2.2.2.1, .long v_straightSum, .long v_movedSum, .long v_allWays, .ref a_wereAt, .ref a_byPlace, .ref a_lanes, .ref a_sizes, .ref a_cells, .int v_torn, .ref a_before])), (a_st, .inl (cI, 168, .inl v_st)), (a_now, .inl (cI, 56, .inl res.2.2.2.2.2.1)), (a_wereAt, .inl (cI, 164, .inl res.2.2.2.2.2.2.1)), (a_byPlace, .inl (cI, 328, .inl res.2.2.2.2.2.2.2))]) A) args s 0 0 A) (F0 m 57 ls []) := by
  intro fu
  induction fu with
  | zero => intro v_moved v_slipTicks v_bestCode v_bestMuch v_st v_now v_wereAt v_byPlace x1 x2 x3 x4 x5 H locs ls hF; cases hF
  | succ fu ih =>
    intro v_moved v_slipTicks v_bestCode v_bestMuch v_st v_now v_wereAt v_byPlace x1 x2 x3 x4 x5 H locs ls hF  hP hD hS hl
    unfold F_X7_ask_57 at hF
    refine lv_iload C.1 C.2.1 dX7_ask_57 (lv_at hl 5 rfl) ?_
    refine lv_bipush (v := 8) C.1 C.2.1 dX7_ask_59 (by decide) ?_
    refine lv_icmp_ge (tgt := 132) C.1 C.2.1 dX7_ask_61 (by decide) (fun c1 => ?_) (fun c1 => ?_)
    · have hF := fp hF c1
      refine lv_aload_n C.1 C.2.1 dX7_ask_132 rfl (lv_at hl 0 rfl) ?_
      refine lv_iload C.1 C.2.1 dX7_ask_133 (lv_at hl 4 rfl) ?_
      obtain ⟨⟨w2, w3⟩, h4, hF⟩ := fb hF
      refine callVV C hK hA hP hD hS [0] (c_X7_startsJudging (a_this := a_this) (a_st := a_st) (a_now := a_now) (a_isKept := a_isKept) (a_draft := a_draft) (a_tape := a_tape) (a_wereAt := a_wereAt) (a_byPlace := a_byPlace) (a_lanes := a_lanes) (a_sizes := a_sizes) (a_cells := a_cells) (a_before := a_before) (v_hasSigns := v_hasSigns) (v_hasEvery := v_hasEvery) (v_taped := v_taped) (v_pos := v_pos) (v_begun := v_begun) (v_sort := v_sort) (v_value := v_value) (v_fault := v_fault) (v_wrongAt := v_wrongAt) (v_moved := v_moved) (v_slipTicks := v_slipTicks) (v_bestCode := v_bestCode) (v_bestMuch := v_bestMuch) (v_straightSum := v_straightSum) (v_movedSum := v_movedSum) (v_allWays := v_allWays) (v_torn := v_torn) h4) cv_X7_startsJudging kw5_52 rfl (by decide) rfl rfl rfl ⟨Nat.le_of_ble_eq_true rfl, Nat.le_of_ble_eq_true rfl⟩ ⟨Nat.zero_le _, Nat.zero_le _⟩ hl.1 rfl (Nat.le_of_ble_eq_true rfl) dX7_ask_135 (fun H locs hP hD hS => ?_)
      have hP : va_P D vwCl [(a_this, .inr (7, [.ref a_st, .ref a_now, .ref a_isKept, .ref a_draft, .int v_hasSigns, .int v_hasEvery, .ref a_tape, .int v_taped, .int v_pos, .int v_begun, .int v_sort, .int v_value, .int v_fault, .int v_wrongAt, .int v_moved, .int v_slipTicks, .int w2, .int w3, .long v_straightSum, .long v_movedSum, .long v_allWays, .ref a_wereAt, .ref a_byPlace, .ref a_lanes, .ref a_sizes, .ref a_cells, .int v_torn, .ref a_before])), (a_st, .inl (cI, 168, .inl v_st)), (a_now, .inl (cI, 56, .inl v_now)), (a_wereAt, .inl (cI, 164, .inl v_wereAt)), (a_byPlace, .inl (cI, 328, .inl v_byPlace))] H := hP
      have hD : va_D A [(a_this, .inr (7, [.ref a_st, .ref a_now, .ref a_isKept, .ref a_draft, .int v_hasSigns, .int v_hasEvery, .ref a_tape, .int v_taped, .int v_pos, .int v_begun, .int v_sort, .int v_value, .int v_fault, .int v_wrongAt, .int v_moved, .int v_slipTicks, .int w2, .int w3, .long v_straightSum, .long v_movedSum, .long v_allWays, .ref a_wereAt, .ref a_byPlace, .ref a_lanes, .ref a_sizes, .ref a_cells, .int v_torn, .ref a_before])), (a_st, .inl (cI, 168, .inl v_st)), (a_now, .inl (cI, 56, .inl v_now)), (a_wereAt, .inl (cI, 164, .inl v_wereAt)), (a_byPlace, .inl (cI, 328, .inl v_byPlace))] := hD
      refine lv_iconst (v := 0) C.1 C.2.1 dX7_ask_138 (by decide) ?_
      refine lv_istore (lv' := [(5, .int (0 : Int32)), (0, .ref a_this), (1, .int x1), (2, .int x2), (3, .int x3), (4, .int x4)]) C.1 C.2.1 dX7_ask_139 hl (by decide) rfl (fun ls hl => ?_)
      exact b_X7_ask_141 C hr hlk hK hA FU v_moved v_slipTicks w2 w3 v_st v_now v_wereAt v_byPlace x2 (0 : Int32) _ _ _ hF hP hD hS (lv_sub hl [1, 3, 0] rfl)
    · have hF := fn hF c1
      refine lv_aload_n C.1 C.2.1 dX7_ask_64 rfl (lv_at hl 0 rfl) ?_
      refine lv_iload_n C.1 C.2.1 dX7_ask_65 rfl (lv_at hl 3 rfl) ?_
      refine lv_aload_n C.1 C.2.1 dX7_ask_66 rfl (lv_at hl 0 rfl) ?_
      refine gf_7_7_st C hK hP 0 rfl rfl dX7_ask_67 ?_
      refine lv_iload_n C.1 C.2.1 dX7_ask_70 rfl (lv_at hl 3 rfl) ?_
      obtain ⟨h5, hF⟩ := fk hF
      refine va_iald C.1 C.2.1 hK.1 hP 1 0 rfl rfl h5 dX7_ask_71 ?_
      refine lv_iload C.1 C.2.1 dX7_ask_72 (lv_at hl 5 rfl) ?_
      refine lv_iadd C.1 C.2.1 dX7_ask_74 ?_
      obtain ⟨⟨r6, w7, w8, w9, w10⟩, h11, hF⟩ := fb hF
      refine callVI C hK hA hP hD hS [0, 1, 2, 3] (c_X7_isSoWith (a_this := a_this) (a_st := a_st) (a_now := a_now) (a_isKept := a_isKept) (a_draft := a_draft) (a_tape := a_tape) (a_wereAt := a_wereAt) (a_byPlace := a_byPlace) (a_lanes := a_lanes) (a_sizes := a_sizes) (a_cells := a_cells) (a_before := a_before) (v_hasSigns := v_hasSigns) (v_hasEvery := v_hasEvery) (v_taped := v_taped) (v_pos := v_pos) (v_begun := v_begun) (v_sort := v_sort) (v_value := v_value) (v_fault := v_fault) (v_wrongAt := v_wrongAt) (v_moved := v_moved) (v_slipTicks := v_slipTicks) (v_bestCode := v_bestCode) (v_bestMuch := v_bestMuch) (v_straightSum := v_straightSum) (v_movedSum := v_movedSum) (v_allWays := v_allWays) (v_torn := v_torn) (v_st := v_st) (v_now := v_now) (v_wereAt := v_wereAt) h11) cv_X7_isSoWith kw5_119 rfl (by decide) rfl rfl rfl ⟨Nat.le_of_ble_eq_true rfl, Nat.le_of_ble_eq_true rfl⟩ ⟨Nat.zero_le _, Nat.zero_le _⟩ hl.1 rfl (Nat.le_of_ble_eq_true rfl) dX7_ask_75 (fun H locs hP hD hS => ?_)
      have hP : va_P D vwCl [(a_this, .inr (7, [.ref a_st, .ref a_now, .ref a_isKept, .ref a_draft, .int v_hasSigns, .int v_hasEvery, .ref a_tape, .int v_taped, .int v_pos, .int v_begun, .int v_sort, .int v_value, .int v_fault, .int v_wrongAt, .int w7, .int w8, .int v_bestCode, .int v_bestMuch, .long v_straightSum, .long v_movedSum, .long v_allWays, .ref a_wereAt, .ref a_byPlace, .ref a_lanes, .ref a_sizes, .ref a_cells, .int v_torn, .ref a_before])), (a_st, .inl (cI, 168, .inl v_st)), (a_now, .inl (cI, 56, .inl w9)), (a_wereAt, .inl (cI, 164, .inl w10)), (a_byPlace, .inl (cI, 328, .inl v_byPlace))] H := hP
      have hD : va_D A [(a_this, .inr (7, [.ref a_st, .ref a_now, .ref a_isKept, .ref a_draft, .int v_hasSigns, .int v_hasEvery, .ref a_tape, .int v_taped, .int v_pos, .int v_begun, .int v_sort, .int v_value, .int v_fault, .int v_wrongAt, .int w7, .int w8, .int v_bestCode, .int v_bestMuch, .long v_straightSum, .long v_movedSum, .long v_allWays, .ref a_wereAt, .ref a_byPlace, .ref a_lanes, .ref a_sizes, .ref a_cells, .int v_torn, .ref a_before])), (a_st, .inl (cI, 168, .inl v_st)), (a_now, .inl (cI, 56, .inl w9)), (a_wereAt, .inl (cI, 164, .inl w10)), (a_byPlace, .inl (cI, 328, .inl v_byPlace))] := hD
      refine lv_if_eq (tgt := 126) C.1 C.2.1 dX7_ask_78 (by decide) (fun c12 => ?_) (fun c12 => ?_)
      · have hF := fp hF c12
        refine lv_iinc (v := x5 + 1) (lv' := [(5, .int (x5 + 1)), (0, .ref a_this), (1, .int x1), (2, .int x2), (3, .int x3), (4, .int x4)]) C.1 C.2.1 dX7_ask_126 hl (k := 5) rfl rfl (by decide) rfl (fun ls hl => ?_)
        refine lv_goto (tgt := 57) C.1 C.2.1 dX7_ask_129 (by decide) ?_
        exact ih w7 w8 v_bestCode v_bestMuch v_st w9 w10 v_byPlace x1 x2 x3 x4 (x5 + 1) _ _ _ hF hP hD hS (lv_sub hl [1, 2, 3, 4, 5, 0] rfl)
      · have hF := fn hF c12
        refine lv_iconst (v := 0) C.1 C.2.1 dX7_ask_81 (by decide) ?_
        refine lv_istore (lv' := [(6, .int (0 : Int32)), (0, .ref a_this), (1, .int x1), (2, .int x2), (3, .int x3), (4, .int x4), (5, .int x5)]) C.1 C.2.1 dX7_ask_82 hl (by decide) rfl (fun ls hl => ?_)
        exact b_X7_ask_84 C hr hlk hK hA (fun (v_moved : Int32) (v_slipTicks : Int32) (v_bestCode : Int32) (v_bestMuch : Int32) (v_st : Nat → Int32) (v_now : Nat → Int32) (v_wereAt : Nat → Int32) (v_byPlace : Nat → Int32) (x1 : Int32) (x2 : Int32) (x3 : Int32) (x4 : Int32) (x5 : Int32) => F_X7_ask_57 fu v_moved v_slipTicks v_bestCode v_bestMuch v_st v_now v_wereAt v_byPlace x1 x2 x3 x4 x5) ih FU w7 w8 v_bestCode v_bestMuch v_st w9 w10 v_byPlace x1 x2 x3 x4 x5 (0 : Int32) _ _ _ hF hP hD hS (lv_sub hl [1, 2, 3, 4, 5, 6, 0] rfl)
set_option maxHeartbeats 4000000 in
set_option maxRecDepth 100000 in
theorem b_X7_ask_32 {l : Launch} {D : va_G} {cI cB cZ cR cM cS : ClassId} {a_this : Nat} {a_st : Nat} {a_now : Nat} {a_isKept : Nat} {a_draft : Nat} {a_tape : Nat} {a_wereAt : Nat} {a_byPlace : Nat} {a_lanes : Nat} {a_sizes : Nat} {a_cells : Nat} {a_before : Nat} {v_hasSigns : Int32} {v_hasEvery : Int32} {v_taped : Int32} {v_pos : Int32} {v_begun : Int32} {v_sort : Int32} {v_value : Int32} {v_fault : Int32} {v_wrongAt : Int32} {v_straightSum : Int64} {v_movedSum : Int64} {v_allWays : Int64} {v_torn : Int32} {p : Program} {e : Env} {s : State} {m : MethodId} {args : Array Value} {below : List Frame} {meth : Method} {c : Code} {A : Nat → Prop} {res : Int32 × Int32 × Int32 × Int32 × Int32 × (Nat → Int32) × (Nat → Int32) × (Nat → Int32)} (C : CX p m c cX7_ask 8 s args RX7) (hr : meth.sig.returnType = (some .int)) (hlk : meth.locks = false) (hK : KK D (TS cI cB cZ cR cM cS) s) (hA : ∀ q, s.heap.size ≤ q → A q) : ∀ (fu : Nat) (v_moved : Int32) (v_slipTicks : Int32) (v_bestCode : Int32) (v_bestMuch : Int32) (v_st : Nat → Int32) (v_now : Nat → Int32) (v_wereAt : Nat → Int32) (v_byPlace : Nat → Int32) (x1 : Int32) (x2 : Int32) (x3 : Int32) (x4 : Int32) (x5 : Int32) (H : Heap) (locs : List Loc) (ls : Array Slot), F_X7_ask_32 fu v_moved v_slipTicks v_bestCode v_bestMuch v_st v_now v_wereAt v_byPlace x1 x2 x3 x4 x5 = some res → va_P D vwCl [(a_this, .inr (7, [.ref a_st, .ref a_now, .ref a_isKept, .ref a_draft, .int v_hasSigns, .int v_hasEvery, .ref a_tape, .int v_taped, .int v_pos, .int v_begun, .int v_sort, .int v_value, .int v_fault, .int v_wrongAt, .int v_moved, .int v_slipTicks, .int v_bestCode, .int v_bestMuch, .long v_straightSum, .long v_movedSum, .long v_allWays, .ref a_wereAt, .ref a_byPlace, .ref a_lanes, .ref a_sizes, .ref a_cells, .int v_torn, .ref a_before])), (a_st, .inl (cI, 168, .inl v_st)), (a_now, .inl (cI, 56, .inl v_now)), (a_wereAt, .inl (cI, 164, .inl v_wereAt)), (a_byPlace, .inl (cI, 328, .inl v_byPlace))] H → va_D A [(a_this, .inr (7, [.ref a_st, .ref a_now, .ref a_isKept, .ref a_draft, .int v_hasSigns, .int v_hasEvery, .ref a_tape, .int v_taped, .int v_pos, .int v_begun, .int v_sort, .int v_value, .int v_fault, .int v_wrongAt, .int v_moved, .int v_slipTicks, .int v_bestCode, .int v_bestMuch, .long v_straightSum, .long v_movedSum, .long v_allWays, .ref a_wereAt, .ref a_byPlace, .ref a_lanes, .ref a_sizes, .ref a_cells, .int v_torn, .ref a_before])), (a_st, .inl (cI, 168, .inl v_st)), (a_now, .inl (cI, 56, .inl v_now)), (a_wereAt, .inl (cI, 164, .inl v_wereAt)), (a_byPlace, .inl (cI, 328, .inl v_byPlace))] → va_S A s.heap H locs → lv_has ls 8 [(0, .ref a_this), (1, .int x1), (2, .int x2), (3, .int x3), (4, .int x4), (5, .int x5)] → W p l e rm_X7_ask s m args below meth c H locs 0 0 (MQ below (va_Qi (fun x (_ : Unit) => x = res.1) (BW D A [(a_this, .inr (7, [.ref a_st, .ref a_now, .ref a_isKept, .ref a_draft, .int v_hasSigns, .int v_hasEvery, .ref a_tape, .int v_taped, .int v_pos, .int v_begun, .int v_sort, .int v_value, .int v_fault, .int v_wrongAt, .int res.2.1, .int res.2.2.1, .int res.2.2.2.1, .int res.2.2.2.2.1, .long v_straightSum, .long v_movedSum, .long v_allWays, .ref a_wereAt, .ref a_byPlace, .ref a_lanes, .ref a_sizes, .ref a_cells, .int v_torn, .ref a_before])), (a_st, .inl (cI, 168, .inl v_st)), (a_now, .inl (cI, 56, .inl res.2.2.2.2.2.1)), (a_wereAt, .inl (cI, 164, .inl res.2.2.2.2.2.2.1)), (a_byPlace, .inl (cI, 328, .inl res.2.2.2.2.2.2.2))]) A) args s 0 0 A) (F0 m 32 ls []) := by
  intro fu
  induction fu with
  | zero => intro v_moved v_slipTicks v_bestCode v_bestMuch v_st v_now v_wereAt v_byPlace x1 x2 x3 x4 x5 H locs ls hF; cases hF
  | succ fu ih =>
    intro v_moved v_slipTicks v_bestCode v_bestMuch v_st v_now v_wereAt v_byPlace x1 x2 x3 x4 x5 H locs ls hF  hP hD hS hl
    unfold F_X7_ask_32 at hF
    refine lv_iload C.1 C.2.1 dX7_ask_32 (lv_at hl 5 rfl) ?_
    refine lv_sipush (v := 328) C.1 C.2.1 dX7_ask_34 (by decide) ?_
    refine lv_icmp_ge (tgt := 54) C.1 C.2.1 dX7_ask_37 (by decide) (fun c1 => ?_) (fun c1 => ?_)
    · have hF := fp hF c1
      refine lv_iconst (v := 0) C.1 C.2.1 dX7_ask_54 (by decide) ?_
      refine lv_istore (lv' := [(5, .int (0 : Int32)), (0, .ref a_this), (1, .int x1), (2, .int x2), (3, .int x3), (4, .int x4)]) C.1 C.2.1 dX7_ask_55 hl (by decide) rfl (fun ls hl => ?_)
      exact b_X7_ask_57 C hr hlk hK hA FU v_moved v_slipTicks v_bestCode v_bestMuch v_st v_now v_wereAt v_byPlace x1 x2 x3 x4 (0 : Int32) _ _ _ hF hP hD hS (lv_sub hl [1, 2, 3, 4, 5, 0] rfl)
    · have hF := fn hF c1
      refine lv_aload_n C.1 C.2.1 dX7_ask_40 rfl (lv_at hl 0 rfl) ?_
      refine gf_7_7_byPlace C hK hP 0 rfl rfl dX7_ask_41 ?_
      refine lv_iload C.1 C.2.1 dX7_ask_44 (lv_at hl 5 rfl) ?_
      refine lv_iconst (v := 0) C.1 C.2.1 dX7_ask_46 (by decide) ?_
      obtain ⟨h2, hF⟩ := fk hF
      refine va_iast C.1 C.2.1 hK.1 hP hD hS 4 0 rfl rfl h2 dX7_ask_47 (fun H locs hP hD hS => ?_)
      have hP : va_P D vwCl [(a_this, .inr (7, [.ref a_st, .ref a_now, .ref a_isKept, .ref a_draft, .int v_hasSigns, .int v_hasEvery, .ref a_tape, .int v_taped, .int v_pos, .int v_begun, .int v_sort, .int v_value, .int v_fault, .int v_wrongAt, .int v_moved, .int v_slipTicks, .int v_bestCode, .int v_bestMuch, .long v_straightSum, .long v_movedSum, .long v_allWays, .ref a_wereAt, .ref a_byPlace, .ref a_lanes, .ref a_sizes, .ref a_cells, .int v_torn, .ref a_before])), (a_st, .inl (cI, 168, .inl v_st)), (a_now, .inl (cI, 56, .inl v_now)), (a_wereAt, .inl (cI, 164, .inl v_wereAt)), (a_byPlace, .inl (cI, 328, .inl (upd v_byPlace x5.toNatClampNeg (0 : Int32))))] H := hP
      have hD : va_D A [(a_this, .inr (7, [.ref a_st, .ref a_now, .ref a_isKept, .ref a_draft, .int v_hasSigns, .int v_hasEvery, .ref a_tape, .int v_taped, .int v_pos, .int v_begun, .int v_sort, .int v_value, .int v_fault, .int v_wrongAt, .int v_moved, .int v_slipTicks, .int v_bestCode, .int v_bestMuch, .long v_straightSum, .long v_movedSum, .long v_allWays, .ref a_wereAt, .ref a_byPlace, .ref a_lanes, .ref a_sizes, .ref a_cells, .int v_torn, .ref a_before])), (a_st, .inl (cI, 168, .inl v_st)), (a_now, .inl (cI, 56, .inl v_now)), (a_wereAt, .inl (cI, 164, .inl v_wereAt)), (a_byPlace, .inl (cI, 328, .inl (upd v_byPlace x5.toNatClampNeg (0 : Int32))))] := hD
      refine lv_iinc (v := x5 + 1) (lv' := [(5, .int (x5 + 1)), (0, .ref a_this), (1, .int x1), (2, .int x2), (3, .int x3), (4, .int x4)]) C.1 C.2.1 dX7_ask_48 hl (k := 5) rfl rfl (by decide) rfl (fun ls hl => ?_)
      refine lv_goto (tgt := 32) C.1 C.2.1 dX7_ask_51 (by decide) ?_
      exact ih v_moved v_slipTicks v_bestCode v_bestMuch v_st v_now v_wereAt (upd v_byPlace x5.toNatClampNeg (0 : Int32)) x1 x2 x3 x4 (x5 + 1) _ _ _ hF hP hD hS (lv_sub hl [1, 2, 3, 4, 5, 0] rfl)
set_option maxHeartbeats 4000000 in
set_option maxRecDepth 100000 in
theorem c0_X7_ask {l : Launch} {D : va_G} {cI cB cZ cR cM cS : ClassId} {a_this : Nat} {a_st : Nat} {a_now : Nat} {a_isKept : Nat} {a_draft : Nat} {a_tape : Nat} {a_wereAt : Nat} {a_byPlace : Nat} {a_lanes : Nat} {a_sizes : Nat} {a_cells : Nat} {a_before : Nat} {v_hasSigns : Int32} {v_hasEvery : Int32} {v_taped : Int32} {v_pos : Int32} {v_begun : Int32} {v_sort : Int32} {v_value : Int32} {v_fault : Int32} {v_wrongAt : Int32} {v_moved : Int32} {v_slipTicks : Int32} {v_bestCode : Int32} {v_bestMuch : Int32} {v_straightSum : Int64} {v_movedSum : Int64} {v_allWays : Int64} {v_torn : Int32} {v_st : Nat → Int32} {v_now : Nat → Int32} {v_wereAt : Nat → Int32} {v_byPlace : Nat → Int32} {x1 : Int32} {x2 : Int32} {res : Int32 × Int32 × Int32 × Int32 × Int32 × (Nat → Int32) × (Nat → Int32) × (Nat → Int32)} (hF : F_X7_ask v_moved v_slipTicks v_bestCode v_bestMuch v_st v_now v_wereAt v_byPlace x1 x2 = some res) : MI l yX7_ask cX7_ask 8 .int rm_X7_ask D (TS cI cB cZ cR cM cS) [.ref a_this, .int x1, .int x2] [(a_this, .inr (7, [.ref a_st, .ref a_now, .ref a_isKept, .ref a_draft, .int v_hasSigns, .int v_hasEvery, .ref a_tape, .int v_taped, .int v_pos, .int v_begun, .int v_sort, .int v_value, .int v_fault, .int v_wrongAt, .int v_moved, .int v_slipTicks, .int v_bestCode, .int v_bestMuch, .long v_straightSum, .long v_movedSum, .long v_allWays, .ref a_wereAt, .ref a_byPlace, .ref a_lanes, .ref a_sizes, .ref a_cells, .int v_torn, .ref a_before])), (a_st, .inl (cI, 168, .inl v_st)), (a_now, .inl (cI, 56, .inl v_now)), (a_wereAt, .inl (cI, 164, .inl v_wereAt)), (a_byPlace, .inl (cI, 328, .inl v_byPlace))] [(a_this, .inr (7, [.ref a_st, .ref a_now, .ref a_isKept, .ref a_draft, .int v_hasSigns, .int v_hasEvery, .ref a_tape, .int v_taped, .int v_pos, .int v_begun, .int v_sort, .int v_value, .int v_fault, .int v_wrongAt, .int res.2.1, .int res.2.2.1, .int res.2.2.2.1, .int res.2.2.2.2.1, .long v_straightSum, .long v_movedSum, .long v_allWays, .ref a_wereAt, .ref a_byPlace, .ref a_lanes, .ref a_sizes, .ref a_cells, .int v_torn, .ref a_before])), (a_st, .inl (cI, 168, .inl v_st)), (a_now, .inl (cI, 56, .inl res.2.2.2.2.2.1)), (a_wereAt, .inl (cI, 164, .inl res.2.2.2.2.2.2.1)), (a_byPlace, .inl (cI, 328, .inl res.2.2.2.2.2.2.2))] res.1 :=
  MI_of (by decide) (Nat.le_of_ble_eq_true rfl) (fun p e s m args below meth c A ls C hr hlk hK hA hP hD hS hl => by
    have C : CX p m c cX7_ask 8 s args RX7 := C
    have hl : lv_has ls 8 [(0, .ref a_this), (1, .int x1), (2, .int x2)] := hl
    unfold F_X7_ask at hF
    refine lv_aload_n C.1 C.2.1 dX7_ask_0 rfl (lv_at hl 0 rfl) ?_
    refine lv_iload_n C.1 C.2.1 dX7_ask_1 rfl (lv_at hl 1 rfl) ?_
    obtain ⟨r1, h2, hF⟩ := fb hF
    refine callVI C hK hA hP hD hS [0, 1] (c_X7_isRotor (a_this := a_this) (a_st := a_st) (a_now := a_now) (a_isKept := a_isKept) (a_draft := a_draft) (a_tape := a_tape) (a_wereAt := a_wereAt) (a_byPlace := a_byPlace) (a_lanes := a_lanes) (a_sizes := a_sizes) (a_cells := a_cells) (a_before := a_before) (v_hasSigns := v_hasSigns) (v_hasEvery := v_hasEvery) (v_taped := v_taped) (v_pos := v_pos) (v_begun := v_begun) (v_sort := v_sort) (v_value := v_value) (v_fault := v_fault) (v_wrongAt := v_wrongAt) (v_moved := v_moved) (v_slipTicks := v_slipTicks) (v_bestCode := v_bestCode) (v_bestMuch := v_bestMuch) (v_straightSum := v_straightSum) (v_movedSum := v_movedSum) (v_allWays := v_allWays) (v_torn := v_torn) (v_st := v_st) h2) cv_X7_isRotor kw4_177 rfl (by decide) rfl rfl rfl ⟨Nat.le_of_ble_eq_true rfl, Nat.le_of_ble_eq_true rfl⟩ ⟨Nat.zero_le _, Nat.zero_le _⟩ hl.1 rfl (Nat.le_of_ble_eq_true rfl) dX7_ask_2 (fun H locs hP hD hS => ?_)
    have hP : va_P D vwCl [(a_this, .inr (7, [.ref a_st, .ref a_now, .ref a_isKept, .ref a_draft, .int v_hasSigns, .int v_hasEvery, .ref a_tape, .int v_taped, .int v_pos, .int v_begun, .int v_sort, .int v_value, .int v_fault, .int v_wrongAt, .int v_moved, .int v_slipTicks, .int v_bestCode, .int v_bestMuch, .long v_straightSum, .long v_movedSum, .long v_allWays, .ref a_wereAt, .ref a_byPlace, .ref a_lanes, .ref a_sizes, .ref a_cells, .int v_torn, .ref a_before])), (a_st, .inl (cI, 168, .inl v_st)), (a_now, .inl (cI, 56, .inl v_now)), (a_wereAt, .inl (cI, 164, .inl v_wereAt)), (a_byPlace, .inl (cI, 328, .inl v_byPlace))] H := hP
    have hD : va_D A [(a_this, .inr (7, [.ref a_st, .ref a_now, .ref a_isKept, .ref a_draft, .int v_hasSigns, .int v_hasEvery, .ref a_tape, .int v_taped, .int v_pos, .int v_begun, .int v_sort, .int v_value, .int v_fault, .int v_wrongAt, .int v_moved, .int v_slipTicks, .int v_bestCode, .int v_bestMuch, .long v_straightSum, .long v_movedSum, .long v_allWays, .ref a_wereAt, .ref a_byPlace, .ref a_lanes, .ref a_sizes, .ref a_cells, .int v_torn, .ref a_before])), (a_st, .inl (cI, 168, .inl v_st)), (a_now, .inl (cI, 56, .inl v_now)), (a_wereAt, .inl (cI, 164, .inl v_wereAt)), (a_byPlace, .inl (cI, 328, .inl v_byPlace))] := hD
    refine lv_if_eq (tgt := 15) C.1 C.2.1 dX7_ask_5 (by decide) (fun c3 => ?_) (fun c3 => ?_)
    · have hF := fp hF c3
      refine lv_iconst (v := (-1)) C.1 C.2.1 dX7_ask_15 (by decide) ?_
      have hF := Option.some.inj hF
      subst hF
      exact retI C hr hlk hP hD hS dX7_ask_16
    · have hF := fn hF c3
      refine lv_iload_n C.1 C.2.1 dX7_ask_8 rfl (lv_at hl 2 rfl) ?_
      obtain ⟨r4, h5, hF⟩ := fb hF
      refine callSI C hK hA hP hD hS (c_X7_isPart  h5) cs_X7_isPart kw5_28 ⟨Nat.le_of_ble_eq_true rfl, Nat.le_of_ble_eq_true rfl⟩ ⟨Nat.zero_le _, Nat.zero_le _⟩ hl.1 rfl (Nat.le_of_ble_eq_true rfl) dX7_ask_9 (fun H locs hP hD hS => ?_)
      refine lv_if_ne (tgt := 17) C.1 C.2.1 dX7_ask_12 (by decide) (fun c6 => ?_) (fun c6 => ?_)
      · have hF := fn hF c6
        refine lv_bipush (v := 20) C.1 C.2.1 dX7_ask_17 (by decide) ?_
        refine lv_iconst (v := 4) C.1 C.2.1 dX7_ask_19 (by decide) ?_
        refine lv_iload_n C.1 C.2.1 dX7_ask_20 rfl (lv_at hl 1 rfl) ?_
        refine lv_imul C.1 C.2.1 dX7_ask_21 ?_
        refine lv_iadd C.1 C.2.1 dX7_ask_22 ?_
        refine lv_iconst (v := 2) C.1 C.2.1 dX7_ask_23 (by decide) ?_
        refine lv_iadd C.1 C.2.1 dX7_ask_24 ?_
        refine lv_istore_n (lv' := [(3, .int (((20 : Int32) + ((4 : Int32) * x1)) + (2 : Int32))), (0, .ref a_this), (1, .int x1), (2, .int x2)]) C.1 C.2.1 dX7_ask_25 rfl hl (by decide) rfl (fun ls hl => ?_)
        refine lv_iconst (v := 0) C.1 C.2.1 dX7_ask_26 (by decide) ?_
        refine lv_istore (lv' := [(4, .int (0 : Int32)), (3, .int (((20 : Int32) + ((4 : Int32) * x1)) + (2 : Int32))), (0, .ref a_this), (1, .int x1), (2, .int x2)]) C.1 C.2.1 dX7_ask_27 hl (by decide) rfl (fun ls hl => ?_)
        refine lv_iconst (v := 0) C.1 C.2.1 dX7_ask_29 (by decide) ?_
        refine lv_istore (lv' := [(5, .int (0 : Int32)), (4, .int (0 : Int32)), (3, .int (((20 : Int32) + ((4 : Int32) * x1)) + (2 : Int32))), (0, .ref a_this), (1, .int x1), (2, .int x2)]) C.1 C.2.1 dX7_ask_30 hl (by decide) rfl (fun ls hl => ?_)
        exact b_X7_ask_32 C hr hlk hK hA FU v_moved v_slipTicks v_bestCode v_bestMuch v_st v_now v_wereAt v_byPlace x1 x2 (((20 : Int32) + ((4 : Int32) * x1)) + (2 : Int32)) (0 : Int32) (0 : Int32) _ _ _ hF hP hD hS (lv_sub hl [3, 4, 5, 2, 1, 0] rfl)
      · have hF := fp hF c6
        refine lv_iconst (v := (-1)) C.1 C.2.1 dX7_ask_15 (by decide) ?_
        have hF := Option.some.inj hF
        subst hF
        exact retI C hr hlk hP hD hS dX7_ask_16)
theorem c_X7_ask {l : Launch} {D : va_G} {cI cB cZ cR cM cS : ClassId} {a_this : Nat} {a_st : Nat} {a_now : Nat} {a_isKept : Nat} {a_draft : Nat} {a_tape : Nat} {a_wereAt : Nat} {a_byPlace : Nat} {a_lanes : Nat} {a_sizes : Nat} {a_cells : Nat} {a_before : Nat} {v_hasSigns : Int32} {v_hasEvery : Int32} {v_taped : Int32} {v_pos : Int32} {v_begun : Int32} {v_sort : Int32} {v_value : Int32} {v_fault : Int32} {v_wrongAt : Int32} {v_moved : Int32} {v_slipTicks : Int32} {v_bestCode : Int32} {v_bestMuch : Int32} {v_straightSum : Int64} {v_movedSum : Int64} {v_allWays : Int64} {v_torn : Int32} {v_st : Nat → Int32} {v_now : Nat → Int32} {v_wereAt : Nat → Int32} {v_byPlace : Nat → Int32} {x1 : Int32} {x2 : Int32} {r_ : Int32} {v_moved' : Int32} {v_slipTicks' : Int32} {v_bestCode' : Int32} {v_bestMuch' : Int32} {v_now' : Nat → Int32} {v_wereAt' : Nat → Int32} {v_byPlace' : Nat → Int32} (hF : F_X7_ask v_moved v_slipTicks v_bestCode v_bestMuch v_st v_now v_wereAt v_byPlace x1 x2 = some (r_, v_moved', v_slipTicks', v_bestCode', v_bestMuch', v_now', v_wereAt', v_byPlace')) : MI l yX7_ask cX7_ask 8 .int rm_X7_ask D (TS cI cB cZ cR cM cS) [.ref a_this, .int x1, .int x2] [(a_this, .inr (7, [.ref a_st, .ref a_now, .ref a_isKept, .ref a_draft, .int v_hasSigns, .int v_hasEvery, .ref a_tape, .int v_taped, .int v_pos, .int v_begun, .int v_sort, .int v_value, .int v_fault, .int v_wrongAt, .int v_moved, .int v_slipTicks, .int v_bestCode, .int v_bestMuch, .long v_straightSum, .long v_movedSum, .long v_allWays, .ref a_wereAt, .ref a_byPlace, .ref a_lanes, .ref a_sizes, .ref a_cells, .int v_torn, .ref a_before])), (a_st, .inl (cI, 168, .inl v_st)), (a_now, .inl (cI, 56, .inl v_now)), (a_wereAt, .inl (cI, 164, .inl v_wereAt)), (a_byPlace, .inl (cI, 328, .inl v_byPlace))] [(a_this, .inr (7, [.ref a_st, .ref a_now, .ref a_isKept, .ref a_draft, .int v_hasSigns, .int v_hasEvery, .ref a_tape, .int v_taped, .int v_pos, .int v_begun, .int v_sort, .int v_value, .int v_fault, .int v_wrongAt, .int v_moved', .int v_slipTicks', .int v_bestCode', .int v_bestMuch', .long v_straightSum, .long v_movedSum, .long v_allWays, .ref a_wereAt, .ref a_byPlace, .ref a_lanes, .ref a_sizes, .ref a_cells, .int v_torn, .ref a_before])), (a_st, .inl (cI, 168, .inl v_st)), (a_now, .inl (cI, 56, .inl v_now')), (a_wereAt, .inl (cI, 164, .inl v_wereAt')), (a_byPlace, .inl (cI, 328, .inl v_byPlace'))] r_ :=
  c0_X7_ask (res := (r_, v_moved', v_slipTicks', v_bestCode', v_bestMuch', v_now', v_wereAt', v_byPlace')) hF
def rm_X7_drift : Room := { frames := 5, cells := 0, slots := 0, locals := 111 }
theorem cv_X7_drift : CV yX7_drift cX7_drift 7 (some .int) rm_X7_drift RX7 3 := ⟨kw5_136, kw5_137, kw1_8, kw5_138, by decide +kernel, rfl, rfl⟩
set_option maxHeartbeats 4000000 in
set_option maxRecDepth 100000 in
theorem b_X7_drift_44 {l : Launch} {D : va_G} {cI cB cZ cR cM cS : ClassId} {a_this : Nat} {a_st : Nat} {a_now : Nat} {a_isKept : Nat} {a_draft : Nat} {a_tape : Nat} {a_wereAt : Nat} {a_byPlace : Nat} {a_lanes : Nat} {a_sizes : Nat} {a_cells : Nat} {a_before : Nat} {v_hasSigns : Int32} {v_hasEvery : Int32} {v_taped : Int32} {v_pos : Int32} {v_begun : Int32} {v_sort : Int32} {v_value : Int32} {v_fault : Int32} {v_wrongAt : Int32} {v_bestCode : Int32} {v_bestMuch : Int32} {v_straightSum : Int64} {v_movedSum : Int64} {v_allWays : Int64} {v_torn : Int32} {p : Program} {e : Env} {s : State} {m : MethodId} {args : Array Value} {below : List Frame} {meth : Method} {c : Code} {A : Nat → Prop} {res : Int32 × Int32 × Int32 × (Nat → Int32)} (C : CX p m c cX7_drift 7 s args RX7) (hr : meth.sig.returnType = (some .int)) (hlk : meth.locks = false) (hK : KK D (TS cI cB cZ cR cM cS) s) (hA : ∀ q, s.heap.size ≤ q → A q) : ∀ (fu : Nat) (v_moved : Int32) (v_slipTicks : Int32) (v_st : Nat → Int32) (v_now : Nat → Int32) (x2 : Int32) (x3 : Int32) (x4 : Int32) (x5 : Int32) (H : Heap) (locs : List Loc) (ls : Array Slot), F_X7_drift_44 fu v_moved v_slipTicks v_st v_now x2 x3 x4 x5 = some res → va_P D vwCl [(a_this, .inr (7, [.ref a_st, .ref a_now, .ref a_isKept, .ref a_draft, .int v_hasSigns, .int v_hasEvery, .ref a_tape, .int v_taped, .int v_pos, .int v_begun, .int v_sort, .int v_value, .int v_fault, .int v_wrongAt, .int v_moved, .int v_slipTicks, .int v_bestCode, .int v_bestMuch, .long v_straightSum, .long v_movedSum, .long v_allWays, .ref a_wereAt, .ref a_byPlace, .ref a_lanes, .ref a_sizes, .ref a_cells, .int v_torn, .ref a_before])), (a_st, .inl (cI, 168, .inl v_st)), (a_now, .inl (cI, 56, .inl v_now))] H → va_D A [(a_this, .inr (7, [.ref a_st, .ref a_now, .ref a_isKept, .ref a_draft, .int v_hasSigns, .int v_hasEvery, .ref a_tape, .int v_taped, .int v_pos, .int v_begun, .int v_sort, .int v_value, .int v_fault, .int v_wrongAt, .int v_moved, .int v_slipTicks, .int v_bestCode, .int v_bestMuch, .long v_straightSum, .long v_movedSum, .long v_allWays, .ref a_wereAt, .ref a_byPlace, .ref a_lanes, .ref a_sizes, .ref a_cells, .int v_torn, .ref a_before])), (a_st, .inl (cI, 168, .inl v_st)), (a_now, .inl (cI, 56, .inl v_now))] → va_S A s.heap H locs → lv_has ls 7 [(0, .ref a_this), (2, .int x2), (3, .int x3), (4, .int x4), (5, .int x5)] → W p l e rm_X7_drift s m args below meth c H locs 0 0 (MQ below (va_Qi (fun x (_ : Unit) => x = res.1) (BW D A [(a_this, .inr (7, [.ref a_st, .ref a_now, .ref a_isKept, .ref a_draft, .int v_hasSigns, .int v_hasEvery, .ref a_tape, .int v_taped, .int v_pos, .int v_begun, .int v_sort, .int v_value, .int v_fault, .int v_wrongAt, .int res.2.1, .int res.2.2.1, .int v_bestCode, .int v_bestMuch, .long v_straightSum, .long v_movedSum, .long v_allWays, .ref a_wereAt, .ref a_byPlace, .ref a_lanes, .ref a_sizes, .ref a_cells, .int v_torn, .ref a_before])), (a_st, .inl (cI, 168, .inl v_st)), (a_now, .inl (cI, 56, .inl res.2.2.2))]) A) args s 0 0 A) (F0 m 44 ls []) := by
  intro fu
  induction fu with
  | zero => intro v_moved v_slipTicks v_st v_now x2 x3 x4 x5 H locs ls hF; cases hF
  | succ fu ih =>
    intro v_moved v_slipTicks v_st v_now x2 x3 x4 x5 H locs ls hF  hP hD hS hl
    unfold F_X7_drift_44 at hF
    refine lv_iload C.1 C.2.1 dX7_drift_44 (lv_at hl 4 rfl) ?_
    refine lv_iload_n C.1 C.2.1 dX7_drift_46 rfl (lv_at hl 1 rfl) ?_
    refine lv_icmp_ge (tgt := 102) C.1 C.2.1 dX7_drift_47 (by decide) (fun c1 => ?_) (fun c1 => ?_)
    · have hF := fp hF c1
      refine lv_iload_n C.1 C.2.1 dX7_drift_102 rfl (lv_at hl 2 rfl) ?_
      refine lv_if_ne (tgt := 113) C.1 C.2.1 dX7_drift_103 (by decide) (fun c2 => ?_) (fun c2 => ?_)
      · have hF := fn hF c2
        refine lv_aload_n C.1 C.2.1 dX7_drift_113 rfl (lv_at hl 0 rfl) ?_
        refine gf_7_7_moved C hK hP 0 rfl rfl dX7_drift_114 ?_
        have hF := Option.some.inj hF
        subst hF
        exact retI C hr hlk hP hD hS dX7_drift_117
      · have hF := fp hF c2
        refine lv_aload_n C.1 C.2.1 dX7_drift_106 rfl (lv_at hl 0 rfl) ?_
        obtain ⟨r3, h4, hF⟩ := fb hF
        refine callVI C hK hA hP hD hS [0, 2] (c_X7_allLost (a_this := a_this) (a_st := a_st) (a_now := a_now) (a_isKept := a_isKept) (a_draft := a_draft) (a_tape := a_tape) (a_wereAt := a_wereAt) (a_byPlace := a_byPlace) (a_lanes := a_lanes) (a_sizes := a_sizes) (a_cells := a_cells) (a_before := a_before) (v_hasSigns := v_hasSigns) (v_hasEvery := v_hasEvery) (v_taped := v_taped) (v_pos := v_pos) (v_begun := v_begun) (v_sort := v_sort) (v_value := v_value) (v_fault := v_fault) (v_wrongAt := v_wrongAt) (v_moved := v_moved) (v_slipTicks := v_slipTicks) (v_bestCode := v_bestCode) (v_bestMuch := v_bestMuch) (v_straightSum := v_straightSum) (v_movedSum := v_movedSum) (v_allWays := v_allWays) (v_torn := v_torn) (v_now := v_now) h4) cv_X7_allLost kw4_165 rfl (by decide) rfl rfl rfl ⟨Nat.le_of_ble_eq_true rfl, Nat.le_of_ble_eq_true rfl⟩ ⟨Nat.zero_le _, Nat.zero_le _⟩ hl.1 rfl (Nat.le_of_ble_eq_true rfl) dX7_drift_107 (fun H locs hP hD hS => ?_)
        have hP : va_P D vwCl [(a_this, .inr (7, [.ref a_st, .ref a_now, .ref a_isKept, .ref a_draft, .int v_hasSigns, .int v_hasEvery, .ref a_tape, .int v_taped, .int v_pos, .int v_begun, .int v_sort, .int v_value, .int v_fault, .int v_wrongAt, .int v_moved, .int v_slipTicks, .int v_bestCode, .int v_bestMuch, .long v_straightSum, .long v_movedSum, .long v_allWays, .ref a_wereAt, .ref a_byPlace, .ref a_lanes, .ref a_sizes, .ref a_cells, .int v_torn, .ref a_before])), (a_st, .inl (cI, 168, .inl v_st)), (a_now, .inl (cI, 56, .inl v_now))] H := hP
        have hD : va_D A [(a_this, .inr (7, [.ref a_st, .ref a_now, .ref a_isKept, .ref a_draft, .int v_hasSigns, .int v_hasEvery, .ref a_tape, .int v_taped, .int v_pos, .int v_begun, .int v_sort, .int v_value, .int v_fault, .int v_wrongAt, .int v_moved, .int v_slipTicks, .int v_bestCode, .int v_bestMuch, .long v_straightSum, .long v_movedSum, .long v_allWays, .ref a_wereAt, .ref a_byPlace, .ref a_lanes, .ref a_sizes, .ref a_cells, .int v_torn, .ref a_before])), (a_st, .inl (cI, 168, .inl v_st)), (a_now, .inl (cI, 56, .inl v_now))] := hD
        refine lv_goto (tgt := 117) C.1 C.2.1 dX7_drift_110 (by decide) ?_
        have hF := Option.some.inj hF
        subst hF
        exact retI C hr hlk hP hD hS dX7_drift_117
    · have hF := fn hF c1
      refine lv_iload C.1 C.2.1 dX7_drift_50 (lv_at hl 3 rfl) ?_
      refine lv_ldcw (v := 1103515245) C.1 C.2.1 C.2.2.2.1 (C.2.2.2.2 _ kw5_139) dX7_drift_52 ?_
      refine lv_imul C.1 C.2.1 dX7_drift_55 ?_
      refine lv_sipush (v := 12345) C.1 C.2.1 dX7_drift_56 (by decide) ?_
      refine lv_iadd C.1 C.2.1 dX7_drift_59 ?_
      refine lv_istore (lv' := [(4, .int ((x4 * (1103515245 : Int32)) + (12345 : Int32))), (0, .ref a_this), (2, .int x2), (3, .int x3), (5, .int x5)]) C.1 C.2.1 dX7_drift_60 hl (by decide) rfl (fun ls hl => ?_)
      refine lv_iload C.1 C.2.1 dX7_drift_62 (lv_at hl 0 rfl) ?_
      refine lv_bipush (v := 16) C.1 C.2.1 dX7_drift_64 (by decide) ?_
      refine lv_ishr C.1 C.2.1 dX7_drift_66 ?_
      refine lv_sipush (v := 32767) C.1 C.2.1 dX7_drift_67 (by decide) ?_
      refine lv_iand C.1 C.2.1 dX7_drift_70 ?_
      refine lv_istore (lv' := [(6, .int ((ishr ((x4 * (1103515245 : Int32)) + (12345 : Int32)) (16 : Int32)) &&& (32767 : Int32))), (4, .int ((x4 * (1103515245 : Int32)) + (12345 : Int32))), (0, .ref a_this), (2, .int x2), (3, .int x3), (5, .int x5)]) C.1 C.2.1 dX7_drift_71 hl (by decide) rfl (fun ls hl => ?_)
      refine lv_aload_n C.1 C.2.1 dX7_drift_73 rfl (lv_at hl 2 rfl) ?_
      refine gf_7_7_now C hK hP 0 rfl rfl dX7_drift_74 ?_
      refine lv_iconst (v := 0) C.1 C.2.1 dX7_drift_77 (by decide) ?_
      refine lv_dup2_11 C.1 C.2.1 dX7_drift_78 rfl rfl ?_
      obtain ⟨h5, hF⟩ := fk hF
      refine va_iald C.1 C.2.1 hK.1 hP 2 0 rfl rfl h5 dX7_drift_79 ?_
      refine lv_iload C.1 C.2.1 dX7_drift_80 (lv_at hl 0 rfl) ?_
      refine lv_iconst (v := 4) C.1 C.2.1 dX7_drift_82 (by decide) ?_
      refine lv_idiv C.1 C.2.1 dX7_drift_83 (by decide) ?_
      refine lv_iconst (v := 4) C.1 C.2.1 dX7_drift_84 (by decide) ?_
      refine lv_irem C.1 C.2.1 dX7_drift_85 (by decide) ?_
      obtain ⟨r6, h7, hF⟩ := fb hF
      refine callSI C hK hA hP hD hS (c_X7_byOf  h7) cs_X7_byOf kw4_233 ⟨Nat.le_of_ble_eq_true rfl, Nat.le_of_ble_eq_true rfl⟩ ⟨Nat.zero_le _, Nat.zero_le _⟩ hl.1 rfl (Nat.le_of_ble_eq_true rfl) dX7_drift_86 (fun H locs hP hD hS => ?_)
      refine lv_iadd C.1 C.2.1 dX7_drift_89 ?_
      obtain ⟨h8, hF⟩ := fk hF
      refine va_iast C.1 C.2.1 hK.1 hP hD hS 2 0 rfl rfl h8 dX7_drift_90 (fun H locs hP hD hS => ?_)
      have hP : va_P D vwCl [(a_this, .inr (7, [.ref a_st, .ref a_now, .ref a_isKept, .ref a_draft, .int v_hasSigns, .int v_hasEvery, .ref a_tape, .int v_taped, .int v_pos, .int v_begun, .int v_sort, .int v_value, .int v_fault, .int v_wrongAt, .int v_moved, .int v_slipTicks, .int v_bestCode, .int v_bestMuch, .long v_straightSum, .long v_movedSum, .long v_allWays, .ref a_wereAt, .ref a_byPlace, .ref a_lanes, .ref a_sizes, .ref a_cells, .int v_torn, .ref a_before])), (a_st, .inl (cI, 168, .inl v_st)), (a_now, .inl (cI, 56, .inl (upd v_now (0 : Int32).toNatClampNeg ((v_now (0 : Int32).toNatClampNeg) + r6))))] H := hP
      have hD : va_D A [(a_this, .inr (7, [.ref a_st, .ref a_now, .ref a_isKept, .ref a_draft, .int v_hasSigns, .int v_hasEvery, .ref a_tape, .int v_taped, .int v_pos, .int v_begun, .int v_sort, .int v_value, .int v_fault, .int v_wrongAt, .int v_moved, .int v_slipTicks, .int v_bestCode, .int v_bestMuch, .long v_straightSum, .long v_movedSum, .long v_allWays, .ref a_wereAt, .ref a_byPlace, .ref a_lanes, .ref a_sizes, .ref a_cells, .int v_torn, .ref a_before])), (a_st, .inl (cI, 168, .inl v_st)), (a_now, .inl (cI, 56, .inl (upd v_now (0 : Int32).toNatClampNeg ((v_now (0 : Int32).toNatClampNeg) + r6))))] := hD
      refine lv_aload_n C.1 C.2.1 dX7_drift_91 rfl (lv_at hl 2 rfl) ?_
      refine lv_iconst (v := 0) C.1 C.2.1 dX7_drift_92 (by decide) ?_
      obtain ⟨⟨w9, w10, w11⟩, h12, hF⟩ := fb hF
      refine callVV C hK hA hP hD hS [0, 2] (c_X7_rotorsGo (a_this := a_this) (a_st := a_st) (a_now := a_now) (a_isKept := a_isKept) (a_draft := a_draft) (a_tape := a_tape) (a_wereAt := a_wereAt) (a_byPlace := a_byPlace) (a_lanes := a_lanes) (a_sizes := a_sizes) (a_cells := a_cells) (a_before := a_before) (v_hasSigns := v_hasSigns) (v_hasEvery := v_hasEvery) (v_taped := v_taped) (v_pos := v_pos) (v_begun := v_begun) (v_sort := v_sort) (v_value := v_value) (v_fault := v_fault) (v_wrongAt := v_wrongAt) (v_moved := v_moved) (v_slipTicks := v_slipTicks) (v_bestCode := v_bestCode) (v_bestMuch := v_bestMuch) (v_straightSum := v_straightSum) (v_movedSum := v_movedSum) (v_allWays := v_allWays) (v_torn := v_torn) (v_now := upd v_now (0 : Int32).toNatClampNeg ((v_now (0 : Int32).toNatClampNeg) + r6)) h12) cv_X7_rotorsGo kw4_236 rfl (by decide) rfl rfl rfl ⟨Nat.le_of_ble_eq_true rfl, Nat.le_of_ble_eq_true rfl⟩ ⟨Nat.zero_le _, Nat.zero_le _⟩ hl.1 rfl (Nat.le_of_ble_eq_true rfl) dX7_drift_93 (fun H locs hP hD hS => ?_)
      have hP : va_P D vwCl [(a_this, .inr (7, [.ref a_st, .ref a_now, .ref a_isKept, .ref a_draft, .int v_hasSigns, .int v_hasEvery, .ref a_tape, .int v_taped, .int v_pos, .int v_begun, .int v_sort, .int v_value, .int v_fault, .int v_wrongAt, .int w9, .int w10, .int v_bestCode, .int v_bestMuch, .long v_straightSum, .long v_movedSum, .long v_allWays, .ref a_wereAt, .ref a_byPlace, .ref a_lanes, .ref a_sizes, .ref a_cells, .int v_torn, .ref a_before])), (a_st, .inl (cI, 168, .inl v_st)), (a_now, .inl (cI, 56, .inl w11))] H := hP
      have hD : va_D A [(a_this, .inr (7, [.ref a_st, .ref a_now, .ref a_isKept, .ref a_draft, .int v_hasSigns, .int v_hasEvery, .ref a_tape, .int v_taped, .int v_pos, .int v_begun, .int v_sort, .int v_value, .int v_fault, .int v_wrongAt, .int w9, .int w10, .int v_bestCode, .int v_bestMuch, .long v_straightSum, .long v_movedSum, .long v_allWays, .ref a_wereAt, .ref a_byPlace, .ref a_lanes, .ref a_sizes, .ref a_cells, .int v_torn, .ref a_before])), (a_st, .inl (cI, 168, .inl v_st)), (a_now, .inl (cI, 56, .inl w11))] := hD
      refine lv_iinc (v := x5 + 1) (lv' := [(5, .int (x5 + 1)), (6, .int ((ishr ((x4 * (1103515245 : Int32)) + (12345 : Int32)) (16 : Int32)) &&& (32767 : Int32))), (4, .int ((x4 * (1103515245 : Int32)) + (12345 : Int32))), (0, .ref a_this), (2, .int x2), (3, .int x3)]) C.1 C.2.1 dX7_drift_96 hl (k := 5) rfl rfl (by decide) rfl (fun ls hl => ?_)
      refine lv_goto (tgt := 44) C.1 C.2.1 dX7_drift_99 (by decide) ?_
      exact ih w9 w10 v_st w11 x2 x3 ((x4 * (1103515245 : Int32)) + (12345 : Int32)) (x5 + 1) _ _ _ hF hP hD hS (lv_sub hl [3, 4, 5, 2, 0] rfl)
set_option maxHeartbeats 4000000 in
set_option maxRecDepth 100000 in
theorem c0_X7_drift {l : Launch} {D : va_G} {cI cB cZ cR cM cS : ClassId} {a_this : Nat} {a_st : Nat} {a_now : Nat} {a_isKept : Nat} {a_draft : Nat} {a_tape : Nat} {a_wereAt : Nat} {a_byPlace : Nat} {a_lanes : Nat} {a_sizes : Nat} {a_cells : Nat} {a_before : Nat} {v_hasSigns : Int32} {v_hasEvery : Int32} {v_taped : Int32} {v_pos : Int32} {v_begun : Int32} {v_sort : Int32} {v_value : Int32} {v_fault : Int32} {v_wrongAt : Int32} {v_moved : Int32} {v_slipTicks : Int32} {v_bestCode : Int32} {v_bestMuch : Int32} {v_straightSum : Int64} {v_movedSum : Int64} {v_allWays : Int64} {v_torn : Int32} {v_st : Nat → Int32} {v_now : Nat → Int32} {x1 : Int32} {x2 : Int32} {x3 : Int32} {res : Int32 × Int32 × Int32 × (Nat → Int32)} (hF : F_X7_drift v_moved v_slipTicks v_st v_now x1 x2 x3 = some res) : MI l yX7_drift cX7_drift 7 .int rm_X7_drift D (TS cI cB cZ cR cM cS) [.ref a_this, .int x1, .int x2, .int x3] [(a_this, .inr (7, [.ref a_st, .ref a_now, .ref a_isKept, .ref a_draft, .int v_hasSigns, .int v_hasEvery, .ref a_tape, .int v_taped, .int v_pos, .int v_begun, .int v_sort, .int v_value, .int v_fault, .int v_wrongAt, .int v_moved, .int v_slipTicks, .int v_bestCode, .int v_bestMuch, .long v_straightSum, .long v_movedSum, .long v_allWays, .ref a_wereAt, .ref a_byPlace, .ref a_lanes, .ref a_sizes, .ref a_cells, .int v_torn, .ref a_before])), (a_st, .inl (cI, 168, .inl v_st)), (a_now, .inl (cI, 56, .inl v_now))] [(a_this, .inr (7, [.ref a_st, .ref a_now, .ref a_isKept, .ref a_draft, .int v_hasSigns, .int v_hasEvery, .ref a_tape, .int v_taped, .int v_pos, .int v_begun, .int v_sort, .int v_value, .int v_fault, .int v_wrongAt, .int res.2.1, .int res.2.2.1, .int v_bestCode, .int v_bestMuch, .long v_straightSum, .long v_movedSum, .long v_allWays, .ref a_wereAt, .ref a_byPlace, .ref a_lanes, .ref a_sizes, .ref a_cells, .int v_torn, .ref a_before])), (a_st, .inl (cI, 168, .inl v_st)), (a_now, .inl (cI, 56, .inl res.2.2.2))] res.1 :=
  MI_of (by decide) (Nat.le_of_ble_eq_true rfl) (fun p e s m args below meth c A ls C hr hlk hK hA hP hD hS hl => by
    have C : CX p m c cX7_drift 7 s args RX7 := C
    have hl : lv_has ls 7 [(0, .ref a_this), (1, .int x1), (2, .int x2), (3, .int x3)] := hl
    unfold F_X7_drift at hF
    refine lv_iload_n C.1 C.2.1 dX7_drift_0 rfl (lv_at hl 2 rfl) ?_
    refine lv_i2l (v := x2.toInt64) C.1 C.2.1 dX7_drift_1 rfl ?_
    refine lv_lconst (v := 1) C.1 C.2.1 dX7_drift_2 rfl ?_
    refine lv_ldc2 (v := 200) C.1 C.2.1 C.2.2.2.1 (C.2.2.2.2 _ kw5_23) dX7_drift_3 ?_
    obtain ⟨r1, h2, hF⟩ := fb hF
    refine callSI C hK hA hP hD hS (c_X7_in  h2) cs_X7_in kw4_76 ⟨Nat.le_of_ble_eq_true rfl, Nat.le_of_ble_eq_true rfl⟩ ⟨Nat.zero_le _, Nat.zero_le _⟩ hl.1 rfl (Nat.le_of_ble_eq_true rfl) dX7_drift_6 (fun H locs hP hD hS => ?_)
    refine lv_if_eq (tgt := 19) C.1 C.2.1 dX7_drift_9 (by decide) (fun c3 => ?_) (fun c3 => ?_)
    · have hF := fp hF c3
      refine lv_iconst (v := (-1)) C.1 C.2.1 dX7_drift_19 (by decide) ?_
      have hF := Option.some.inj hF
      subst hF
      exact retI C hr hlk hP hD hS dX7_drift_20
    · have hF := fn hF c3
      refine lv_iload_n C.1 C.2.1 dX7_drift_12 rfl (lv_at hl 3 rfl) ?_
      obtain ⟨r4, h5, hF⟩ := fb hF
      refine callSI C hK hA hP hD hS (c_X7_isPart  h5) cs_X7_isPart kw5_28 ⟨Nat.le_of_ble_eq_true rfl, Nat.le_of_ble_eq_true rfl⟩ ⟨Nat.zero_le _, Nat.zero_le _⟩ hl.1 rfl (Nat.le_of_ble_eq_true rfl) dX7_drift_13 (fun H locs hP hD hS => ?_)
      refine lv_if_ne (tgt := 21) C.1 C.2.1 dX7_drift_16 (by decide) (fun c6 => ?_) (fun c6 => ?_)
      · have hF := fn hF c6
        refine lv_aload_n C.1 C.2.1 dX7_drift_21 rfl (lv_at hl 0 rfl) ?_
        refine gf_7_7_st C hK hP 0 rfl rfl dX7_drift_22 ?_
        refine lv_bipush (v := 36) C.1 C.2.1 dX7_drift_25 (by decide) ?_
        obtain ⟨h7, hF⟩ := fk hF
        refine va_iald C.1 C.2.1 hK.1 hP 1 0 rfl rfl h7 dX7_drift_27 ?_
        refine lv_if_ne (tgt := 34) C.1 C.2.1 dX7_drift_28 (by decide) (fun c8 => ?_) (fun c8 => ?_)
        · have hF := fn hF c8
          refine lv_iload_n C.1 C.2.1 dX7_drift_34 rfl (lv_at hl 1 rfl) ?_
          refine lv_istore (lv' := [(4, .int x1), (0, .ref a_this), (1, .int x1), (2, .int x2), (3, .int x3)]) C.1 C.2.1 dX7_drift_35 hl (by decide) rfl (fun ls hl => ?_)
          refine lv_aload_n C.1 C.2.1 dX7_drift_37 rfl (lv_at hl 1 rfl) ?_
          obtain ⟨⟨w9, w10, w11⟩, h12, hF⟩ := fb hF
          refine callVV C hK hA hP hD hS [0, 1, 2] (c_X7_takesAll (a_this := a_this) (a_st := a_st) (a_now := a_now) (a_isKept := a_isKept) (a_draft := a_draft) (a_tape := a_tape) (a_wereAt := a_wereAt) (a_byPlace := a_byPlace) (a_lanes := a_lanes) (a_sizes := a_sizes) (a_cells := a_cells) (a_before := a_before) (v_hasSigns := v_hasSigns) (v_hasEvery := v_hasEvery) (v_taped := v_taped) (v_pos := v_pos) (v_begun := v_begun) (v_sort := v_sort) (v_value := v_value) (v_fault := v_fault) (v_wrongAt := v_wrongAt) (v_moved := v_moved) (v_slipTicks := v_slipTicks) (v_bestCode := v_bestCode) (v_bestMuch := v_bestMuch) (v_straightSum := v_straightSum) (v_movedSum := v_movedSum) (v_allWays := v_allWays) (v_torn := v_torn) (v_st := v_st) (v_now := v_now) h12) cv_X7_takesAll kw4_135 rfl (by decide) rfl rfl rfl ⟨Nat.le_of_ble_eq_true rfl, Nat.le_of_ble_eq_true rfl⟩ ⟨Nat.zero_le _, Nat.zero_le _⟩ hl.1 rfl (Nat.le_of_ble_eq_true rfl) dX7_drift_38 (fun H locs hP hD hS => ?_)
          have hP : va_P D vwCl [(a_this, .inr (7, [.ref a_st, .ref a_now, .ref a_isKept, .ref a_draft, .int v_hasSigns, .int v_hasEvery, .ref a_tape, .int v_taped, .int v_pos, .int v_begun, .int v_sort, .int v_value, .int v_fault, .int v_wrongAt, .int w9, .int w10, .int v_bestCode, .int v_bestMuch, .long v_straightSum, .long v_movedSum, .long v_allWays, .ref a_wereAt, .ref a_byPlace, .ref a_lanes, .ref a_sizes, .ref a_cells, .int v_torn, .ref a_before])), (a_st, .inl (cI, 168, .inl v_st)), (a_now, .inl (cI, 56, .inl w11))] H := hP
          have hD : va_D A [(a_this, .inr (7, [.ref a_st, .ref a_now, .ref a_isKept, .ref a_draft, .int v_hasSigns, .int v_hasEvery, .ref a_tape, .int v_taped, .int v_pos, .int v_begun, .int v_sort, .int v_value, .int v_fault, .int v_wrongAt, .int w9, .int w10, .int v_bestCode, .int v_bestMuch, .long v_straightSum, .long v_movedSum, .long v_allWays, .ref a_wereAt, .ref a_byPlace, .ref a_lanes, .ref a_sizes, .ref a_cells, .int v_torn, .ref a_before])), (a_st, .inl (cI, 168, .inl v_st)), (a_now, .inl (cI, 56, .inl w11))] := hD
          refine lv_iconst (v := 0) C.1 C.2.1 dX7_drift_41 (by decide) ?_
          refine lv_istore (lv' := [(5, .int (0 : Int32)), (4, .int x1), (0, .ref a_this), (1, .int x1), (2, .int x2), (3, .int x3)]) C.1 C.2.1 dX7_drift_42 hl (by decide) rfl (fun ls hl => ?_)
          exact b_X7_drift_44 C hr hlk hK hA FU w9 w10 v_st w11 x2 x3 x1 (0 : Int32) _ _ _ hF hP hD hS (lv_sub hl [2, 4, 5, 1, 0] rfl)
        · have hF := fp hF c8
          refine lv_bipush (v := (-2)) C.1 C.2.1 dX7_drift_31 (by decide) ?_
          have hF := Option.some.inj hF
          subst hF
          exact retI C hr hlk hP hD hS dX7_drift_33
      · have hF := fp hF c6
        refine lv_iconst (v := (-1)) C.1 C.2.1 dX7_drift_19 (by decide) ?_
        have hF := Option.some.inj hF
        subst hF
        exact retI C hr hlk hP hD hS dX7_drift_20)
theorem c_X7_drift {l : Launch} {D : va_G} {cI cB cZ cR cM cS : ClassId} {a_this : Nat} {a_st : Nat} {a_now : Nat} {a_isKept : Nat} {a_draft : Nat} {a_tape : Nat} {a_wereAt : Nat} {a_byPlace : Nat} {a_lanes : Nat} {a_sizes : Nat} {a_cells : Nat} {a_before : Nat} {v_hasSigns : Int32} {v_hasEvery : Int32} {v_taped : Int32} {v_pos : Int32} {v_begun : Int32} {v_sort : Int32} {v_value : Int32} {v_fault : Int32} {v_wrongAt : Int32} {v_moved : Int32} {v_slipTicks : Int32} {v_bestCode : Int32} {v_bestMuch : Int32} {v_straightSum : Int64} {v_movedSum : Int64} {v_allWays : Int64} {v_torn : Int32} {v_st : Nat → Int32} {v_now : Nat → Int32} {x1 : Int32} {x2 : Int32} {x3 : Int32} {r_ : Int32} {v_moved' : Int32} {v_slipTicks' : Int32} {v_now' : Nat → Int32} (hF : F_X7_drift v_moved v_slipTicks v_st v_now x1 x2 x3 = some (r_, v_moved', v_slipTicks', v_now')) : MI l yX7_drift cX7_drift 7 .int rm_X7_drift D (TS cI cB cZ cR cM cS) [.ref a_this, .int x1, .int x2, .int x3] [(a_this, .inr (7, [.ref a_st, .ref a_now, .ref a_isKept, .ref a_draft, .int v_hasSigns, .int v_hasEvery, .ref a_tape, .int v_taped, .int v_pos, .int v_begun, .int v_sort, .int v_value, .int v_fault, .int v_wrongAt, .int v_moved, .int v_slipTicks, .int v_bestCode, .int v_bestMuch, .long v_straightSum, .long v_movedSum, .long v_allWays, .ref a_wereAt, .ref a_byPlace, .ref a_lanes, .ref a_sizes, .ref a_cells, .int v_torn, .ref a_before])), (a_st, .inl (cI, 168, .inl v_st)), (a_now, .inl (cI, 56, .inl v_now))] [(a_this, .inr (7, [.ref a_st, .ref a_now, .ref a_isKept, .ref a_draft, .int v_hasSigns, .int v_hasEvery, .ref a_tape, .int v_taped, .int v_pos, .int v_begun, .int v_sort, .int v_value, .int v_fault, .int v_wrongAt, .int v_moved', .int v_slipTicks', .int v_bestCode, .int v_bestMuch, .long v_straightSum, .long v_movedSum, .long v_allWays, .ref a_wereAt, .ref a_byPlace, .ref a_lanes, .ref a_sizes, .ref a_cells, .int v_torn, .ref a_before])), (a_st, .inl (cI, 168, .inl v_st)), (a_now, .inl (cI, 56, .inl v_now'))] r_ :=
  c0_X7_drift (res := (r_, v_moved', v_slipTicks', v_now')) hF
def rm_X7_copies : Room := { frames := 0, cells := 0, slots := 0, locals := 0 }
theorem cv_X7_copies : CV yX7_copies cX7_copies 4 none rm_X7_copies RX7 2 := ⟨kw5_146, kwp_60, kw1_8, kw5_147, by decide +kernel, rfl, rfl⟩
set_option maxHeartbeats 4000000 in
set_option maxRecDepth 100000 in
theorem b_X7_copies_2 {l : Launch} {D : va_G} {cI cB cZ cR cM cS : ClassId} {a_this : Nat} {a_st : Nat} {a_now : Nat} {a_isKept : Nat} {a_draft : Nat} {a_tape : Nat} {a_wereAt : Nat} {a_byPlace : Nat} {a_lanes : Nat} {a_sizes : Nat} {a_cells : Nat} {a_before : Nat} {v_hasSigns : Int32} {v_hasEvery : Int32} {v_taped : Int32} {v_pos : Int32} {v_begun : Int32} {v_sort : Int32} {v_value : Int32} {v_fault : Int32} {v_wrongAt : Int32} {v_moved : Int32} {v_slipTicks : Int32} {v_bestCode : Int32} {v_bestMuch : Int32} {v_straightSum : Int64} {v_movedSum : Int64} {v_allWays : Int64} {v_torn : Int32} {p : Program} {e : Env} {s : State} {m : MethodId} {args : Array Value} {below : List Frame} {meth : Method} {c : Code} {A : Nat → Prop} {res : (Nat → Int32)} (C : CX p m c cX7_copies 4 s args RX7) (hr : meth.sig.returnType = none) (hlk : meth.locks = false) (hK : KK D (TS cI cB cZ cR cM cS) s) (hA : ∀ q, s.heap.size ≤ q → A q) : ∀ (fu : Nat) (v_st : Nat → Int32) (x1 : Int32) (x2 : Int32) (x3 : Int32) (H : Heap) (locs : List Loc) (ls : Array Slot), F_X7_copies_2 fu v_st x1 x2 x3 = some res → va_P D vwCl [(a_this, .inr (7, [.ref a_st, .ref a_now, .ref a_isKept, .ref a_draft, .int v_hasSigns, .int v_hasEvery, .ref a_tape, .int v_taped, .int v_pos, .int v_begun, .int v_sort, .int v_value, .int v_fault, .int v_wrongAt, .int v_moved, .int v_slipTicks, .int v_bestCode, .int v_bestMuch, .long v_straightSum, .long v_movedSum, .long v_allWays, .ref a_wereAt, .ref a_byPlace, .ref a_lanes, .ref a_sizes, .ref a_cells, .int v_torn, .ref a_before])), (a_st, .inl (cI, 168, .inl v_st))] H → va_D A [(a_this, .inr (7, [.ref a_st, .ref a_now, .ref a_isKept, .ref a_draft, .int v_hasSigns, .int v_hasEvery, .ref a_tape, .int v_taped, .int v_pos, .int v_begun, .int v_sort, .int v_value, .int v_fault, .int v_wrongAt, .int v_moved, .int v_slipTicks, .int v_bestCode, .int v_bestMuch, .long v_straightSum, .long v_movedSum, .long v_allWays, .ref a_wereAt, .ref a_byPlace, .ref a_lanes, .ref a_sizes, .ref a_cells, .int v_torn, .ref a_before])), (a_st, .inl (cI, 168, .inl v_st))] → va_S A s.heap H locs → lv_has ls 4 [(0, .ref a_this), (1, .int x1), (2, .int x2), (3, .int x3)] → W p l e rm_X7_copies s m args below meth c H locs 0 0 (MQ below (va_Qv (fun (_ : Unit) => True) (BW D A [(a_this, .inr (7, [.ref a_st, .ref a_now, .ref a_isKept, .ref a_draft, .int v_hasSigns, .int v_hasEvery, .ref a_tape, .int v_taped, .int v_pos, .int v_begun, .int v_sort, .int v_value, .int v_fault, .int v_wrongAt, .int v_moved, .int v_slipTicks, .int v_bestCode, .int v_bestMuch, .long v_straightSum, .long v_movedSum, .long v_allWays, .ref a_wereAt, .ref a_byPlace, .ref a_lanes, .ref a_sizes, .ref a_cells, .int v_torn, .ref a_before])), (a_st, .inl (cI, 168, .inl res))]) A) args s 0 0 A) (F0 m 2 ls []) := by
  intro fu
  induction fu with
  | zero => intro v_st x1 x2 x3 H locs ls hF; cases hF
  | succ fu ih =>
    intro v_st x1 x2 x3 H locs ls hF  hP hD hS hl
    unfold F_X7_copies_2 at hF
    refine lv_iload_n C.1 C.2.1 dX7_copies_2 rfl (lv_at hl 3 rfl) ?_
    refine lv_bipush (v := 56) C.1 C.2.1 dX7_copies_3 (by decide) ?_
    refine lv_icmp_ge (tgt := 30) C.1 C.2.1 dX7_copies_5 (by decide) (fun c1 => ?_) (fun c1 => ?_)
    · have hF := fp hF c1
      have hF := Option.some.inj hF
      subst hF
      exact retV C hr hlk hP hD hS dX7_copies_30
    · have hF := fn hF c1
      refine lv_aload_n C.1 C.2.1 dX7_copies_8 rfl (lv_at hl 0 rfl) ?_
      refine gf_7_7_st C hK hP 0 rfl rfl dX7_copies_9 ?_
      refine lv_iload_n C.1 C.2.1 dX7_copies_12 rfl (lv_at hl 1 rfl) ?_
      refine lv_iload_n C.1 C.2.1 dX7_copies_13 rfl (lv_at hl 3 rfl) ?_
      refine lv_iadd C.1 C.2.1 dX7_copies_14 ?_
      refine lv_aload_n C.1 C.2.1 dX7_copies_15 rfl (lv_at hl 0 rfl) ?_
      refine gf_7_7_st C hK hP 0 rfl rfl dX7_copies_16 ?_
      refine lv_iload_n C.1 C.2.1 dX7_copies_19 rfl (lv_at hl 2 rfl) ?_
      refine lv_iload_n C.1 C.2.1 dX7_copies_20 rfl (lv_at hl 3 rfl) ?_
      refine lv_iadd C.1 C.2.1 dX7_copies_21 ?_
      obtain ⟨h2, hF⟩ := fk hF
      refine va_iald C.1 C.2.1 hK.1 hP 1 0 rfl rfl h2 dX7_copies_22 ?_
      obtain ⟨h3, hF⟩ := fk hF
      refine va_iast C.1 C.2.1 hK.1 hP hD hS 1 0 rfl rfl h3 dX7_copies_23 (fun H locs hP hD hS => ?_)
      have hP : va_P D vwCl [(a_this, .inr (7, [.ref a_st, .ref a_now, .ref a_isKept, .ref a_draft, .int v_hasSigns, .int v_hasEvery, .ref a_tape, .int v_taped, .int v_pos, .int v_begun, .int v_sort, .int v_value, .int v_fault, .int v_wrongAt, .int v_moved, .int v_slipTicks, .int v_bestCode, .int v_bestMuch, .long v_straightSum, .long v_movedSum, .long v_allWays, .ref a_wereAt, .ref a_byPlace, .ref a_lanes, .ref a_sizes, .ref a_cells, .int v_torn, .ref a_before])), (a_st, .inl (cI, 168, .inl (upd v_st (x1 + x3).toNatClampNeg (v_st (x2 + x3).toNatClampNeg))))] H := hP
      have hD : va_D A [(a_this, .inr (7, [.ref a_st, .ref a_now, .ref a_isKept, .ref a_draft, .int v_hasSigns, .int v_hasEvery, .ref a_tape, .int v_taped, .int v_pos, .int v_begun, .int v_sort, .int v_value, .int v_fault, .int v_wrongAt, .int v_moved, .int v_slipTicks, .int v_bestCode, .int v_bestMuch, .long v_straightSum, .long v_movedSum, .long v_allWays, .ref a_wereAt, .ref a_byPlace, .ref a_lanes, .ref a_sizes, .ref a_cells, .int v_torn, .ref a_before])), (a_st, .inl (cI, 168, .inl (upd v_st (x1 + x3).toNatClampNeg (v_st (x2 + x3).toNatClampNeg))))] := hD
      refine lv_iinc (v := x3 + 1) (lv' := [(3, .int (x3 + 1)), (0, .ref a_this), (1, .int x1), (2, .int x2)]) C.1 C.2.1 dX7_copies_24 hl (k := 3) rfl rfl (by decide) rfl (fun ls hl => ?_)
      refine lv_goto (tgt := 2) C.1 C.2.1 dX7_copies_27 (by decide) ?_
      exact ih (upd v_st (x1 + x3).toNatClampNeg (v_st (x2 + x3).toNatClampNeg)) x1 x2 (x3 + 1) _ _ _ hF hP hD hS (lv_sub hl [1, 2, 3, 0] rfl)
set_option maxHeartbeats 4000000 in
set_option maxRecDepth 100000 in
theorem c_X7_copies {l : Launch} {D : va_G} {cI cB cZ cR cM cS : ClassId} {a_this : Nat} {a_st : Nat} {a_now : Nat} {a_isKept : Nat} {a_draft : Nat} {a_tape : Nat} {a_wereAt : Nat} {a_byPlace : Nat} {a_lanes : Nat} {a_sizes : Nat} {a_cells : Nat} {a_before : Nat} {v_hasSigns : Int32} {v_hasEvery : Int32} {v_taped : Int32} {v_pos : Int32} {v_begun : Int32} {v_sort : Int32} {v_value : Int32} {v_fault : Int32} {v_wrongAt : Int32} {v_moved : Int32} {v_slipTicks : Int32} {v_bestCode : Int32} {v_bestMuch : Int32} {v_straightSum : Int64} {v_movedSum : Int64} {v_allWays : Int64} {v_torn : Int32} {v_st : Nat → Int32} {x1 : Int32} {x2 : Int32} {res : (Nat → Int32)} (hF : F_X7_copies v_st x1 x2 = some res) : MV l yX7_copies cX7_copies 4 rm_X7_copies D (TS cI cB cZ cR cM cS) [.ref a_this, .int x1, .int x2] [(a_this, .inr (7, [.ref a_st, .ref a_now, .ref a_isKept, .ref a_draft, .int v_hasSigns, .int v_hasEvery, .ref a_tape, .int v_taped, .int v_pos, .int v_begun, .int v_sort, .int v_value, .int v_fault, .int v_wrongAt, .int v_moved, .int v_slipTicks, .int v_bestCode, .int v_bestMuch, .long v_straightSum, .long v_movedSum, .long v_allWays, .ref a_wereAt, .ref a_byPlace, .ref a_lanes, .ref a_sizes, .ref a_cells, .int v_torn, .ref a_before])), (a_st, .inl (cI, 168, .inl v_st))] [(a_this, .inr (7, [.ref a_st, .ref a_now, .ref a_isKept, .ref a_draft, .int v_hasSigns, .int v_hasEvery, .ref a_tape, .int v_taped, .int v_pos, .int v_begun, .int v_sort, .int v_value, .int v_fault, .int v_wrongAt, .int v_moved, .int v_slipTicks, .int v_bestCode, .int v_bestMuch, .long v_straightSum, .long v_movedSum, .long v_allWays, .ref a_wereAt, .ref a_byPlace, .ref a_lanes, .ref a_sizes, .ref a_cells, .int v_torn, .ref a_before])), (a_st, .inl (cI, 168, .inl res))] :=
  MV_of (by decide) (Nat.le_of_ble_eq_true rfl) (fun p e s m args below meth c A ls C hr hlk hK hA hP hD hS hl => by
    have C : CX p m c cX7_copies 4 s args RX7 := C
    have hl : lv_has ls 4 [(0, .ref a_this), (1, .int x1), (2, .int x2)] := hl
    unfold F_X7_copies at hF
    refine lv_iconst (v := 0) C.1 C.2.1 dX7_copies_0 (by decide) ?_
    refine lv_istore_n (lv' := [(3, .int (0 : Int32)), (0, .ref a_this), (1, .int x1), (2, .int x2)]) C.1 C.2.1 dX7_copies_1 rfl hl (by decide) rfl (fun ls hl => ?_)
    exact b_X7_copies_2 C hr hlk hK hA FU v_st x1 x2 (0 : Int32) _ _ _ hF hP hD hS (lv_sub hl [1, 2, 3, 0] rfl))
def rm_X7_keep : Room := { frames := 1, cells := 0, slots := 0, locals := 25 }
theorem cv_X7_keep : CV yX7_keep cX7_keep 3 (some .int) rm_X7_keep RX7 1 := ⟨kw5_141, kw5_142, kw1_8, kw5_143, by decide +kernel, rfl, rfl⟩
set_option maxHeartbeats 4000000 in
set_option maxRecDepth 100000 in
theorem c0_X7_keep {l : Launch} {D : va_G} {cI cB cZ cR cM cS : ClassId} {a_this : Nat} {a_st : Nat} {a_now : Nat} {a_isKept : Nat} {a_draft : Nat} {a_tape : Nat} {a_wereAt : Nat} {a_byPlace : Nat} {a_lanes : Nat} {a_sizes : Nat} {a_cells : Nat} {a_before : Nat} {v_hasSigns : Int32} {v_hasEvery : Int32} {v_taped : Int32} {v_pos : Int32} {v_begun : Int32} {v_sort : Int32} {v_value : Int32} {v_fault : Int32} {v_wrongAt : Int32} {v_moved : Int32} {v_slipTicks : Int32} {v_bestCode : Int32} {v_bestMuch : Int32} {v_straightSum : Int64} {v_movedSum : Int64} {v_allWays : Int64} {v_torn : Int32} {v_st : Nat → Int32} {v_isKept : Nat → Int32} {x1 : Int32} {res : Int32 × (Nat → Int32) × (Nat → Int32)} (hF : F_X7_keep v_st v_isKept x1 = some res) : MI l yX7_keep cX7_keep 3 .int rm_X7_keep D (TS cI cB cZ cR cM cS) [.ref a_this, .int x1] [(a_this, .inr (7, [.ref a_st, .ref a_now, .ref a_isKept, .ref a_draft, .int v_hasSigns, .int v_hasEvery, .ref a_tape, .int v_taped, .int v_pos, .int v_begun, .int v_sort, .int v_value, .int v_fault, .int v_wrongAt, .int v_moved, .int v_slipTicks, .int v_bestCode, .int v_bestMuch, .long v_straightSum, .long v_movedSum, .long v_allWays, .ref a_wereAt, .ref a_byPlace, .ref a_lanes, .ref a_sizes, .ref a_cells, .int v_torn, .ref a_before])), (a_st, .inl (cI, 168, .inl v_st)), (a_isKept, .inl (cZ, 2, .inl v_isKept))] [(a_this, .inr (7, [.ref a_st, .ref a_now, .ref a_isKept, .ref a_draft, .int v_hasSigns, .int v_hasEvery, .ref a_tape, .int v_taped, .int v_pos, .int v_begun, .int v_sort, .int v_value, .int v_fault, .int v_wrongAt, .int v_moved, .int v_slipTicks, .int v_bestCode, .int v_bestMuch, .long v_straightSum, .long v_movedSum, .long v_allWays, .ref a_wereAt, .ref a_byPlace, .ref a_lanes, .ref a_sizes, .ref a_cells, .int v_torn, .ref a_before])), (a_st, .inl (cI, 168, .inl res.2.1)), (a_isKept, .inl (cZ, 2, .inl res.2.2))] res.1 :=
  MI_of (by decide) (Nat.le_of_ble_eq_true rfl) (fun p e s m args below meth c A ls C hr hlk hK hA hP hD hS hl => by
    have C : CX p m c cX7_keep 3 s args RX7 := C
    have hl : lv_has ls 3 [(0, .ref a_this), (1, .int x1)] := hl
    unfold F_X7_keep at hF
    refine lv_iload_n C.1 C.2.1 dX7_keep_0 rfl (lv_at hl 1 rfl) ?_
    refine lv_i2l (v := x1.toInt64) C.1 C.2.1 dX7_keep_1 rfl ?_
    refine lv_lconst (v := 0) C.1 C.2.1 dX7_keep_2 rfl ?_
    refine lv_lconst (v := 1) C.1 C.2.1 dX7_keep_3 rfl ?_
    obtain ⟨r1, h2, hF⟩ := fb hF
    refine callSI C hK hA hP hD hS (c_X7_in  h2) cs_X7_in kw4_76 ⟨Nat.le_of_ble_eq_true rfl, Nat.le_of_ble_eq_true rfl⟩ ⟨Nat.zero_le _, Nat.zero_le _⟩ hl.1 rfl (Nat.le_of_ble_eq_true rfl) dX7_keep_4 (fun H locs hP hD hS => ?_)
    refine lv_if_ne (tgt := 12) C.1 C.2.1 dX7_keep_7 (by decide) (fun c3 => ?_) (fun c3 => ?_)
    · have hF := fn hF c3
      refine lv_aload_n C.1 C.2.1 dX7_keep_12 rfl (lv_at hl 0 rfl) ?_
      refine gf_7_7_isKept C hK hP 0 rfl rfl dX7_keep_13 ?_
      refine lv_iload_n C.1 C.2.1 dX7_keep_16 rfl (lv_at hl 1 rfl) ?_
      obtain ⟨h4, hF⟩ := fk hF
      refine va_zald C.1 C.2.1 hK.1 hP 2 2 rfl rfl h4 dX7_keep_17 ?_
      obtain ⟨r5, h6, hF⟩ := fb hF
      refine callSI C hK hA hP hD hS (c_X7_flag  h6) cs_X7_flag kw4_162 ⟨Nat.le_of_ble_eq_true rfl, Nat.le_of_ble_eq_true rfl⟩ ⟨Nat.zero_le _, Nat.zero_le _⟩ hl.1 rfl (Nat.le_of_ble_eq_true rfl) dX7_keep_18 (fun H locs hP hD hS => ?_)
      refine lv_istore_n (lv' := [(2, .int r5), (0, .ref a_this), (1, .int x1)]) C.1 C.2.1 dX7_keep_21 rfl hl (by decide) rfl (fun ls hl => ?_)
      refine lv_aload_n C.1 C.2.1 dX7_keep_22 rfl (lv_at hl 1 rfl) ?_
      refine gf_7_7_isKept C hK hP 0 rfl rfl dX7_keep_23 ?_
      refine lv_iload_n C.1 C.2.1 dX7_keep_26 rfl (lv_at hl 2 rfl) ?_
      refine lv_iconst (v := 1) C.1 C.2.1 dX7_keep_27 (by decide) ?_
      obtain ⟨h7, hF⟩ := fk hF
      refine va_zast C.1 C.2.1 hK.1 hP hD hS 2 2 rfl rfl h7 dX7_keep_28 (fun H locs hP hD hS => ?_)
      have hP : va_P D vwCl [(a_this, .inr (7, [.ref a_st, .ref a_now, .ref a_isKept, .ref a_draft, .int v_hasSigns, .int v_hasEvery, .ref a_tape, .int v_taped, .int v_pos, .int v_begun, .int v_sort, .int v_value, .int v_fault, .int v_wrongAt, .int v_moved, .int v_slipTicks, .int v_bestCode, .int v_bestMuch, .long v_straightSum, .long v_movedSum, .long v_allWays, .ref a_wereAt, .ref a_byPlace, .ref a_lanes, .ref a_sizes, .ref a_cells, .int v_torn, .ref a_before])), (a_st, .inl (cI, 168, .inl v_st)), (a_isKept, .inl (cZ, 2, .inl (upd v_isKept x1.toNatClampNeg (vp_nar .boolean (1 : Int32)))))] H := hP
      have hD : va_D A [(a_this, .inr (7, [.ref a_st, .ref a_now, .ref a_isKept, .ref a_draft, .int v_hasSigns, .int v_hasEvery, .ref a_tape, .int v_taped, .int v_pos, .int v_begun, .int v_sort, .int v_value, .int v_fault, .int v_wrongAt, .int v_moved, .int v_slipTicks, .int v_bestCode, .int v_bestMuch, .long v_straightSum, .long v_movedSum, .long v_allWays, .ref a_wereAt, .ref a_byPlace, .ref a_lanes, .ref a_sizes, .ref a_cells, .int v_torn, .ref a_before])), (a_st, .inl (cI, 168, .inl v_st)), (a_isKept, .inl (cZ, 2, .inl (upd v_isKept x1.toNatClampNeg (vp_nar .boolean (1 : Int32)))))] := hD
      refine lv_aload_n C.1 C.2.1 dX7_keep_29 rfl (lv_at hl 1 rfl) ?_
      refine lv_bipush (v := 56) C.1 C.2.1 dX7_keep_30 (by decide) ?_
      refine lv_iload_n C.1 C.2.1 dX7_keep_32 rfl (lv_at hl 2 rfl) ?_
      refine lv_iconst (v := 1) C.1 C.2.1 dX7_keep_33 (by decide) ?_
      refine lv_iadd C.1 C.2.1 dX7_keep_34 ?_
      refine lv_imul C.1 C.2.1 dX7_keep_35 ?_
      refine lv_iconst (v := 0) C.1 C.2.1 dX7_keep_36 (by decide) ?_
      obtain ⟨w8, h9, hF⟩ := fb hF
      refine callVV C hK hA hP hD hS [0, 1] (c_X7_copies (a_this := a_this) (a_st := a_st) (a_now := a_now) (a_isKept := a_isKept) (a_draft := a_draft) (a_tape := a_tape) (a_wereAt := a_wereAt) (a_byPlace := a_byPlace) (a_lanes := a_lanes) (a_sizes := a_sizes) (a_cells := a_cells) (a_before := a_before) (v_hasSigns := v_hasSigns) (v_hasEvery := v_hasEvery) (v_taped := v_taped) (v_pos := v_pos) (v_begun := v_begun) (v_sort := v_sort) (v_value := v_value) (v_fault := v_fault) (v_wrongAt := v_wrongAt) (v_moved := v_moved) (v_slipTicks := v_slipTicks) (v_bestCode := v_bestCode) (v_bestMuch := v_bestMuch) (v_straightSum := v_straightSum) (v_movedSum := v_movedSum) (v_allWays := v_allWays) (v_torn := v_torn) (v_st := v_st) h9) cv_X7_copies kw5_144 rfl (by decide) rfl rfl rfl ⟨Nat.le_of_ble_eq_true rfl, Nat.le_of_ble_eq_true rfl⟩ ⟨Nat.zero_le _, Nat.zero_le _⟩ hl.1 rfl (Nat.le_of_ble_eq_true rfl) dX7_keep_37 (fun H locs hP hD hS => ?_)
      have hP : va_P D vwCl [(a_this, .inr (7, [.ref a_st, .ref a_now, .ref a_isKept, .ref a_draft, .int v_hasSigns, .int v_hasEvery, .ref a_tape, .int v_taped, .int v_pos, .int v_begun, .int v_sort, .int v_value, .int v_fault, .int v_wrongAt, .int v_moved, .int v_slipTicks, .int v_bestCode, .int v_bestMuch, .long v_straightSum, .long v_movedSum, .long v_allWays, .ref a_wereAt, .ref a_byPlace, .ref a_lanes, .ref a_sizes, .ref a_cells, .int v_torn, .ref a_before])), (a_st, .inl (cI, 168, .inl w8)), (a_isKept, .inl (cZ, 2, .inl (upd v_isKept x1.toNatClampNeg (vp_nar .boolean (1 : Int32)))))] H := hP
      have hD : va_D A [(a_this, .inr (7, [.ref a_st, .ref a_now, .ref a_isKept, .ref a_draft, .int v_hasSigns, .int v_hasEvery, .ref a_tape, .int v_taped, .int v_pos, .int v_begun, .int v_sort, .int v_value, .int v_fault, .int v_wrongAt, .int v_moved, .int v_slipTicks, .int v_bestCode, .int v_bestMuch, .long v_straightSum, .long v_movedSum, .long v_allWays, .ref a_wereAt, .ref a_byPlace, .ref a_lanes, .ref a_sizes, .ref a_cells, .int v_torn, .ref a_before])), (a_st, .inl (cI, 168, .inl w8)), (a_isKept, .inl (cZ, 2, .inl (upd v_isKept x1.toNatClampNeg (vp_nar .boolean (1 : Int32)))))] := hD
      refine lv_iload_n C.1 C.2.1 dX7_keep_40 rfl (lv_at hl 0 rfl) ?_
      have hF := Option.some.inj hF
      subst hF
      exact retI C hr hlk hP hD hS dX7_keep_41
    · have hF := fp hF c3
      refine lv_iconst (v := (-1)) C.1 C.2.1 dX7_keep_10 (by decide) ?_
      have hF := Option.some.inj hF
      subst hF
      exact retI C hr hlk hP hD hS dX7_keep_11)
theorem c_X7_keep {l : Launch} {D : va_G} {cI cB cZ cR cM cS : ClassId} {a_this : Nat} {a_st : Nat} {a_now : Nat} {a_isKept : Nat} {a_draft : Nat} {a_tape : Nat} {a_wereAt : Nat} {a_byPlace : Nat} {a_lanes : Nat} {a_sizes : Nat} {a_cells : Nat} {a_before : Nat} {v_hasSigns : Int32} {v_hasEvery : Int32} {v_taped : Int32} {v_pos : Int32} {v_begun : Int32} {v_sort : Int32} {v_value : Int32} {v_fault : Int32} {v_wrongAt : Int32} {v_moved : Int32} {v_slipTicks : Int32} {v_bestCode : Int32} {v_bestMuch : Int32} {v_straightSum : Int64} {v_movedSum : Int64} {v_allWays : Int64} {v_torn : Int32} {v_st : Nat → Int32} {v_isKept : Nat → Int32} {x1 : Int32} {r_ : Int32} {v_st' : Nat → Int32} {v_isKept' : Nat → Int32} (hF : F_X7_keep v_st v_isKept x1 = some (r_, v_st', v_isKept')) : MI l yX7_keep cX7_keep 3 .int rm_X7_keep D (TS cI cB cZ cR cM cS) [.ref a_this, .int x1] [(a_this, .inr (7, [.ref a_st, .ref a_now, .ref a_isKept, .ref a_draft, .int v_hasSigns, .int v_hasEvery, .ref a_tape, .int v_taped, .int v_pos, .int v_begun, .int v_sort, .int v_value, .int v_fault, .int v_wrongAt, .int v_moved, .int v_slipTicks, .int v_bestCode, .int v_bestMuch, .long v_straightSum, .long v_movedSum, .long v_allWays, .ref a_wereAt, .ref a_byPlace, .ref a_lanes, .ref a_sizes, .ref a_cells, .int v_torn, .ref a_before])), (a_st, .inl (cI, 168, .inl v_st)), (a_isKept, .inl (cZ, 2, .inl v_isKept))] [(a_this, .inr (7, [.ref a_st, .ref a_now, .ref a_isKept, .ref a_draft, .int v_hasSigns, .int v_hasEvery, .ref a_tape, .int v_taped, .int v_pos, .int v_begun, .int v_sort, .int v_value, .int v_fault, .int v_wrongAt, .int v_moved, .int v_slipTicks, .int v_bestCode, .int v_bestMuch, .long v_straightSum, .long v_movedSum, .long v_allWays, .ref a_wereAt, .ref a_byPlace, .ref a_lanes, .ref a_sizes, .ref a_cells, .int v_torn, .ref a_before])), (a_st, .inl (cI, 168, .inl v_st')), (a_isKept, .inl (cZ, 2, .inl v_isKept'))] r_ :=
  c0_X7_keep (res := (r_, v_st', v_isKept')) hF
def rm_X7_back : Room := { frames := 1, cells := 0, slots := 0, locals := 25 }
theorem cv_X7_back : CV yX7_back cX7_back 2 (some .int) rm_X7_back RX7 1 := ⟨kw5_149, kw5_150, kw1_8, kw5_151, by decide +kernel, rfl, rfl⟩
set_option maxHeartbeats 4000000 in
set_option maxRecDepth 100000 in
theorem c0_X7_back {l : Launch} {D : va_G} {cI cB cZ cR cM cS : ClassId} {a_this : Nat} {a_st : Nat} {a_now : Nat} {a_isKept : Nat} {a_draft : Nat} {a_tape : Nat} {a_wereAt : Nat} {a_byPlace : Nat} {a_lanes : Nat} {a_sizes : Nat} {a_cells : Nat} {a_before : Nat} {v_hasSigns : Int32} {v_hasEvery : Int32} {v_taped : Int32} {v_pos : Int32} {v_begun : Int32} {v_sort : Int32} {v_value : Int32} {v_fault : Int32} {v_wrongAt : Int32} {v_moved : Int32} {v_slipTicks : Int32} {v_bestCode : Int32} {v_bestMuch : Int32} {v_straightSum : Int64} {v_movedSum : Int64} {v_allWays : Int64} {v_torn : Int32} {v_st : Nat → Int32} {v_isKept : Nat → Int32} {x1 : Int32} {res : Int32 × (Nat → Int32)} (hF : F_X7_back v_st v_isKept x1 = some res) : MI l yX7_back cX7_back 2 .int rm_X7_back D (TS cI cB cZ cR cM cS) [.ref a_this, .int x1] [(a_this, .inr (7, [.ref a_st, .ref a_now, .ref a_isKept, .ref a_draft, .int v_hasSigns, .int v_hasEvery, .ref a_tape, .int v_taped, .int v_pos, .int v_begun, .int v_sort, .int v_value, .int v_fault, .int v_wrongAt, .int v_moved, .int v_slipTicks, .int v_bestCode, .int v_bestMuch, .long v_straightSum, .long v_movedSum, .long v_allWays, .ref a_wereAt, .ref a_byPlace, .ref a_lanes, .ref a_sizes, .ref a_cells, .int v_torn, .ref a_before])), (a_st, .inl (cI, 168, .inl v_st)), (a_isKept, .inl (cZ, 2, .inl v_isKept))] [(a_this, .inr (7, [.ref a_st, .ref a_now, .ref a_isKept, .ref a_draft, .int v_hasSigns, .int v_hasEvery, .ref a_tape, .int v_taped, .int v_pos, .int v_begun, .int v_sort, .int v_value, .int v_fault, .int v_wrongAt, .int v_moved, .int v_slipTicks, .int v_bestCode, .int v_bestMuch, .long v_straightSum, .long v_movedSum, .long v_allWays, .ref a_wereAt, .ref a_byPlace, .ref a_lanes, .ref a_sizes, .ref a_cells, .int v_torn, .ref a_before])), (a_st, .inl (cI, 168, .inl res.2)), (a_isKept, .inl (cZ, 2, .inl v_isKept))] res.1 :=
  MI_of (by decide) (Nat.le_of_ble_eq_true rfl) (fun p e s m args below meth c A ls C hr hlk hK hA hP hD hS hl => by
    have C : CX p m c cX7_back 2 s args RX7 := C
    have hl : lv_has ls 2 [(0, .ref a_this), (1, .int x1)] := hl
    unfold F_X7_back at hF
    refine lv_iload_n C.1 C.2.1 dX7_back_0 rfl (lv_at hl 1 rfl) ?_
    refine lv_i2l (v := x1.toInt64) C.1 C.2.1 dX7_back_1 rfl ?_
    refine lv_lconst (v := 0) C.1 C.2.1 dX7_back_2 rfl ?_
    refine lv_lconst (v := 1) C.1 C.2.1 dX7_back_3 rfl ?_
    obtain ⟨r1, h2, hF⟩ := fb hF
    refine callSI C hK hA hP hD hS (c_X7_in  h2) cs_X7_in kw4_76 ⟨Nat.le_of_ble_eq_true rfl, Nat.le_of_ble_eq_true rfl⟩ ⟨Nat.zero_le _, Nat.zero_le _⟩ hl.1 rfl (Nat.le_of_ble_eq_true rfl) dX7_back_4 (fun H locs hP hD hS => ?_)
    refine lv_if_ne (tgt := 12) C.1 C.2.1 dX7_back_7 (by decide) (fun c3 => ?_) (fun c3 => ?_)
    · have hF := fn hF c3
      refine lv_aload_n C.1 C.2.1 dX7_back_12 rfl (lv_at hl 0 rfl) ?_
      refine gf_7_7_isKept C hK hP 0 rfl rfl dX7_back_13 ?_
      refine lv_iload_n C.1 C.2.1 dX7_back_16 rfl (lv_at hl 1 rfl) ?_
      obtain ⟨h4, hF⟩ := fk hF
      refine va_zald C.1 C.2.1 hK.1 hP 2 2 rfl rfl h4 dX7_back_17 ?_
      refine lv_if_ne (tgt := 24) C.1 C.2.1 dX7_back_18 (by decide) (fun c5 => ?_) (fun c5 => ?_)
      · have hF := fn hF c5
        refine lv_aload_n C.1 C.2.1 dX7_back_24 rfl (lv_at hl 0 rfl) ?_
        refine lv_iconst (v := 0) C.1 C.2.1 dX7_back_25 (by decide) ?_
        refine lv_bipush (v := 56) C.1 C.2.1 dX7_back_26 (by decide) ?_
        refine lv_iload_n C.1 C.2.1 dX7_back_28 rfl (lv_at hl 1 rfl) ?_
        refine lv_iconst (v := 1) C.1 C.2.1 dX7_back_29 (by decide) ?_
        refine lv_iadd C.1 C.2.1 dX7_back_30 ?_
        refine lv_imul C.1 C.2.1 dX7_back_31 ?_
        obtain ⟨w6, h7, hF⟩ := fb hF
        refine callVV C hK hA hP hD hS [0, 1] (c_X7_copies (a_this := a_this) (a_st := a_st) (a_now := a_now) (a_isKept := a_isKept) (a_draft := a_draft) (a_tape := a_tape) (a_wereAt := a_wereAt) (a_byPlace := a_byPlace) (a_lanes := a_lanes) (a_sizes := a_sizes) (a_cells := a_cells) (a_before := a_before) (v_hasSigns := v_hasSigns) (v_hasEvery := v_hasEvery) (v_taped := v_taped) (v_pos := v_pos) (v_begun := v_begun) (v_sort := v_sort) (v_value := v_value) (v_fault := v_fault) (v_wrongAt := v_wrongAt) (v_moved := v_moved) (v_slipTicks := v_slipTicks) (v_bestCode := v_bestCode) (v_bestMuch := v_bestMuch) (v_straightSum := v_straightSum) (v_movedSum := v_movedSum) (v_allWays := v_allWays) (v_torn := v_torn) (v_st := v_st) h7) cv_X7_copies kw5_144 rfl (by decide) rfl rfl rfl ⟨Nat.le_of_ble_eq_true rfl, Nat.le_of_ble_eq_true rfl⟩ ⟨Nat.zero_le _, Nat.zero_le _⟩ hl.1 rfl (Nat.le_of_ble_eq_true rfl) dX7_back_32 (fun H locs hP hD hS => ?_)
        have hP : va_P D vwCl [(a_this, .inr (7, [.ref a_st, .ref a_now, .ref a_isKept, .ref a_draft, .int v_hasSigns, .int v_hasEvery, .ref a_tape, .int v_taped, .int v_pos, .int v_begun, .int v_sort, .int v_value, .int v_fault, .int v_wrongAt, .int v_moved, .int v_slipTicks, .int v_bestCode, .int v_bestMuch, .long v_straightSum, .long v_movedSum, .long v_allWays, .ref a_wereAt, .ref a_byPlace, .ref a_lanes, .ref a_sizes, .ref a_cells, .int v_torn, .ref a_before])), (a_st, .inl (cI, 168, .inl w6)), (a_isKept, .inl (cZ, 2, .inl v_isKept))] H := hP
        have hD : va_D A [(a_this, .inr (7, [.ref a_st, .ref a_now, .ref a_isKept, .ref a_draft, .int v_hasSigns, .int v_hasEvery, .ref a_tape, .int v_taped, .int v_pos, .int v_begun, .int v_sort, .int v_value, .int v_fault, .int v_wrongAt, .int v_moved, .int v_slipTicks, .int v_bestCode, .int v_bestMuch, .long v_straightSum, .long v_movedSum, .long v_allWays, .ref a_wereAt, .ref a_byPlace, .ref a_lanes, .ref a_sizes, .ref a_cells, .int v_torn, .ref a_before])), (a_st, .inl (cI, 168, .inl w6)), (a_isKept, .inl (cZ, 2, .inl v_isKept))] := hD
        refine lv_aload_n C.1 C.2.1 dX7_back_35 rfl (lv_at hl 0 rfl) ?_
        refine gf_7_7_st C hK hP 0 rfl rfl dX7_back_36 ?_
        refine lv_bipush (v := 19) C.1 C.2.1 dX7_back_39 (by decide) ?_
        obtain ⟨h8, hF⟩ := fk hF
        refine va_iald C.1 C.2.1 hK.1 hP 1 0 rfl rfl h8 dX7_back_41 ?_
        have hF := Option.some.inj hF
        subst hF
        exact retI C hr hlk hP hD hS dX7_back_42
      · have hF := fp hF c5
        refine lv_bipush (v := (-2)) C.1 C.2.1 dX7_back_21 (by decide) ?_
        have hF := Option.some.inj hF
        subst hF
        exact retI C hr hlk hP hD hS dX7_back_23
    · have hF := fp hF c3
      refine lv_iconst (v := (-1)) C.1 C.2.1 dX7_back_10 (by decide) ?_
      have hF := Option.some.inj hF
      subst hF
      exact retI C hr hlk hP hD hS dX7_back_11)
theorem c_X7_back {l : Launch} {D : va_G} {cI cB cZ cR cM cS : ClassId} {a_this : Nat} {a_st : Nat} {a_now : Nat} {a_isKept : Nat} {a_draft : Nat} {a_tape : Nat} {a_wereAt : Nat} {a_byPlace : Nat} {a_lanes : Nat} {a_sizes : Nat} {a_cells : Nat} {a_before : Nat} {v_hasSigns : Int32} {v_hasEvery : Int32} {v_taped : Int32} {v_pos : Int32} {v_begun : Int32} {v_sort : Int32} {v_value : Int32} {v_fault : Int32} {v_wrongAt : Int32} {v_moved : Int32} {v_slipTicks : Int32} {v_bestCode : Int32} {v_bestMuch : Int32} {v_straightSum : Int64} {v_movedSum : Int64} {v_allWays : Int64} {v_torn : Int32} {v_st : Nat → Int32} {v_isKept : Nat → Int32} {x1 : Int32} {r_ : Int32} {v_st' : Nat → Int32} (hF : F_X7_back v_st v_isKept x1 = some (r_, v_st')) : MI l yX7_back cX7_back 2 .int rm_X7_back D (TS cI cB cZ cR cM cS) [.ref a_this, .int x1] [(a_this, .inr (7, [.ref a_st, .ref a_now, .ref a_isKept, .ref a_draft, .int v_hasSigns, .int v_hasEvery, .ref a_tape, .int v_taped, .int v_pos, .int v_begun, .int v_sort, .int v_value, .int v_fault, .int v_wrongAt, .int v_moved, .int v_slipTicks, .int v_bestCode, .int v_bestMuch, .long v_straightSum, .long v_movedSum, .long v_allWays, .ref a_wereAt, .ref a_byPlace, .ref a_lanes, .ref a_sizes, .ref a_cells, .int v_torn, .ref a_before])), (a_st, .inl (cI, 168, .inl v_st)), (a_isKept, .inl (cZ, 2, .inl v_isKept))] [(a_this, .inr (7, [.ref a_st, .ref a_now, .ref a_isKept, .ref a_draft, .int v_hasSigns, .int v_hasEvery, .ref a_tape, .int v_taped, .int v_pos, .int v_begun, .int v_sort, .int v_value, .int v_fault, .int v_wrongAt, .int v_moved, .int v_slipTicks, .int v_bestCode, .int v_bestMuch, .long v_straightSum, .long v_movedSum, .long v_allWays, .ref a_wereAt, .ref a_byPlace, .ref a_lanes, .ref a_sizes, .ref a_cells, .int v_torn, .ref a_before])), (a_st, .inl (cI, 168, .inl v_st')), (a_isKept, .inl (cZ, 2, .inl v_isKept))] r_ :=
  c0_X7_back (res := (r_, v_st')) hF
def rm_X7_isSheet : Room := { frames := 1, cells := 0, slots := 0, locals := 25 }
theorem cs_X7_isSheet : CS yX7_isSheet cX7_isSheet 2 (some .boolean) rm_X7_isSheet RX7 2 := ⟨kw5_157, kw1_8, kw5_158, by decide +kernel, rfl, rfl⟩
set_option maxHeartbeats 4000000 in
set_option maxRecDepth 100000 in
theorem c_X7_isSheet {l : Launch} {D : va_G} {cI cB cZ cR cM cS : ClassId} {x0 : Int32} {x1 : Int32} {res : Int32} (hF : F_X7_isSheet x0 x1 = some res) : MI l yX7_isSheet cX7_isSheet 2 .boolean rm_X7_isSheet D (TS cI cB cZ cR cM cS) [.int x0, .int x1] [] [] res :=
  MI_of (by decide) (Nat.le_of_ble_eq_true rfl) (fun p e s m args below meth c A ls C hr hlk hK hA hP hD hS hl => by
    have C : CX p m c cX7_isSheet 2 s args RX7 := C
    have hl : lv_has ls 2 [(0, .int x0), (1, .int x1)] := hl
    unfold F_X7_isSheet at hF
    refine lv_iload_n C.1 C.2.1 dX7_isSheet_0 rfl (lv_at hl 0 rfl) ?_
    refine lv_i2l (v := x0.toInt64) C.1 C.2.1 dX7_isSheet_1 rfl ?_
    refine lv_lconst (v := 0) C.1 C.2.1 dX7_isSheet_2 rfl ?_
    refine lv_ldc2 (v := 3) C.1 C.2.1 C.2.2.2.1 (C.2.2.2.2 _ kw4_193) dX7_isSheet_3 ?_
    obtain ⟨r1, h2, hF⟩ := fb hF
    refine callSI C hK hA hP hD hS (c_X7_in  h2) cs_X7_in kw4_76 ⟨Nat.le_of_ble_eq_true rfl, Nat.le_of_ble_eq_true rfl⟩ ⟨Nat.zero_le _, Nat.zero_le _⟩ hl.1 rfl (Nat.le_of_ble_eq_true rfl) dX7_isSheet_6 (fun H locs hP hD hS => ?_)
    refine lv_if_eq (tgt := 28) C.1 C.2.1 dX7_isSheet_9 (by decide) (fun c3 => ?_) (fun c3 => ?_)
    · have hF := fp hF c3
      refine lv_iconst (v := 0) C.1 C.2.1 dX7_isSheet_28 (by decide) ?_
      have hF := Option.some.inj hF
      subst hF
      exact retZ (v := 0) C hr hlk (by decide) hP hD hS dX7_isSheet_29
    · have hF := fn hF c3
      refine lv_iload_n C.1 C.2.1 dX7_isSheet_12 rfl (lv_at hl 1 rfl) ?_
      refine lv_i2l (v := x1.toInt64) C.1 C.2.1 dX7_isSheet_13 rfl ?_
      refine lv_lconst (v := 0) C.1 C.2.1 dX7_isSheet_14 rfl ?_
      refine lv_ldc2 (v := 2) C.1 C.2.1 C.2.2.2.1 (C.2.2.2.2 _ kw5_159) dX7_isSheet_15 ?_
      obtain ⟨r4, h5, hF⟩ := fb hF
      refine callSI C hK hA hP hD hS (c_X7_in  h5) cs_X7_in kw4_76 ⟨Nat.le_of_ble_eq_true rfl, Nat.le_of_ble_eq_true rfl⟩ ⟨Nat.zero_le _, Nat.zero_le _⟩ hl.1 rfl (Nat.le_of_ble_eq_true rfl) dX7_isSheet_18 (fun H locs hP hD hS => ?_)
      refine lv_if_eq (tgt := 28) C.1 C.2.1 dX7_isSheet_21 (by decide) (fun c6 => ?_) (fun c6 => ?_)
      · have hF := fp hF c6
        refine lv_iconst (v := 0) C.1 C.2.1 dX7_isSheet_28 (by decide) ?_
        have hF := Option.some.inj hF
        subst hF
        exact retZ (v := 0) C hr hlk (by decide) hP hD hS dX7_isSheet_29
      · have hF := fn hF c6
        refine lv_iconst (v := 1) C.1 C.2.1 dX7_isSheet_24 (by decide) ?_
        refine lv_goto (tgt := 29) C.1 C.2.1 dX7_isSheet_25 (by decide) ?_
        have hF := Option.some.inj hF
        subst hF
        exact retZ (v := 1) C hr hlk (by decide) hP hD hS dX7_isSheet_29)
