def rm_X6_begin : Room := { frames := 6, cells := 0, slots := 0, locals := 143 }
theorem cv_X6_begin : CV yX6_begin cX6_begin 4 (some .int) rm_X6_begin RX6 3 := ⟨kw3_60, kw3_61, kw1_1, kw3_62, by decide +kernel, rfl, rfl⟩
set_option maxHeartbeats 4000000 in
set_option maxRecDepth 100000 in
theorem c_X6_begin {l : Launch} {D : va_G} {cI cB cZ cR cM cS : ClassId} {a_this : Nat} {a_tape : Nat} {a_now : Nat} {a_trial : Nat} {a_sights : Nat} {a_images : Nat} {a_sheets : Nat} {a_now_signs : Nat} {a_now_rotors : Nat} {a_now_rotors_e : Nat → Nat} {a_trial_signs : Nat} {a_trial_rotors : Nat} {a_trial_rotors_e : Nat → Nat} {v_readFault : Int32} {v_now_field : Int32} {v_now_tick : Int32} {v_now_pace : Int32} {v_now_signNumber : Int32} {v_now_rotorNumber : Int32} {v_now_signs : Nat → Int32} {v_now_rotorsF : Nat → Rot} {v_trial_field : Int32} {v_trial_tick : Int32} {v_trial_pace : Int32} {v_trial_signNumber : Int32} {v_trial_rotorNumber : Int32} {v_trial_signs : Nat → Int32} {v_trial_rotorsF : Nat → Rot} {x1 : Int32} {x2 : Int32} {x3 : Int32} {r_ : Int32} {v_trial_field' : Int32} {v_trial_tick' : Int32} {v_trial_pace' : Int32} {v_trial_signNumber' : Int32} {v_trial_rotorNumber' : Int32} {v_trial_signs' : Nat → Int32} {v_trial_rotorsF' : Nat → Rot} (hF : F_X6_begin v_now_field v_now_tick v_now_pace v_now_signNumber v_now_rotorNumber v_now_signs v_now_rotorsF v_trial_field v_trial_tick v_trial_pace v_trial_signNumber v_trial_rotorNumber v_trial_signs v_trial_rotorsF x1 x2 x3 = some (r_, v_trial_field', v_trial_tick', v_trial_pace', v_trial_signNumber', v_trial_rotorNumber', v_trial_signs', v_trial_rotorsF')) : MI l yX6_begin cX6_begin 4 .int rm_X6_begin D (TS cI cB cZ cR cM cS) [.ref a_this, .int x1, .int x2, .int x3] [(a_this, .inr (6, [.ref a_tape, .ref a_now, .ref a_trial, .ref a_sights, .ref a_images, .ref a_sheets, .int v_readFault])), (a_now, .inr (0, [.int v_now_field, .int v_now_tick, .int v_now_pace, .int v_now_signNumber, .int v_now_rotorNumber, .ref a_now_signs, .ref a_now_rotors])), (a_now_signs, .inl (cI, 16, .inl v_now_signs)), (a_now_rotors, rfn cR 4 a_now_rotors_e), rcell a_now_rotors_e v_now_rotorsF 0, rcell a_now_rotors_e v_now_rotorsF 1, rcell a_now_rotors_e v_now_rotorsF 2, rcell a_now_rotors_e v_now_rotorsF 3, (a_trial, .inr (0, [.int v_trial_field, .int v_trial_tick, .int v_trial_pace, .int v_trial_signNumber, .int v_trial_rotorNumber, .ref a_trial_signs, .ref a_trial_rotors])), (a_trial_signs, .inl (cI, 16, .inl v_trial_signs)), (a_trial_rotors, rfn cR 4 a_trial_rotors_e), rcell a_trial_rotors_e v_trial_rotorsF 0, rcell a_trial_rotors_e v_trial_rotorsF 1, rcell a_trial_rotors_e v_trial_rotorsF 2, rcell a_trial_rotors_e v_trial_rotorsF 3] [(a_this, .inr (6, [.ref a_tape, .ref a_now, .ref a_trial, .ref a_sights, .ref a_images, .ref a_sheets, .int v_readFault])), (a_now, .inr (0, [.int v_now_field, .int v_now_tick, .int v_now_pace, .int v_now_signNumber, .int v_now_rotorNumber, .ref a_now_signs, .ref a_now_rotors])), (a_now_signs, .inl (cI, 16, .inl v_now_signs)), (a_now_rotors, rfn cR 4 a_now_rotors_e), rcell a_now_rotors_e v_now_rotorsF 0, rcell a_now_rotors_e v_now_rotorsF 1, rcell a_now_rotors_e v_now_rotorsF 2, rcell a_now_rotors_e v_now_rotorsF 3, (a_trial, .inr (0, [.int v_trial_field', .int v_trial_tick', .int v_trial_pace', .int v_trial_signNumber', .int v_trial_rotorNumber', .ref a_trial_signs, .ref a_trial_rotors])), (a_trial_signs, .inl (cI, 16, .inl v_trial_signs')), (a_trial_rotors, rfn cR 4 a_trial_rotors_e), rcell a_trial_rotors_e v_trial_rotorsF' 0, rcell a_trial_rotors_e v_trial_rotorsF' 1, rcell a_trial_rotors_e v_trial_rotorsF' 2, rcell a_trial_rotors_e v_trial_rotorsF' 3] r_ :=
  MI_of (by decide) (Nat.le_of_ble_eq_true rfl) (fun p e s m args below meth c A ls C hr hlk hK hA hP hD hS hl => by
    have C : CX p m c cX6_begin 4 s args RX6 := C
    have hl : lv_has ls 4 [(0, .ref a_this), (1, .int x1), (2, .int x2), (3, .int x3)] := hl
    unfold F_X6_begin at hF
    refine lv_aload_n C.1 C.2.1 dX6_begin_0 rfl (lv_at hl 0 rfl) ?_
    refine lv_iload_n C.1 C.2.1 dX6_begin_1 rfl (lv_at hl 1 rfl) ?_
    obtain ⟨r1, h2, hF⟩ := fb hF
    refine callVI C hK hA hP hD hS [0, 1] (c_X6_hasRotor (a_this := a_this) (a_tape := a_tape) (a_now := a_now) (a_trial := a_trial) (a_sights := a_sights) (a_images := a_images) (a_sheets := a_sheets) (a_now_signs := a_now_signs) (a_now_rotors := a_now_rotors) (v_readFault := v_readFault) (v_now_field := v_now_field) (v_now_tick := v_now_tick) (v_now_pace := v_now_pace) (v_now_signNumber := v_now_signNumber) (v_now_rotorNumber := v_now_rotorNumber) h2) cv_X6_hasRotor kw2_172 rfl (by decide) rfl rfl rfl ⟨Nat.le_of_ble_eq_true rfl, Nat.le_of_ble_eq_true rfl⟩ ⟨Nat.zero_le _, Nat.zero_le _⟩ hl.1 rfl (Nat.le_of_ble_eq_true rfl) dX6_begin_2 (fun H locs hP hD hS => ?_)
    have hP : va_P D vwCl [(a_this, .inr (6, [.ref a_tape, .ref a_now, .ref a_trial, .ref a_sights, .ref a_images, .ref a_sheets, .int v_readFault])), (a_now, .inr (0, [.int v_now_field, .int v_now_tick, .int v_now_pace, .int v_now_signNumber, .int v_now_rotorNumber, .ref a_now_signs, .ref a_now_rotors])), (a_now_signs, .inl (cI, 16, .inl v_now_signs)), (a_now_rotors, rfn cR 4 a_now_rotors_e), rcell a_now_rotors_e v_now_rotorsF 0, rcell a_now_rotors_e v_now_rotorsF 1, rcell a_now_rotors_e v_now_rotorsF 2, rcell a_now_rotors_e v_now_rotorsF 3, (a_trial, .inr (0, [.int v_trial_field, .int v_trial_tick, .int v_trial_pace, .int v_trial_signNumber, .int v_trial_rotorNumber, .ref a_trial_signs, .ref a_trial_rotors])), (a_trial_signs, .inl (cI, 16, .inl v_trial_signs)), (a_trial_rotors, rfn cR 4 a_trial_rotors_e), rcell a_trial_rotors_e v_trial_rotorsF 0, rcell a_trial_rotors_e v_trial_rotorsF 1, rcell a_trial_rotors_e v_trial_rotorsF 2, rcell a_trial_rotors_e v_trial_rotorsF 3] H := hP
    have hD : va_D A [(a_this, .inr (6, [.ref a_tape, .ref a_now, .ref a_trial, .ref a_sights, .ref a_images, .ref a_sheets, .int v_readFault])), (a_now, .inr (0, [.int v_now_field, .int v_now_tick, .int v_now_pace, .int v_now_signNumber, .int v_now_rotorNumber, .ref a_now_signs, .ref a_now_rotors])), (a_now_signs, .inl (cI, 16, .inl v_now_signs)), (a_now_rotors, rfn cR 4 a_now_rotors_e), rcell a_now_rotors_e v_now_rotorsF 0, rcell a_now_rotors_e v_now_rotorsF 1, rcell a_now_rotors_e v_now_rotorsF 2, rcell a_now_rotors_e v_now_rotorsF 3, (a_trial, .inr (0, [.int v_trial_field, .int v_trial_tick, .int v_trial_pace, .int v_trial_signNumber, .int v_trial_rotorNumber, .ref a_trial_signs, .ref a_trial_rotors])), (a_trial_signs, .inl (cI, 16, .inl v_trial_signs)), (a_trial_rotors, rfn cR 4 a_trial_rotors_e), rcell a_trial_rotors_e v_trial_rotorsF 0, rcell a_trial_rotors_e v_trial_rotorsF 1, rcell a_trial_rotors_e v_trial_rotorsF 2, rcell a_trial_rotors_e v_trial_rotorsF 3] := hD
    refine lv_if_eq (tgt := 26) C.1 C.2.1 dX6_begin_5 (by decide) (fun c3 => ?_) (fun c3 => ?_)
    · have hF := fp hF c3
      refine lv_iconst (v := (-1)) C.1 C.2.1 dX6_begin_26 (by decide) ?_
      cases hF
      exact retI C hr hlk hP hD hS dX6_begin_27
    · have hF := fn hF c3
      refine lv_iload_n C.1 C.2.1 dX6_begin_8 rfl (lv_at hl 2 rfl) ?_
      refine lv_sipush (v := 200) C.1 C.2.1 dX6_begin_9 (by decide) ?_
      obtain ⟨r4, h5, hF⟩ := fb hF
      refine callSI C hK hA hP hD hS (c_X6_within  h5) cs_X6_within kw1_227 ⟨Nat.le_of_ble_eq_true rfl, Nat.le_of_ble_eq_true rfl⟩ ⟨Nat.zero_le _, Nat.zero_le _⟩ hl.1 rfl (Nat.le_of_ble_eq_true rfl) dX6_begin_12 (fun H locs hP hD hS => ?_)
      refine lv_if_eq (tgt := 26) C.1 C.2.1 dX6_begin_15 (by decide) (fun c6 => ?_) (fun c6 => ?_)
      · have hF := fp hF c6
        refine lv_iconst (v := (-1)) C.1 C.2.1 dX6_begin_26 (by decide) ?_
        cases hF
        exact retI C hr hlk hP hD hS dX6_begin_27
      · have hF := fn hF c6
        refine lv_iload_n C.1 C.2.1 dX6_begin_18 rfl (lv_at hl 3 rfl) ?_
        refine lv_iconst (v := 1) C.1 C.2.1 dX6_begin_19 (by decide) ?_
        obtain ⟨r7, h8, hF⟩ := fb hF
        refine callSI C hK hA hP hD hS (c_X6_within  h8) cs_X6_within kw1_227 ⟨Nat.le_of_ble_eq_true rfl, Nat.le_of_ble_eq_true rfl⟩ ⟨Nat.zero_le _, Nat.zero_le _⟩ hl.1 rfl (Nat.le_of_ble_eq_true rfl) dX6_begin_20 (fun H locs hP hD hS => ?_)
        refine lv_if_ne (tgt := 28) C.1 C.2.1 dX6_begin_23 (by decide) (fun c9 => ?_) (fun c9 => ?_)
        · have hF := fn hF c9
          refine lv_aload_n C.1 C.2.1 dX6_begin_28 rfl (lv_at hl 0 rfl) ?_
          refine lv_iload_n C.1 C.2.1 dX6_begin_29 rfl (lv_at hl 1 rfl) ?_
          refine lv_iconst (v := 2) C.1 C.2.1 dX6_begin_30 (by decide) ?_
          refine lv_bipush (v := 7) C.1 C.2.1 dX6_begin_31 (by decide) ?_
          refine lv_iload_n C.1 C.2.1 dX6_begin_33 rfl (lv_at hl 2 rfl) ?_
          refine lv_iload_n C.1 C.2.1 dX6_begin_34 rfl (lv_at hl 3 rfl) ?_
          obtain ⟨⟨r10, w11, w12, w13, w14, w15, w16, w17⟩, h18, hF⟩ := fb hF
          refine callVI C hK hA hP hD hS [0, 1, 2, 3, 4, 5, 6, 7, 8, 9, 10, 11, 12, 13, 14] (c_X6_leastLostBy (a_this := a_this) (a_tape := a_tape) (a_now := a_now) (a_trial := a_trial) (a_sights := a_sights) (a_images := a_images) (a_sheets := a_sheets) (a_now_signs := a_now_signs) (a_now_rotors := a_now_rotors) (a_now_rotors_e := a_now_rotors_e) (a_trial_signs := a_trial_signs) (a_trial_rotors := a_trial_rotors) (a_trial_rotors_e := a_trial_rotors_e) (v_readFault := v_readFault) (v_now_field := v_now_field) (v_now_tick := v_now_tick) (v_now_pace := v_now_pace) (v_now_signNumber := v_now_signNumber) (v_now_rotorNumber := v_now_rotorNumber) (v_now_signs := v_now_signs) (v_now_rotorsF := v_now_rotorsF) (v_trial_field := v_trial_field) (v_trial_tick := v_trial_tick) (v_trial_pace := v_trial_pace) (v_trial_signNumber := v_trial_signNumber) (v_trial_rotorNumber := v_trial_rotorNumber) (v_trial_signs := v_trial_signs) (v_trial_rotorsF := v_trial_rotorsF) h18) cv_X6_leastLostBy kw3_42 rfl (by decide) rfl rfl rfl ⟨Nat.le_of_ble_eq_true rfl, Nat.le_of_ble_eq_true rfl⟩ ⟨Nat.zero_le _, Nat.zero_le _⟩ hl.1 rfl (Nat.le_of_ble_eq_true rfl) dX6_begin_35 (fun H locs hP hD hS => ?_)
          have hP : va_P D vwCl [(a_this, .inr (6, [.ref a_tape, .ref a_now, .ref a_trial, .ref a_sights, .ref a_images, .ref a_sheets, .int v_readFault])), (a_now, .inr (0, [.int v_now_field, .int v_now_tick, .int v_now_pace, .int v_now_signNumber, .int v_now_rotorNumber, .ref a_now_signs, .ref a_now_rotors])), (a_now_signs, .inl (cI, 16, .inl v_now_signs)), (a_now_rotors, rfn cR 4 a_now_rotors_e), rcell a_now_rotors_e v_now_rotorsF 0, rcell a_now_rotors_e v_now_rotorsF 1, rcell a_now_rotors_e v_now_rotorsF 2, rcell a_now_rotors_e v_now_rotorsF 3, (a_trial, .inr (0, [.int w11, .int w12, .int w13, .int w14, .int w15, .ref a_trial_signs, .ref a_trial_rotors])), (a_trial_signs, .inl (cI, 16, .inl w16)), (a_trial_rotors, rfn cR 4 a_trial_rotors_e), rcell a_trial_rotors_e w17 0, rcell a_trial_rotors_e w17 1, rcell a_trial_rotors_e w17 2, rcell a_trial_rotors_e w17 3] H := hP
          have hD : va_D A [(a_this, .inr (6, [.ref a_tape, .ref a_now, .ref a_trial, .ref a_sights, .ref a_images, .ref a_sheets, .int v_readFault])), (a_now, .inr (0, [.int v_now_field, .int v_now_tick, .int v_now_pace, .int v_now_signNumber, .int v_now_rotorNumber, .ref a_now_signs, .ref a_now_rotors])), (a_now_signs, .inl (cI, 16, .inl v_now_signs)), (a_now_rotors, rfn cR 4 a_now_rotors_e), rcell a_now_rotors_e v_now_rotorsF 0, rcell a_now_rotors_e v_now_rotorsF 1, rcell a_now_rotors_e v_now_rotorsF 2, rcell a_now_rotors_e v_now_rotorsF 3, (a_trial, .inr (0, [.int w11, .int w12, .int w13, .int w14, .int w15, .ref a_trial_signs, .ref a_trial_rotors])), (a_trial_signs, .inl (cI, 16, .inl w16)), (a_trial_rotors, rfn cR 4 a_trial_rotors_e), rcell a_trial_rotors_e w17 0, rcell a_trial_rotors_e w17 1, rcell a_trial_rotors_e w17 2, rcell a_trial_rotors_e w17 3] := hD
          cases hF
          exact retI C hr hlk hP hD hS dX6_begin_38
        · have hF := fp hF c9
          refine lv_iconst (v := (-1)) C.1 C.2.1 dX6_begin_26 (by decide) ?_
          cases hF
          exact retI C hr hlk hP hD hS dX6_begin_27)
def rm_X6_power : Room := { frames := 0, cells := 0, slots := 0, locals := 0 }
theorem cs_X6_power : CS yX6_power cX6_power 5 (some .long) rm_X6_power RX6 2 := ⟨kw3_86, kw1_1, kw3_87, by decide +kernel, rfl, rfl⟩
set_option maxHeartbeats 4000000 in
set_option maxRecDepth 100000 in
theorem b_X6_power_5 {l : Launch} {D : va_G} {cI cB cZ cR cM cS : ClassId} {p : Program} {e : Env} {s : State} {m : MethodId} {args : Array Value} {below : List Frame} {meth : Method} {c : Code} {A : Nat → Prop} {r_ : Int64} (C : CX p m c cX6_power 5 s args RX6) (hr : meth.sig.returnType = (some .long)) (hlk : meth.locks = false) (hK : KK D (TS cI cB cZ cR cM cS) s) (hA : ∀ q, s.heap.size ≤ q → A q) : ∀ (fu : Nat) (x0 : Int32) (x1 : Int32) (x2 : Int64) (x4 : Int32) (H : Heap) (locs : List Loc) (ls : Array Slot), F_X6_power_5 fu x0 x1 x2 x4 = some r_ → va_P D vwCl [] H → va_D A [] → va_S A s.heap H locs → lv_has ls 5 [(0, .int x0), (1, .int x1), (2, .long x2), (4, .int x4)] → W p l e rm_X6_power s m args below meth c H locs 0 0 (MQ below (va_Ql (fun x (_ : Unit) => x = r_) (BW D A []) A) args s 0 0 A) (F0 m 5 ls []) := by
  intro fu
  induction fu with
  | zero => intro x0 x1 x2 x4 H locs ls hF; cases hF
  | succ fu ih =>
    intro x0 x1 x2 x4 H locs ls hF  hP hD hS hl
    unfold F_X6_power_5 at hF
    refine lv_iload C.1 C.2.1 dX6_power_5 (lv_at hl 3 rfl) ?_
    refine lv_iload_n C.1 C.2.1 dX6_power_7 rfl (lv_at hl 1 rfl) ?_
    refine lv_icmp_ge (tgt := 22) C.1 C.2.1 dX6_power_8 (by decide) (fun c1 => ?_) (fun c1 => ?_)
    · have hF := fp hF c1
      refine lv_lload_n C.1 C.2.1 dX6_power_22 rfl (lv_at hl 2 rfl) ?_
      cases hF
      exact retL C hr hlk hP hD hS dX6_power_23
    · have hF := fn hF c1
      refine lv_lload_n C.1 C.2.1 dX6_power_11 rfl (lv_at hl 2 rfl) ?_
      refine lv_iload_n C.1 C.2.1 dX6_power_12 rfl (lv_at hl 0 rfl) ?_
      refine lv_i2l (v := x0.toInt64) C.1 C.2.1 dX6_power_13 rfl ?_
      refine lv_lmul C.1 C.2.1 dX6_power_14 ?_
      refine lv_lstore_n (lv' := [(2, .long (x2 * x0.toInt64)), (0, .int x0), (1, .int x1), (4, .int x4)]) C.1 C.2.1 dX6_power_15 rfl hl (by decide) rfl (fun ls hl => ?_)
      refine lv_iinc (v := x4 + 1) (lv' := [(4, .int (x4 + 1)), (2, .long (x2 * x0.toInt64)), (0, .int x0), (1, .int x1)]) C.1 C.2.1 dX6_power_16 hl (k := 3) rfl rfl (by decide) rfl (fun ls hl => ?_)
      refine lv_goto (tgt := 5) C.1 C.2.1 dX6_power_19 (by decide) ?_
      exact ih x0 x1 (x2 * x0.toInt64) (x4 + 1) _ _ _ hF hP hD hS (lv_sub hl [2, 3, 1, 0] rfl)
set_option maxHeartbeats 4000000 in
set_option maxRecDepth 100000 in
theorem c_X6_power {l : Launch} {D : va_G} {cI cB cZ cR cM cS : ClassId} {x0 : Int32} {x1 : Int32} {r_ : Int64} (hF : F_X6_power x0 x1 = some r_) : ML l yX6_power cX6_power 5 rm_X6_power D (TS cI cB cZ cR cM cS) [.int x0, .int x1] [] [] r_ :=
  ML_of (by decide) (Nat.le_of_ble_eq_true rfl) (fun p e s m args below meth c A ls C hr hlk hK hA hP hD hS hl => by
    have C : CX p m c cX6_power 5 s args RX6 := C
    have hl : lv_has ls 5 [(0, .int x0), (1, .int x1)] := hl
    unfold F_X6_power at hF
    refine lv_lconst (v := 1) C.1 C.2.1 dX6_power_0 rfl ?_
    refine lv_lstore_n (lv' := [(2, .long (1 : Int64)), (0, .int x0), (1, .int x1)]) C.1 C.2.1 dX6_power_1 rfl hl (by decide) rfl (fun ls hl => ?_)
    refine lv_iconst (v := 0) C.1 C.2.1 dX6_power_2 (by decide) ?_
    refine lv_istore (lv' := [(4, .int (0 : Int32)), (2, .long (1 : Int64)), (0, .int x0), (1, .int x1)]) C.1 C.2.1 dX6_power_3 hl (by decide) rfl (fun ls hl => ?_)
    exact b_X6_power_5 C hr hlk hK hA FU x0 x1 (1 : Int64) (0 : Int32) _ _ _ hF hP hD hS (lv_sub hl [2, 3, 1, 0] rfl))
def rm_X6_inLowestTerms : Room := { frames := 1, cells := 0, slots := 0, locals := 23 }
theorem cs_X6_inLowestTerms : CS yX6_inLowestTerms cX6_inLowestTerms 12 (some .long) rm_X6_inLowestTerms RX6 3 := ⟨kw3_89, kw1_1, kw3_90, by decide +kernel, rfl, rfl⟩
set_option maxHeartbeats 4000000 in
set_option maxRecDepth 100000 in
theorem b_X6_inLowestTerms_45 {l : Launch} {D : va_G} {cI cB cZ cR cM cS : ClassId} {p : Program} {e : Env} {s : State} {m : MethodId} {args : Array Value} {below : List Frame} {meth : Method} {c : Code} {A : Nat → Prop} {r_ : Int64} (C : CX p m c cX6_inLowestTerms 12 s args RX6) (hr : meth.sig.returnType = (some .long)) (hlk : meth.locks = false) (hK : KK D (TS cI cB cZ cR cM cS) s) (hA : ∀ q, s.heap.size ≤ q → A q) : ∀ (x0 : Int64) (x2 : Int64) (x4 : Int32) (x5 : Int64) (H : Heap) (locs : List Loc) (ls : Array Slot), F_X6_inLowestTerms_45 x0 x2 x4 x5 = some r_ → va_P D vwCl [] H → va_D A [] → va_S A s.heap H locs → lv_has ls 12 [(0, .long x0), (2, .long x2), (4, .int x4), (5, .long x5)] → W p l e rm_X6_inLowestTerms s m args below meth c H locs 0 0 (MQ below (va_Ql (fun x (_ : Unit) => x = r_) (BW D A []) A) args s 0 0 A) (F0 m 45 ls []) := by
  intro x0 x2 x4 x5 H locs ls hF  hP hD hS hl
  unfold F_X6_inLowestTerms_45 at hF
  refine lv_lconst (v := 1) C.1 C.2.1 dX6_inLowestTerms_45 rfl ?_
  refine lv_lload C.1 C.2.1 dX6_inLowestTerms_46 (lv_at hl 3 rfl) ?_
  refine va_mmax_long C.1 C.2.1 (C.2.2.1.trans hl.1.symm) C.2.2.2.1 (C.2.2.2.2 _ kw3_91) (C.2.2.2.2 _ kw3_92) (C.2.2.2.2 _ kw1_14) (C.2.2.2.2 _ kw3_93) (Nat.le_of_ble_eq_true rfl) (Nat.le_of_ble_eq_true rfl) (Nat.zero_le _) (Nat.zero_le _) dX6_inLowestTerms_48 ?_
  refine lv_lstore (lv' := [(9, .long (lmax (1 : Int64) x5)), (0, .long x0), (2, .long x2), (4, .int x4), (5, .long x5)]) C.1 C.2.1 dX6_inLowestTerms_51 hl (by decide) rfl (fun ls hl => ?_)
  refine lv_iload C.1 C.2.1 dX6_inLowestTerms_53 (lv_at hl 3 rfl) ?_
  refine lv_if_ne (tgt := 62) C.1 C.2.1 dX6_inLowestTerms_55 (by decide) (fun c1 => ?_) (fun c1 => ?_)
  · have hF := fn hF c1
    refine lv_lload_n C.1 C.2.1 dX6_inLowestTerms_62 rfl (lv_at hl 2 rfl) ?_
    refine lv_lload C.1 C.2.1 dX6_inLowestTerms_63 (lv_at hl 0 rfl) ?_
    obtain ⟨h2, hF⟩ := fk hF
    refine lv_ldiv C.1 C.2.1 dX6_inLowestTerms_65 h2 ?_
    cases hF
    exact retL C hr hlk hP hD hS dX6_inLowestTerms_66
  · have hF := fp hF c1
    refine lv_lload_n C.1 C.2.1 dX6_inLowestTerms_58 rfl (lv_at hl 1 rfl) ?_
    refine lv_goto (tgt := 63) C.1 C.2.1 dX6_inLowestTerms_59 (by decide) ?_
    refine lv_lload C.1 C.2.1 dX6_inLowestTerms_63 (lv_at hl 0 rfl) ?_
    obtain ⟨h3, hF⟩ := fk hF
    refine lv_ldiv C.1 C.2.1 dX6_inLowestTerms_65 h3 ?_
    cases hF
    exact retL C hr hlk hP hD hS dX6_inLowestTerms_66
set_option maxHeartbeats 4000000 in
set_option maxRecDepth 100000 in
theorem b_X6_inLowestTerms_9 {l : Launch} {D : va_G} {cI cB cZ cR cM cS : ClassId} {p : Program} {e : Env} {s : State} {m : MethodId} {args : Array Value} {below : List Frame} {meth : Method} {c : Code} {A : Nat → Prop} {r_ : Int64} (C : CX p m c cX6_inLowestTerms 12 s args RX6) (hr : meth.sig.returnType = (some .long)) (hlk : meth.locks = false) (hK : KK D (TS cI cB cZ cR cM cS) s) (hA : ∀ q, s.heap.size ≤ q → A q) : ∀ (fu : Nat) (x0 : Int64) (x2 : Int64) (x4 : Int32) (x5 : Int64) (x7 : Int64) (x9 : Int32) (H : Heap) (locs : List Loc) (ls : Array Slot), F_X6_inLowestTerms_9 fu x0 x2 x4 x5 x7 x9 = some r_ → va_P D vwCl [] H → va_D A [] → va_S A s.heap H locs → lv_has ls 12 [(0, .long x0), (2, .long x2), (4, .int x4), (5, .long x5), (7, .long x7), (9, .int x9)] → W p l e rm_X6_inLowestTerms s m args below meth c H locs 0 0 (MQ below (va_Ql (fun x (_ : Unit) => x = r_) (BW D A []) A) args s 0 0 A) (F0 m 9 ls []) := by
  intro fu
  induction fu with
  | zero => intro x0 x2 x4 x5 x7 x9 H locs ls hF; cases hF
  | succ fu ih =>
    intro x0 x2 x4 x5 x7 x9 H locs ls hF  hP hD hS hl
    unfold F_X6_inLowestTerms_9 at hF
    refine lv_iload C.1 C.2.1 dX6_inLowestTerms_9 (lv_at hl 5 rfl) ?_
    refine lv_sipush (v := 1000) C.1 C.2.1 dX6_inLowestTerms_11 (by decide) ?_
    refine lv_icmp_ge (tgt := 45) C.1 C.2.1 dX6_inLowestTerms_14 (by decide) (fun c1 => ?_) (fun c1 => ?_)
    · have hF := fp hF c1
      exact b_X6_inLowestTerms_45 C hr hlk hK hA x0 x2 x4 x5 _ _ _ hF hP hD hS (lv_sub hl [0, 1, 2, 3] rfl)
    · have hF := fn hF c1
      refine lv_lload C.1 C.2.1 dX6_inLowestTerms_17 (lv_at hl 4 rfl) ?_
      refine lv_lconst (v := 0) C.1 C.2.1 dX6_inLowestTerms_19 rfl ?_
      refine W.lcmp C.1 C.2.1 dX6_inLowestTerms_20 ?_
      refine lv_if_eq (tgt := 45) C.1 C.2.1 dX6_inLowestTerms_21 (by decide) (fun c2 => ?_) (fun c2 => ?_)
      · have hF := fp hF c2
        exact b_X6_inLowestTerms_45 C hr hlk hK hA x0 x2 x4 x5 _ _ _ hF hP hD hS (lv_sub hl [0, 1, 2, 3] rfl)
      · have hF := fn hF c2
        refine lv_lload C.1 C.2.1 dX6_inLowestTerms_24 (lv_at hl 3 rfl) ?_
        refine lv_lload C.1 C.2.1 dX6_inLowestTerms_26 (lv_at hl 4 rfl) ?_
        obtain ⟨h3, hF⟩ := fk hF
        refine lv_lrem C.1 C.2.1 dX6_inLowestTerms_28 h3 ?_
        refine lv_lstore (lv' := [(10, .long (lrem x5 x7)), (0, .long x0), (2, .long x2), (4, .int x4), (5, .long x5), (7, .long x7), (9, .int x9)]) C.1 C.2.1 dX6_inLowestTerms_29 hl (by decide) rfl (fun ls hl => ?_)
        refine lv_lload C.1 C.2.1 dX6_inLowestTerms_31 (lv_at hl 5 rfl) ?_
        refine lv_lstore (lv' := [(5, .long x7), (10, .long (lrem x5 x7)), (0, .long x0), (2, .long x2), (4, .int x4), (7, .long x7), (9, .int x9)]) C.1 C.2.1 dX6_inLowestTerms_33 hl (by decide) rfl (fun ls hl => ?_)
        refine lv_lload C.1 C.2.1 dX6_inLowestTerms_35 (lv_at hl 1 rfl) ?_
        refine lv_lstore (lv' := [(7, .long (lrem x5 x7)), (5, .long x7), (10, .long (lrem x5 x7)), (0, .long x0), (2, .long x2), (4, .int x4), (9, .int x9)]) C.1 C.2.1 dX6_inLowestTerms_37 hl (by decide) rfl (fun ls hl => ?_)
        refine lv_iinc (v := x9 + 1) (lv' := [(9, .int (x9 + 1)), (7, .long (lrem x5 x7)), (5, .long x7), (10, .long (lrem x5 x7)), (0, .long x0), (2, .long x2), (4, .int x4)]) C.1 C.2.1 dX6_inLowestTerms_39 hl (k := 6) rfl rfl (by decide) rfl (fun ls hl => ?_)
        refine lv_goto (tgt := 9) C.1 C.2.1 dX6_inLowestTerms_42 (by decide) ?_
        exact ih x0 x2 x4 x7 (lrem x5 x7) (x9 + 1) _ _ _ hF hP hD hS (lv_sub hl [4, 5, 6, 2, 1, 0] rfl)
set_option maxHeartbeats 4000000 in
set_option maxRecDepth 100000 in
theorem c_X6_inLowestTerms {l : Launch} {D : va_G} {cI cB cZ cR cM cS : ClassId} {x0 : Int64} {x2 : Int64} {x4 : Int32} {r_ : Int64} (hF : F_X6_inLowestTerms x0 x2 x4 = some r_) : ML l yX6_inLowestTerms cX6_inLowestTerms 12 rm_X6_inLowestTerms D (TS cI cB cZ cR cM cS) [.long x0, .long x2, .int x4] [] [] r_ :=
  ML_of (by decide) (Nat.le_of_ble_eq_true rfl) (fun p e s m args below meth c A ls C hr hlk hK hA hP hD hS hl => by
    have C : CX p m c cX6_inLowestTerms 12 s args RX6 := C
    have hl : lv_has ls 12 [(0, .long x0), (2, .long x2), (4, .int x4)] := hl
    unfold F_X6_inLowestTerms at hF
    refine lv_lload_n C.1 C.2.1 dX6_inLowestTerms_0 rfl (lv_at hl 0 rfl) ?_
    refine lv_lstore (lv' := [(5, .long x0), (0, .long x0), (2, .long x2), (4, .int x4)]) C.1 C.2.1 dX6_inLowestTerms_1 hl (by decide) rfl (fun ls hl => ?_)
    refine lv_lload_n C.1 C.2.1 dX6_inLowestTerms_3 rfl (lv_at hl 2 rfl) ?_
    refine lv_lstore (lv' := [(7, .long x2), (5, .long x0), (0, .long x0), (2, .long x2), (4, .int x4)]) C.1 C.2.1 dX6_inLowestTerms_4 hl (by decide) rfl (fun ls hl => ?_)
    refine lv_iconst (v := 0) C.1 C.2.1 dX6_inLowestTerms_6 (by decide) ?_
    refine lv_istore (lv' := [(9, .int (0 : Int32)), (7, .long x2), (5, .long x0), (0, .long x0), (2, .long x2), (4, .int x4)]) C.1 C.2.1 dX6_inLowestTerms_7 hl (by decide) rfl (fun ls hl => ?_)
    exact b_X6_inLowestTerms_9 C hr hlk hK hA FU x0 x2 x4 x0 x2 (0 : Int32) _ _ _ hF hP hD hS (lv_sub hl [3, 4, 5, 2, 1, 0] rfl))
def rm_X6_weightOf : Room := { frames := 1, cells := 0, slots := 0, locals := 24 }
theorem cs_X6_weightOf : CS yX6_weightOf cX6_weightOf 3 (some .long) rm_X6_weightOf RX6 3 := ⟨kw3_83, kw1_1, kw3_84, by decide +kernel, rfl, rfl⟩
set_option maxHeartbeats 4000000 in
set_option maxRecDepth 100000 in
theorem c_X6_weightOf {l : Launch} {D : va_G} {cI cB cZ cR cM cS : ClassId} {x0 : Int32} {x1 : Int32} {x2 : Int32} {r_ : Int64} (hF : F_X6_weightOf x0 x1 x2 = some r_) : ML l yX6_weightOf cX6_weightOf 3 rm_X6_weightOf D (TS cI cB cZ cR cM cS) [.int x0, .int x1, .int x2] [] [] r_ :=
  ML_of (by decide) (Nat.le_of_ble_eq_true rfl) (fun p e s m args below meth c A ls C hr hlk hK hA hP hD hS hl => by
    have C : CX p m c cX6_weightOf 3 s args RX6 := C
    have hl : lv_has ls 3 [(0, .int x0), (1, .int x1), (2, .int x2)] := hl
    unfold F_X6_weightOf at hF
    refine lv_iload_n C.1 C.2.1 dX6_weightOf_0 rfl (lv_at hl 0 rfl) ?_
    refine lv_iload_n C.1 C.2.1 dX6_weightOf_1 rfl (lv_at hl 2 rfl) ?_
    obtain ⟨r1, h2, hF⟩ := fb hF
    refine callSL C hK hA hP hD hS (c_X6_power  h2) cs_X6_power kw3_85 ⟨Nat.le_of_ble_eq_true rfl, Nat.le_of_ble_eq_true rfl⟩ ⟨Nat.zero_le _, Nat.zero_le _⟩ hl.1 rfl (Nat.le_of_ble_eq_true rfl) dX6_weightOf_2 (fun H locs hP hD hS => ?_)
    refine lv_bipush (v := 10) C.1 C.2.1 dX6_weightOf_5 (by decide) ?_
    refine lv_iload_n C.1 C.2.1 dX6_weightOf_7 rfl (lv_at hl 0 rfl) ?_
    refine lv_isub C.1 C.2.1 dX6_weightOf_8 ?_
    refine lv_iload_n C.1 C.2.1 dX6_weightOf_9 rfl (lv_at hl 1 rfl) ?_
    refine lv_iload_n C.1 C.2.1 dX6_weightOf_10 rfl (lv_at hl 2 rfl) ?_
    refine lv_isub C.1 C.2.1 dX6_weightOf_11 ?_
    obtain ⟨r3, h4, hF⟩ := fb hF
    refine callSL C hK hA hP hD hS (c_X6_power  h4) cs_X6_power kw3_85 ⟨Nat.le_of_ble_eq_true rfl, Nat.le_of_ble_eq_true rfl⟩ ⟨Nat.zero_le _, Nat.zero_le _⟩ hl.1 rfl (Nat.le_of_ble_eq_true rfl) dX6_weightOf_12 (fun H locs hP hD hS => ?_)
    refine lv_lmul C.1 C.2.1 dX6_weightOf_15 ?_
    cases hF
    exact retL C hr hlk hP hD hS dX6_weightOf_16)
def rm_X6_luck : Room := { frames := 4, cells := 0, slots := 0, locals := 94 }
theorem cv_X6_luck : CV yX6_luck cX6_luck 8 (some .long) rm_X6_luck RX6 4 := ⟨kw3_64, kw3_65, kw1_1, kw3_66, by decide +kernel, rfl, rfl⟩
set_option maxHeartbeats 4000000 in
set_option maxRecDepth 100000 in
theorem b_X6_luck_45 {l : Launch} {D : va_G} {cI cB cZ cR cM cS : ClassId} {a_this : Nat} {a_tape : Nat} {a_now : Nat} {a_trial : Nat} {a_sights : Nat} {a_images : Nat} {a_sheets : Nat} {a_now_signs : Nat} {a_now_rotors : Nat} {a_now_rotors_e : Nat → Nat} {a_trial_signs : Nat} {a_trial_rotors : Nat} {a_trial_rotors_e : Nat → Nat} {v_readFault : Int32} {p : Program} {e : Env} {s : State} {m : MethodId} {args : Array Value} {below : List Frame} {meth : Method} {c : Code} {A : Nat → Prop} {r_ : Int64} {v_trial_field' : Int32} {v_trial_tick' : Int32} {v_trial_pace' : Int32} {v_trial_signNumber' : Int32} {v_trial_rotorNumber' : Int32} {v_trial_signs' : Nat → Int32} {v_trial_rotorsF' : Nat → Rot} (C : CX p m c cX6_luck 8 s args RX6) (hr : meth.sig.returnType = (some .long)) (hlk : meth.locks = false) (hK : KK D (TS cI cB cZ cR cM cS) s) (hA : ∀ q, s.heap.size ≤ q → A q) : ∀ (fu : Nat) (v_now_field : Int32) (v_now_tick : Int32) (v_now_pace : Int32) (v_now_signNumber : Int32) (v_now_rotorNumber : Int32) (v_now_signs : Nat → Int32) (v_now_rotorsF : Nat → Rot) (v_trial_field : Int32) (v_trial_tick : Int32) (v_trial_pace : Int32) (v_trial_signNumber : Int32) (v_trial_rotorNumber : Int32) (v_trial_signs : Nat → Int32) (v_trial_rotorsF : Nat → Rot) (x1 : Int32) (x2 : Int32) (x3 : Int32) (x4 : Int32) (x5 : Int64) (x7 : Int32) (H : Heap) (locs : List Loc) (ls : Array Slot), F_X6_luck_45 fu v_now_field v_now_tick v_now_pace v_now_signNumber v_now_rotorNumber v_now_signs v_now_rotorsF v_trial_field v_trial_tick v_trial_pace v_trial_signNumber v_trial_rotorNumber v_trial_signs v_trial_rotorsF x1 x2 x3 x4 x5 x7 = some (r_, v_trial_field', v_trial_tick', v_trial_pace', v_trial_signNumber', v_trial_rotorNumber', v_trial_signs', v_trial_rotorsF') → va_P D vwCl [(a_this, .inr (6, [.ref a_tape, .ref a_now, .ref a_trial, .ref a_sights, .ref a_images, .ref a_sheets, .int v_readFault])), (a_now, .inr (0, [.int v_now_field, .int v_now_tick, .int v_now_pace, .int v_now_signNumber, .int v_now_rotorNumber, .ref a_now_signs, .ref a_now_rotors])), (a_now_signs, .inl (cI, 16, .inl v_now_signs)), (a_now_rotors, rfn cR 4 a_now_rotors_e), rcell a_now_rotors_e v_now_rotorsF 0, rcell a_now_rotors_e v_now_rotorsF 1, rcell a_now_rotors_e v_now_rotorsF 2, rcell a_now_rotors_e v_now_rotorsF 3, (a_trial, .inr (0, [.int v_trial_field, .int v_trial_tick, .int v_trial_pace, .int v_trial_signNumber, .int v_trial_rotorNumber, .ref a_trial_signs, .ref a_trial_rotors])), (a_trial_signs, .inl (cI, 16, .inl v_trial_signs)), (a_trial_rotors, rfn cR 4 a_trial_rotors_e), rcell a_trial_rotors_e v_trial_rotorsF 0, rcell a_trial_rotors_e v_trial_rotorsF 1, rcell a_trial_rotors_e v_trial_rotorsF 2, rcell a_trial_rotors_e v_trial_rotorsF 3] H → va_D A [(a_this, .inr (6, [.ref a_tape, .ref a_now, .ref a_trial, .ref a_sights, .ref a_images, .ref a_sheets, .int v_readFault])), (a_now, .inr (0, [.int v_now_field, .int v_now_tick, .int v_now_pace, .int v_now_signNumber, .int v_now_rotorNumber, .ref a_now_signs, .ref a_now_rotors])), (a_now_signs, .inl (cI, 16, .inl v_now_signs)), (a_now_rotors, rfn cR 4 a_now_rotors_e), rcell a_now_rotors_e v_now_rotorsF 0, rcell a_now_rotors_e v_now_rotorsF 1, rcell a_now_rotors_e v_now_rotorsF 2, rcell a_now_rotors_e v_now_rotorsF 3, (a_trial, .inr (0, [.int v_trial_field, .int v_trial_tick, .int v_trial_pace, .int v_trial_signNumber, .int v_trial_rotorNumber, .ref a_trial_signs, .ref a_trial_rotors])), (a_trial_signs, .inl (cI, 16, .inl v_trial_signs)), (a_trial_rotors, rfn cR 4 a_trial_rotors_e), rcell a_trial_rotors_e v_trial_rotorsF 0, rcell a_trial_rotors_e v_trial_rotorsF 1, rcell a_trial_rotors_e v_trial_rotorsF 2, rcell a_trial_rotors_e v_trial_rotorsF 3] → va_S A s.heap H locs → lv_has ls 8 [(0, .ref a_this), (1, .int x1), (2, .int x2), (3, .int x3), (4, .int x4), (5, .long x5), (7, .int x7)] → W p l e rm_X6_luck s m args below meth c H locs 0 0 (MQ below (va_Ql (fun x (_ : Unit) => x = r_) (BW D A [(a_this, .inr (6, [.ref a_tape, .ref a_now, .ref a_trial, .ref a_sights, .ref a_images, .ref a_sheets, .int v_readFault])), (a_now, .inr (0, [.int v_now_field, .int v_now_tick, .int v_now_pace, .int v_now_signNumber, .int v_now_rotorNumber, .ref a_now_signs, .ref a_now_rotors])), (a_now_signs, .inl (cI, 16, .inl v_now_signs)), (a_now_rotors, rfn cR 4 a_now_rotors_e), rcell a_now_rotors_e v_now_rotorsF 0, rcell a_now_rotors_e v_now_rotorsF 1, rcell a_now_rotors_e v_now_rotorsF 2, rcell a_now_rotors_e v_now_rotorsF 3, (a_trial, .inr (0, [.int v_trial_field', .int v_trial_tick', .int v_trial_pace', .int v_trial_signNumber', .int v_trial_rotorNumber', .ref a_trial_signs, .ref a_trial_rotors])), (a_trial_signs, .inl (cI, 16, .inl v_trial_signs')), (a_trial_rotors, rfn cR 4 a_trial_rotors_e), rcell a_trial_rotors_e v_trial_rotorsF' 0, rcell a_trial_rotors_e v_trial_rotorsF' 1, rcell a_trial_rotors_e v_trial_rotorsF' 2, rcell a_trial_rotors_e v_trial_rotorsF' 3]) A) args s 0 0 A) (F0 m 45 ls []) := by
  intro fu
  induction fu with
  | zero => intro v_now_field v_now_tick v_now_pace v_now_signNumber v_now_rotorNumber v_now_signs v_now_rotorsF v_trial_field v_trial_tick v_trial_pace v_trial_signNumber v_trial_rotorNumber v_trial_signs v_trial_rotorsF x1 x2 x3 x4 x5 x7 H locs ls hF; cases hF
  | succ fu ih =>
    intro v_now_field v_now_tick v_now_pace v_now_signNumber v_now_rotorNumber v_now_signs v_now_rotorsF v_trial_field v_trial_tick v_trial_pace v_trial_signNumber v_trial_rotorNumber v_trial_signs v_trial_rotorsF x1 x2 x3 x4 x5 x7 H locs ls hF  hP hD hS hl
    unfold F_X6_luck_45 at hF
    refine lv_iload C.1 C.2.1 dX6_luck_45 (lv_at hl 6 rfl) ?_
    refine lv_iconst (v := 1) C.1 C.2.1 dX6_luck_47 (by decide) ?_
    refine lv_iload_n C.1 C.2.1 dX6_luck_48 rfl (lv_at hl 3 rfl) ?_
    refine lv_ishl C.1 C.2.1 dX6_luck_49 ?_
    refine lv_icmp_ge (tgt := 118) C.1 C.2.1 dX6_luck_50 (by decide) (fun c1 => ?_) (fun c1 => ?_)
    · have hF := fp hF c1
      refine lv_lload C.1 C.2.1 dX6_luck_118 (lv_at hl 5 rfl) ?_
      refine lv_bipush (v := 10) C.1 C.2.1 dX6_luck_120 (by decide) ?_
      refine lv_iload_n C.1 C.2.1 dX6_luck_122 rfl (lv_at hl 3 rfl) ?_
      obtain ⟨r2, h3, hF⟩ := fb hF
      refine callSL C hK hA hP hD hS (c_X6_power  h3) cs_X6_power kw3_85 ⟨Nat.le_of_ble_eq_true rfl, Nat.le_of_ble_eq_true rfl⟩ ⟨Nat.zero_le _, Nat.zero_le _⟩ hl.1 rfl (Nat.le_of_ble_eq_true rfl) dX6_luck_123 (fun H locs hP hD hS => ?_)
      refine lv_iload C.1 C.2.1 dX6_luck_126 (lv_at hl 4 rfl) ?_
      obtain ⟨r4, h5, hF⟩ := fb hF
      refine callSL C hK hA hP hD hS (c_X6_inLowestTerms  h5) cs_X6_inLowestTerms kw3_88 ⟨Nat.le_of_ble_eq_true rfl, Nat.le_of_ble_eq_true rfl⟩ ⟨Nat.zero_le _, Nat.zero_le _⟩ hl.1 rfl (Nat.le_of_ble_eq_true rfl) dX6_luck_128 (fun H locs hP hD hS => ?_)
      cases hF
      exact retL C hr hlk hP hD hS dX6_luck_131
    · have hF := fn hF c1
      refine lv_aload_n C.1 C.2.1 dX6_luck_53 rfl (lv_at hl 0 rfl) ?_
      refine gf_6_6_trial C hK hP 0 rfl rfl dX6_luck_54 ?_
      refine lv_aload_n C.1 C.2.1 dX6_luck_57 rfl (lv_at hl 0 rfl) ?_
      refine gf_6_6_now C hK hP 0 rfl rfl dX6_luck_58 ?_
      obtain ⟨⟨w6, w7, w8, w9, w10, w11, w12⟩, h13, hF⟩ := fb hF
      refine callVV C hK hA hP hD hS [8, 9, 10, 11, 12, 13, 14, 1, 2, 3, 4, 5, 6, 7] (c_X0_copyFrom (a_this := a_trial) (a_signs := a_trial_signs) (a_rotors := a_trial_rotors) (a_rotors_e := a_trial_rotors_e) (a_o1 := a_now) (a_o1_signs := a_now_signs) (a_o1_rotors := a_now_rotors) (a_o1_rotors_e := a_now_rotors_e) (v_field := v_trial_field) (v_tick := v_trial_tick) (v_pace := v_trial_pace) (v_signNumber := v_trial_signNumber) (v_rotorNumber := v_trial_rotorNumber) (v_signs := v_trial_signs) (v_rotorsF := v_trial_rotorsF) (v_o1_field := v_now_field) (v_o1_tick := v_now_tick) (v_o1_pace := v_now_pace) (v_o1_signNumber := v_now_signNumber) (v_o1_rotorNumber := v_now_rotorNumber) (v_o1_signs := v_now_signs) (v_o1_rotorsF := v_now_rotorsF) h13) cv_X0_copyFrom kw2_124 rfl (by decide) rfl rfl rfl ⟨Nat.le_of_ble_eq_true rfl, Nat.le_of_ble_eq_true rfl⟩ ⟨Nat.zero_le _, Nat.zero_le _⟩ hl.1 rfl (Nat.le_of_ble_eq_true rfl) dX6_luck_61 (fun H locs hP hD hS => ?_)
      have hP : va_P D vwCl [(a_this, .inr (6, [.ref a_tape, .ref a_now, .ref a_trial, .ref a_sights, .ref a_images, .ref a_sheets, .int v_readFault])), (a_now, .inr (0, [.int v_now_field, .int v_now_tick, .int v_now_pace, .int v_now_signNumber, .int v_now_rotorNumber, .ref a_now_signs, .ref a_now_rotors])), (a_now_signs, .inl (cI, 16, .inl v_now_signs)), (a_now_rotors, rfn cR 4 a_now_rotors_e), rcell a_now_rotors_e v_now_rotorsF 0, rcell a_now_rotors_e v_now_rotorsF 1, rcell a_now_rotors_e v_now_rotorsF 2, rcell a_now_rotors_e v_now_rotorsF 3, (a_trial, .inr (0, [.int w6, .int w7, .int w8, .int w9, .int w10, .ref a_trial_signs, .ref a_trial_rotors])), (a_trial_signs, .inl (cI, 16, .inl w11)), (a_trial_rotors, rfn cR 4 a_trial_rotors_e), rcell a_trial_rotors_e w12 0, rcell a_trial_rotors_e w12 1, rcell a_trial_rotors_e w12 2, rcell a_trial_rotors_e w12 3] H := hP
      have hD : va_D A [(a_this, .inr (6, [.ref a_tape, .ref a_now, .ref a_trial, .ref a_sights, .ref a_images, .ref a_sheets, .int v_readFault])), (a_now, .inr (0, [.int v_now_field, .int v_now_tick, .int v_now_pace, .int v_now_signNumber, .int v_now_rotorNumber, .ref a_now_signs, .ref a_now_rotors])), (a_now_signs, .inl (cI, 16, .inl v_now_signs)), (a_now_rotors, rfn cR 4 a_now_rotors_e), rcell a_now_rotors_e v_now_rotorsF 0, rcell a_now_rotors_e v_now_rotorsF 1, rcell a_now_rotors_e v_now_rotorsF 2, rcell a_now_rotors_e v_now_rotorsF 3, (a_trial, .inr (0, [.int w6, .int w7, .int w8, .int w9, .int w10, .ref a_trial_signs, .ref a_trial_rotors])), (a_trial_signs, .inl (cI, 16, .inl w11)), (a_trial_rotors, rfn cR 4 a_trial_rotors_e), rcell a_trial_rotors_e w12 0, rcell a_trial_rotors_e w12 1, rcell a_trial_rotors_e w12 2, rcell a_trial_rotors_e w12 3] := hD
      refine lv_aload_n C.1 C.2.1 dX6_luck_64 rfl (lv_at hl 0 rfl) ?_
      refine gf_6_6_trial C hK hP 0 rfl rfl dX6_luck_65 ?_
      refine lv_iload_n C.1 C.2.1 dX6_luck_68 rfl (lv_at hl 3 rfl) ?_
      refine lv_iload C.1 C.2.1 dX6_luck_69 (lv_at hl 6 rfl) ?_
      obtain ⟨⟨r14, w15, w16, w17⟩, h18, hF⟩ := fb hF
      refine callVI C hK hA hP hD hS [8, 9, 10, 11, 12, 13, 14] (c_X0_goFailing (a_this := a_trial) (a_signs := a_trial_signs) (a_rotors := a_trial_rotors) (a_rotors_e := a_trial_rotors_e) (v_field := w6) (v_tick := w7) (v_pace := w8) (v_signNumber := w9) (v_rotorNumber := w10) (v_signs := w11) (v_rotorsF := w12) h18) cv_X0_goFailing kw3_68 rfl (by decide) rfl rfl rfl ⟨Nat.le_of_ble_eq_true rfl, Nat.le_of_ble_eq_true rfl⟩ ⟨Nat.zero_le _, Nat.zero_le _⟩ hl.1 rfl (Nat.le_of_ble_eq_true rfl) dX6_luck_71 (fun H locs hP hD hS => ?_)
      have hP : va_P D vwCl [(a_this, .inr (6, [.ref a_tape, .ref a_now, .ref a_trial, .ref a_sights, .ref a_images, .ref a_sheets, .int v_readFault])), (a_now, .inr (0, [.int v_now_field, .int v_now_tick, .int v_now_pace, .int v_now_signNumber, .int v_now_rotorNumber, .ref a_now_signs, .ref a_now_rotors])), (a_now_signs, .inl (cI, 16, .inl v_now_signs)), (a_now_rotors, rfn cR 4 a_now_rotors_e), rcell a_now_rotors_e v_now_rotorsF 0, rcell a_now_rotors_e v_now_rotorsF 1, rcell a_now_rotors_e v_now_rotorsF 2, rcell a_now_rotors_e v_now_rotorsF 3, (a_trial, .inr (0, [.int w15, .int w16, .int w8, .int w9, .int w10, .ref a_trial_signs, .ref a_trial_rotors])), (a_trial_signs, .inl (cI, 16, .inl w11)), (a_trial_rotors, rfn cR 4 a_trial_rotors_e), rcell a_trial_rotors_e w17 0, rcell a_trial_rotors_e w17 1, rcell a_trial_rotors_e w17 2, rcell a_trial_rotors_e w17 3] H := hP
      have hD : va_D A [(a_this, .inr (6, [.ref a_tape, .ref a_now, .ref a_trial, .ref a_sights, .ref a_images, .ref a_sheets, .int v_readFault])), (a_now, .inr (0, [.int v_now_field, .int v_now_tick, .int v_now_pace, .int v_now_signNumber, .int v_now_rotorNumber, .ref a_now_signs, .ref a_now_rotors])), (a_now_signs, .inl (cI, 16, .inl v_now_signs)), (a_now_rotors, rfn cR 4 a_now_rotors_e), rcell a_now_rotors_e v_now_rotorsF 0, rcell a_now_rotors_e v_now_rotorsF 1, rcell a_now_rotors_e v_now_rotorsF 2, rcell a_now_rotors_e v_now_rotorsF 3, (a_trial, .inr (0, [.int w15, .int w16, .int w8, .int w9, .int w10, .ref a_trial_signs, .ref a_trial_rotors])), (a_trial_signs, .inl (cI, 16, .inl w11)), (a_trial_rotors, rfn cR 4 a_trial_rotors_e), rcell a_trial_rotors_e w17 0, rcell a_trial_rotors_e w17 1, rcell a_trial_rotors_e w17 2, rcell a_trial_rotors_e w17 3] := hD
      refine lv_pop C.1 C.2.1 dX6_luck_74 rfl ?_
      refine lv_aload_n C.1 C.2.1 dX6_luck_75 rfl (lv_at hl 0 rfl) ?_
      refine gf_6_6_trial C hK hP 0 rfl rfl dX6_luck_76 ?_
      refine gf_6_0_rotors C hK hP 8 rfl rfl dX6_luck_79 ?_
      refine lv_iload_n C.1 C.2.1 dX6_luck_82 rfl (lv_at hl 2 rfl) ?_
      obtain ⟨h19, hF⟩ := fk hF
      refine aldR C hK hP 10 3 rfl rfl h19 dX6_luck_83 ?_
      have hk20 : x2.toNatClampNeg < 4 := Nat.not_le.mp (fun q => h19 (Or.inr q))
      refine lv_aload_n C.1 C.2.1 dX6_luck_84 rfl (lv_at hl 0 rfl) ?_
      refine gf_6_6_trial C hK hP 0 rfl rfl dX6_luck_85 ?_
      refine gf_6_0_field C hK hP 8 rfl rfl dX6_luck_88 ?_
      obtain ⟨r21, h22, hF⟩ := fb hF
      refine callVI C hK hA hP hD hS [11 + x2.toNatClampNeg] (c_X2_off (a_this := a_trial_rotors_e x2.toNatClampNeg) (v_sort := (w17 x2.toNatClampNeg).1) (v_grip := (w17 x2.toNatClampNeg).2.1) (v_place := (w17 x2.toNatClampNeg).2.2.1) (v_way := (w17 x2.toNatClampNeg).2.2.2) h22) cv_X2_off kw2_176 (congrArg (fun z => [z]) (famget 11 (rcell a_trial_rotors_e w17) rfl rfl rfl rfl hk20)) rfl rfl rfl rfl ⟨Nat.le_of_ble_eq_true rfl, Nat.le_of_ble_eq_true rfl⟩ ⟨Nat.zero_le _, Nat.zero_le _⟩ hl.1 rfl (Nat.le_of_ble_eq_true rfl) dX6_luck_91 (fun H locs hP hD hS => ?_)
      have hP := va_Pe (setL1.trans (setsame (famget 11 (rcell a_trial_rotors_e w17) rfl rfl rfl rfl hk20))) hP
      have hD := va_De (setL1.trans (setsame (famget 11 (rcell a_trial_rotors_e w17) rfl rfl rfl rfl hk20))) hD
      have hP : va_P D vwCl [(a_this, .inr (6, [.ref a_tape, .ref a_now, .ref a_trial, .ref a_sights, .ref a_images, .ref a_sheets, .int v_readFault])), (a_now, .inr (0, [.int v_now_field, .int v_now_tick, .int v_now_pace, .int v_now_signNumber, .int v_now_rotorNumber, .ref a_now_signs, .ref a_now_rotors])), (a_now_signs, .inl (cI, 16, .inl v_now_signs)), (a_now_rotors, rfn cR 4 a_now_rotors_e), rcell a_now_rotors_e v_now_rotorsF 0, rcell a_now_rotors_e v_now_rotorsF 1, rcell a_now_rotors_e v_now_rotorsF 2, rcell a_now_rotors_e v_now_rotorsF 3, (a_trial, .inr (0, [.int w15, .int w16, .int w8, .int w9, .int w10, .ref a_trial_signs, .ref a_trial_rotors])), (a_trial_signs, .inl (cI, 16, .inl w11)), (a_trial_rotors, rfn cR 4 a_trial_rotors_e), rcell a_trial_rotors_e w17 0, rcell a_trial_rotors_e w17 1, rcell a_trial_rotors_e w17 2, rcell a_trial_rotors_e w17 3] H := hP
      have hD : va_D A [(a_this, .inr (6, [.ref a_tape, .ref a_now, .ref a_trial, .ref a_sights, .ref a_images, .ref a_sheets, .int v_readFault])), (a_now, .inr (0, [.int v_now_field, .int v_now_tick, .int v_now_pace, .int v_now_signNumber, .int v_now_rotorNumber, .ref a_now_signs, .ref a_now_rotors])), (a_now_signs, .inl (cI, 16, .inl v_now_signs)), (a_now_rotors, rfn cR 4 a_now_rotors_e), rcell a_now_rotors_e v_now_rotorsF 0, rcell a_now_rotors_e v_now_rotorsF 1, rcell a_now_rotors_e v_now_rotorsF 2, rcell a_now_rotors_e v_now_rotorsF 3, (a_trial, .inr (0, [.int w15, .int w16, .int w8, .int w9, .int w10, .ref a_trial_signs, .ref a_trial_rotors])), (a_trial_signs, .inl (cI, 16, .inl w11)), (a_trial_rotors, rfn cR 4 a_trial_rotors_e), rcell a_trial_rotors_e w17 0, rcell a_trial_rotors_e w17 1, rcell a_trial_rotors_e w17 2, rcell a_trial_rotors_e w17 3] := hD
      refine lv_if_ne (tgt := 112) C.1 C.2.1 dX6_luck_94 (by decide) (fun c23 => ?_) (fun c23 => ?_)
      · have hF := fn hF c23
        refine lv_iinc (v := x7 + 1) (lv' := [(7, .int (x7 + 1)), (0, .ref a_this), (1, .int x1), (2, .int x2), (3, .int x3), (4, .int x4), (5, .long x5)]) C.1 C.2.1 dX6_luck_112 hl (k := 6) rfl rfl (by decide) rfl (fun ls hl => ?_)
        refine lv_goto (tgt := 45) C.1 C.2.1 dX6_luck_115 (by decide) ?_
        exact ih v_now_field v_now_tick v_now_pace v_now_signNumber v_now_rotorNumber v_now_signs v_now_rotorsF w15 w16 w8 w9 w10 w11 w17 x1 x2 x3 x4 x5 (x7 + 1) _ _ _ hF hP hD hS (lv_sub hl [1, 2, 3, 4, 5, 6, 0] rfl)
      · have hF := fp hF c23
        refine lv_lload C.1 C.2.1 dX6_luck_97 (lv_at hl 5 rfl) ?_
        refine lv_iload_n C.1 C.2.1 dX6_luck_99 rfl (lv_at hl 1 rfl) ?_
        refine lv_iload_n C.1 C.2.1 dX6_luck_100 rfl (lv_at hl 3 rfl) ?_
        refine lv_iload C.1 C.2.1 dX6_luck_101 (lv_at hl 6 rfl) ?_
        obtain ⟨r24, h25, hF⟩ := fb hF
        refine callSX C hK hA hP hD hS (c_J6_bitCount_0f7a4  h25) cs_J6_bitCount_0f7a4 kw3_76 ⟨Nat.le_of_ble_eq_true rfl, Nat.le_of_ble_eq_true rfl⟩ ⟨Nat.zero_le _, Nat.zero_le _⟩ hl.1 rfl (Nat.le_of_ble_eq_true rfl) dX6_luck_103 (fun H locs hP hD hS => ?_)
        obtain ⟨r26, h27, hF⟩ := fb hF
        refine callSL C hK hA hP hD hS (c_X6_weightOf  h27) cs_X6_weightOf kw3_82 ⟨Nat.le_of_ble_eq_true rfl, Nat.le_of_ble_eq_true rfl⟩ ⟨Nat.zero_le _, Nat.zero_le _⟩ hl.1 rfl (Nat.le_of_ble_eq_true rfl) dX6_luck_106 (fun H locs hP hD hS => ?_)
        refine lv_ladd C.1 C.2.1 dX6_luck_109 ?_
        refine lv_lstore (lv' := [(5, .long (x5 + r26)), (0, .ref a_this), (1, .int x1), (2, .int x2), (3, .int x3), (4, .int x4), (7, .int x7)]) C.1 C.2.1 dX6_luck_110 hl (by decide) rfl (fun ls hl => ?_)
        refine lv_iinc (v := x7 + 1) (lv' := [(7, .int (x7 + 1)), (5, .long (x5 + r26)), (0, .ref a_this), (1, .int x1), (2, .int x2), (3, .int x3), (4, .int x4)]) C.1 C.2.1 dX6_luck_112 hl (k := 6) rfl rfl (by decide) rfl (fun ls hl => ?_)
        refine lv_goto (tgt := 45) C.1 C.2.1 dX6_luck_115 (by decide) ?_
        exact ih v_now_field v_now_tick v_now_pace v_now_signNumber v_now_rotorNumber v_now_signs v_now_rotorsF w15 w16 w8 w9 w10 w11 w17 x1 x2 x3 x4 (x5 + r26) (x7 + 1) _ _ _ hF hP hD hS (lv_sub hl [2, 3, 4, 5, 6, 1, 0] rfl)
set_option maxHeartbeats 4000000 in
set_option maxRecDepth 100000 in
theorem c_X6_luck {l : Launch} {D : va_G} {cI cB cZ cR cM cS : ClassId} {a_this : Nat} {a_tape : Nat} {a_now : Nat} {a_trial : Nat} {a_sights : Nat} {a_images : Nat} {a_sheets : Nat} {a_now_signs : Nat} {a_now_rotors : Nat} {a_now_rotors_e : Nat → Nat} {a_trial_signs : Nat} {a_trial_rotors : Nat} {a_trial_rotors_e : Nat → Nat} {v_readFault : Int32} {v_now_field : Int32} {v_now_tick : Int32} {v_now_pace : Int32} {v_now_signNumber : Int32} {v_now_rotorNumber : Int32} {v_now_signs : Nat → Int32} {v_now_rotorsF : Nat → Rot} {v_trial_field : Int32} {v_trial_tick : Int32} {v_trial_pace : Int32} {v_trial_signNumber : Int32} {v_trial_rotorNumber : Int32} {v_trial_signs : Nat → Int32} {v_trial_rotorsF : Nat → Rot} {x1 : Int32} {x2 : Int32} {x3 : Int32} {x4 : Int32} {r_ : Int64} {v_trial_field' : Int32} {v_trial_tick' : Int32} {v_trial_pace' : Int32} {v_trial_signNumber' : Int32} {v_trial_rotorNumber' : Int32} {v_trial_signs' : Nat → Int32} {v_trial_rotorsF' : Nat → Rot} (hF : F_X6_luck v_now_field v_now_tick v_now_pace v_now_signNumber v_now_rotorNumber v_now_signs v_now_rotorsF v_trial_field v_trial_tick v_trial_pace v_trial_signNumber v_trial_rotorNumber v_trial_signs v_trial_rotorsF x1 x2 x3 x4 = some (r_, v_trial_field', v_trial_tick', v_trial_pace', v_trial_signNumber', v_trial_rotorNumber', v_trial_signs', v_trial_rotorsF')) : ML l yX6_luck cX6_luck 8 rm_X6_luck D (TS cI cB cZ cR cM cS) [.ref a_this, .int x1, .int x2, .int x3, .int x4] [(a_this, .inr (6, [.ref a_tape, .ref a_now, .ref a_trial, .ref a_sights, .ref a_images, .ref a_sheets, .int v_readFault])), (a_now, .inr (0, [.int v_now_field, .int v_now_tick, .int v_now_pace, .int v_now_signNumber, .int v_now_rotorNumber, .ref a_now_signs, .ref a_now_rotors])), (a_now_signs, .inl (cI, 16, .inl v_now_signs)), (a_now_rotors, rfn cR 4 a_now_rotors_e), rcell a_now_rotors_e v_now_rotorsF 0, rcell a_now_rotors_e v_now_rotorsF 1, rcell a_now_rotors_e v_now_rotorsF 2, rcell a_now_rotors_e v_now_rotorsF 3, (a_trial, .inr (0, [.int v_trial_field, .int v_trial_tick, .int v_trial_pace, .int v_trial_signNumber, .int v_trial_rotorNumber, .ref a_trial_signs, .ref a_trial_rotors])), (a_trial_signs, .inl (cI, 16, .inl v_trial_signs)), (a_trial_rotors, rfn cR 4 a_trial_rotors_e), rcell a_trial_rotors_e v_trial_rotorsF 0, rcell a_trial_rotors_e v_trial_rotorsF 1, rcell a_trial_rotors_e v_trial_rotorsF 2, rcell a_trial_rotors_e v_trial_rotorsF 3] [(a_this, .inr (6, [.ref a_tape, .ref a_now, .ref a_trial, .ref a_sights, .ref a_images, .ref a_sheets, .int v_readFault])), (a_now, .inr (0, [.int v_now_field, .int v_now_tick, .int v_now_pace, .int v_now_signNumber, .int v_now_rotorNumber, .ref a_now_signs, .ref a_now_rotors])), (a_now_signs, .inl (cI, 16, .inl v_now_signs)), (a_now_rotors, rfn cR 4 a_now_rotors_e), rcell a_now_rotors_e v_now_rotorsF 0, rcell a_now_rotors_e v_now_rotorsF 1, rcell a_now_rotors_e v_now_rotorsF 2, rcell a_now_rotors_e v_now_rotorsF 3, (a_trial, .inr (0, [.int v_trial_field', .int v_trial_tick', .int v_trial_pace', .int v_trial_signNumber', .int v_trial_rotorNumber', .ref a_trial_signs, .ref a_trial_rotors])), (a_trial_signs, .inl (cI, 16, .inl v_trial_signs')), (a_trial_rotors, rfn cR 4 a_trial_rotors_e), rcell a_trial_rotors_e v_trial_rotorsF' 0, rcell a_trial_rotors_e v_trial_rotorsF' 1, rcell a_trial_rotors_e v_trial_rotorsF' 2, rcell a_trial_rotors_e v_trial_rotorsF' 3] r_ :=
  ML_of (by decide) (Nat.le_of_ble_eq_true rfl) (fun p e s m args below meth c A ls C hr hlk hK hA hP hD hS hl => by
    have C : CX p m c cX6_luck 8 s args RX6 := C
    have hl : lv_has ls 8 [(0, .ref a_this), (1, .int x1), (2, .int x2), (3, .int x3), (4, .int x4)] := hl
    unfold F_X6_luck at hF
    refine lv_iload_n C.1 C.2.1 dX6_luck_0 rfl (lv_at hl 1 rfl) ?_
    refine lv_bipush (v := 10) C.1 C.2.1 dX6_luck_1 (by decide) ?_
    obtain ⟨r1, h2, hF⟩ := fb hF
    refine callSI C hK hA hP hD hS (c_X6_within  h2) cs_X6_within kw1_227 ⟨Nat.le_of_ble_eq_true rfl, Nat.le_of_ble_eq_true rfl⟩ ⟨Nat.zero_le _, Nat.zero_le _⟩ hl.1 rfl (Nat.le_of_ble_eq_true rfl) dX6_luck_3 (fun H locs hP hD hS => ?_)
    refine lv_if_eq (tgt := 35) C.1 C.2.1 dX6_luck_6 (by decide) (fun c3 => ?_) (fun c3 => ?_)
    · have hF := fp hF c3
      refine lv_ldc2 (v := -1) C.1 C.2.1 C.2.2.2.1 (C.2.2.2.2 _ kw3_67) dX6_luck_35 ?_
      cases hF
      exact retL C hr hlk hP hD hS dX6_luck_38
    · have hF := fn hF c3
      refine lv_aload_n C.1 C.2.1 dX6_luck_9 rfl (lv_at hl 0 rfl) ?_
      refine lv_iload_n C.1 C.2.1 dX6_luck_10 rfl (lv_at hl 2 rfl) ?_
      obtain ⟨r4, h5, hF⟩ := fb hF
      refine callVI C hK hA hP hD hS [0, 1] (c_X6_hasRotor (a_this := a_this) (a_tape := a_tape) (a_now := a_now) (a_trial := a_trial) (a_sights := a_sights) (a_images := a_images) (a_sheets := a_sheets) (a_now_signs := a_now_signs) (a_now_rotors := a_now_rotors) (v_readFault := v_readFault) (v_now_field := v_now_field) (v_now_tick := v_now_tick) (v_now_pace := v_now_pace) (v_now_signNumber := v_now_signNumber) (v_now_rotorNumber := v_now_rotorNumber) h5) cv_X6_hasRotor kw2_172 rfl (by decide) rfl rfl rfl ⟨Nat.le_of_ble_eq_true rfl, Nat.le_of_ble_eq_true rfl⟩ ⟨Nat.zero_le _, Nat.zero_le _⟩ hl.1 rfl (Nat.le_of_ble_eq_true rfl) dX6_luck_11 (fun H locs hP hD hS => ?_)
      have hP : va_P D vwCl [(a_this, .inr (6, [.ref a_tape, .ref a_now, .ref a_trial, .ref a_sights, .ref a_images, .ref a_sheets, .int v_readFault])), (a_now, .inr (0, [.int v_now_field, .int v_now_tick, .int v_now_pace, .int v_now_signNumber, .int v_now_rotorNumber, .ref a_now_signs, .ref a_now_rotors])), (a_now_signs, .inl (cI, 16, .inl v_now_signs)), (a_now_rotors, rfn cR 4 a_now_rotors_e), rcell a_now_rotors_e v_now_rotorsF 0, rcell a_now_rotors_e v_now_rotorsF 1, rcell a_now_rotors_e v_now_rotorsF 2, rcell a_now_rotors_e v_now_rotorsF 3, (a_trial, .inr (0, [.int v_trial_field, .int v_trial_tick, .int v_trial_pace, .int v_trial_signNumber, .int v_trial_rotorNumber, .ref a_trial_signs, .ref a_trial_rotors])), (a_trial_signs, .inl (cI, 16, .inl v_trial_signs)), (a_trial_rotors, rfn cR 4 a_trial_rotors_e), rcell a_trial_rotors_e v_trial_rotorsF 0, rcell a_trial_rotors_e v_trial_rotorsF 1, rcell a_trial_rotors_e v_trial_rotorsF 2, rcell a_trial_rotors_e v_trial_rotorsF 3] H := hP
      have hD : va_D A [(a_this, .inr (6, [.ref a_tape, .ref a_now, .ref a_trial, .ref a_sights, .ref a_images, .ref a_sheets, .int v_readFault])), (a_now, .inr (0, [.int v_now_field, .int v_now_tick, .int v_now_pace, .int v_now_signNumber, .int v_now_rotorNumber, .ref a_now_signs, .ref a_now_rotors])), (a_now_signs, .inl (cI, 16, .inl v_now_signs)), (a_now_rotors, rfn cR 4 a_now_rotors_e), rcell a_now_rotors_e v_now_rotorsF 0, rcell a_now_rotors_e v_now_rotorsF 1, rcell a_now_rotors_e v_now_rotorsF 2, rcell a_now_rotors_e v_now_rotorsF 3, (a_trial, .inr (0, [.int v_trial_field, .int v_trial_tick, .int v_trial_pace, .int v_trial_signNumber, .int v_trial_rotorNumber, .ref a_trial_signs, .ref a_trial_rotors])), (a_trial_signs, .inl (cI, 16, .inl v_trial_signs)), (a_trial_rotors, rfn cR 4 a_trial_rotors_e), rcell a_trial_rotors_e v_trial_rotorsF 0, rcell a_trial_rotors_e v_trial_rotorsF 1, rcell a_trial_rotors_e v_trial_rotorsF 2, rcell a_trial_rotors_e v_trial_rotorsF 3] := hD
      refine lv_if_eq (tgt := 35) C.1 C.2.1 dX6_luck_14 (by decide) (fun c6 => ?_) (fun c6 => ?_)
      · have hF := fp hF c6
        refine lv_ldc2 (v := -1) C.1 C.2.1 C.2.2.2.1 (C.2.2.2.2 _ kw3_67) dX6_luck_35 ?_
        cases hF
        exact retL C hr hlk hP hD hS dX6_luck_38
      · have hF := fn hF c6
        refine lv_iload_n C.1 C.2.1 dX6_luck_17 rfl (lv_at hl 3 rfl) ?_
        refine lv_bipush (v := 8) C.1 C.2.1 dX6_luck_18 (by decide) ?_
        obtain ⟨r7, h8, hF⟩ := fb hF
        refine callSI C hK hA hP hD hS (c_X6_within  h8) cs_X6_within kw1_227 ⟨Nat.le_of_ble_eq_true rfl, Nat.le_of_ble_eq_true rfl⟩ ⟨Nat.zero_le _, Nat.zero_le _⟩ hl.1 rfl (Nat.le_of_ble_eq_true rfl) dX6_luck_20 (fun H locs hP hD hS => ?_)
        refine lv_if_eq (tgt := 35) C.1 C.2.1 dX6_luck_23 (by decide) (fun c9 => ?_) (fun c9 => ?_)
        · have hF := fp hF c9
          refine lv_ldc2 (v := -1) C.1 C.2.1 C.2.2.2.1 (C.2.2.2.2 _ kw3_67) dX6_luck_35 ?_
          cases hF
          exact retL C hr hlk hP hD hS dX6_luck_38
        · have hF := fn hF c9
          refine lv_iload C.1 C.2.1 dX6_luck_26 (lv_at hl 4 rfl) ?_
          refine lv_iconst (v := 1) C.1 C.2.1 dX6_luck_28 (by decide) ?_
          obtain ⟨r10, h11, hF⟩ := fb hF
          refine callSI C hK hA hP hD hS (c_X6_within  h11) cs_X6_within kw1_227 ⟨Nat.le_of_ble_eq_true rfl, Nat.le_of_ble_eq_true rfl⟩ ⟨Nat.zero_le _, Nat.zero_le _⟩ hl.1 rfl (Nat.le_of_ble_eq_true rfl) dX6_luck_29 (fun H locs hP hD hS => ?_)
          refine lv_if_ne (tgt := 39) C.1 C.2.1 dX6_luck_32 (by decide) (fun c12 => ?_) (fun c12 => ?_)
          · have hF := fn hF c12
            refine lv_lconst (v := 0) C.1 C.2.1 dX6_luck_39 rfl ?_
            refine lv_lstore (lv' := [(5, .long (0 : Int64)), (0, .ref a_this), (1, .int x1), (2, .int x2), (3, .int x3), (4, .int x4)]) C.1 C.2.1 dX6_luck_40 hl (by decide) rfl (fun ls hl => ?_)
            refine lv_iconst (v := 0) C.1 C.2.1 dX6_luck_42 (by decide) ?_
            refine lv_istore (lv' := [(7, .int (0 : Int32)), (5, .long (0 : Int64)), (0, .ref a_this), (1, .int x1), (2, .int x2), (3, .int x3), (4, .int x4)]) C.1 C.2.1 dX6_luck_43 hl (by decide) rfl (fun ls hl => ?_)
            exact b_X6_luck_45 C hr hlk hK hA FU v_now_field v_now_tick v_now_pace v_now_signNumber v_now_rotorNumber v_now_signs v_now_rotorsF v_trial_field v_trial_tick v_trial_pace v_trial_signNumber v_trial_rotorNumber v_trial_signs v_trial_rotorsF x1 x2 x3 x4 (0 : Int64) (0 : Int32) _ _ _ hF hP hD hS (lv_sub hl [2, 3, 4, 5, 6, 1, 0] rfl)
          · have hF := fp hF c12
            refine lv_ldc2 (v := -1) C.1 C.2.1 C.2.2.2.1 (C.2.2.2.2 _ kw3_67) dX6_luck_35 ?_
            cases hF
            exact retL C hr hlk hP hD hS dX6_luck_38)
def rm_X6_mean : Room := { frames := 4, cells := 0, slots := 0, locals := 94 }
theorem cv_X6_mean : CV yX6_mean cX6_mean 8 (some .long) rm_X6_mean RX6 3 := ⟨kw3_95, kw3_96, kw1_1, kw3_97, by decide +kernel, rfl, rfl⟩
set_option maxHeartbeats 4000000 in
set_option maxRecDepth 100000 in
theorem b_X6_mean_36 {l : Launch} {D : va_G} {cI cB cZ cR cM cS : ClassId} {a_this : Nat} {a_tape : Nat} {a_now : Nat} {a_trial : Nat} {a_sights : Nat} {a_images : Nat} {a_sheets : Nat} {a_now_signs : Nat} {a_now_rotors : Nat} {a_now_rotors_e : Nat → Nat} {a_trial_signs : Nat} {a_trial_rotors : Nat} {a_trial_rotors_e : Nat → Nat} {v_readFault : Int32} {p : Program} {e : Env} {s : State} {m : MethodId} {args : Array Value} {below : List Frame} {meth : Method} {c : Code} {A : Nat → Prop} {r_ : Int64} {v_trial_field' : Int32} {v_trial_tick' : Int32} {v_trial_pace' : Int32} {v_trial_signNumber' : Int32} {v_trial_rotorNumber' : Int32} {v_trial_signs' : Nat → Int32} {v_trial_rotorsF' : Nat → Rot} (C : CX p m c cX6_mean 8 s args RX6) (hr : meth.sig.returnType = (some .long)) (hlk : meth.locks = false) (hK : KK D (TS cI cB cZ cR cM cS) s) (hA : ∀ q, s.heap.size ≤ q → A q) : ∀ (fu : Nat) (v_now_field : Int32) (v_now_tick : Int32) (v_now_pace : Int32) (v_now_signNumber : Int32) (v_now_rotorNumber : Int32) (v_now_signs : Nat → Int32) (v_now_rotorsF : Nat → Rot) (v_trial_field : Int32) (v_trial_tick : Int32) (v_trial_pace : Int32) (v_trial_signNumber : Int32) (v_trial_rotorNumber : Int32) (v_trial_signs : Nat → Int32) (v_trial_rotorsF : Nat → Rot) (x1 : Int32) (x2 : Int32) (x3 : Int32) (x4 : Int64) (x6 : Int32) (H : Heap) (locs : List Loc) (ls : Array Slot), F_X6_mean_36 fu v_now_field v_now_tick v_now_pace v_now_signNumber v_now_rotorNumber v_now_signs v_now_rotorsF v_trial_field v_trial_tick v_trial_pace v_trial_signNumber v_trial_rotorNumber v_trial_signs v_trial_rotorsF x1 x2 x3 x4 x6 = some (r_, v_trial_field', v_trial_tick', v_trial_pace', v_trial_signNumber', v_trial_rotorNumber', v_trial_signs', v_trial_rotorsF') → va_P D vwCl [(a_this, .inr (6, [.ref a_tape, .ref a_now, .ref a_trial, .ref a_sights, .ref a_images, .ref a_sheets, .int v_readFault])), (a_now, .inr (0, [.int v_now_field, .int v_now_tick, .int v_now_pace, .int v_now_signNumber, .int v_now_rotorNumber, .ref a_now_signs, .ref a_now_rotors])), (a_now_signs, .inl (cI, 16, .inl v_now_signs)), (a_now_rotors, rfn cR 4 a_now_rotors_e), rcell a_now_rotors_e v_now_rotorsF 0, rcell a_now_rotors_e v_now_rotorsF 1, rcell a_now_rotors_e v_now_rotorsF 2, rcell a_now_rotors_e v_now_rotorsF 3, (a_trial, .inr (0, [.int v_trial_field, .int v_trial_tick, .int v_trial_pace, .int v_trial_signNumber, .int v_trial_rotorNumber, .ref a_trial_signs, .ref a_trial_rotors])), (a_trial_signs, .inl (cI, 16, .inl v_trial_signs)), (a_trial_rotors, rfn cR 4 a_trial_rotors_e), rcell a_trial_rotors_e v_trial_rotorsF 0, rcell a_trial_rotors_e v_trial_rotorsF 1, rcell a_trial_rotors_e v_trial_rotorsF 2, rcell a_trial_rotors_e v_trial_rotorsF 3] H → va_D A [(a_this, .inr (6, [.ref a_tape, .ref a_now, .ref a_trial, .ref a_sights, .ref a_images, .ref a_sheets, .int v_readFault])), (a_now, .inr (0, [.int v_now_field, .int v_now_tick, .int v_now_pace, .int v_now_signNumber, .int v_now_rotorNumber, .ref a_now_signs, .ref a_now_rotors])), (a_now_signs, .inl (cI, 16, .inl v_now_signs)), (a_now_rotors, rfn cR 4 a_now_rotors_e), rcell a_now_rotors_e v_now_rotorsF 0, rcell a_now_rotors_e v_now_rotorsF 1, rcell a_now_rotors_e v_now_rotorsF 2, rcell a_now_rotors_e v_now_rotorsF 3, (a_trial, .inr (0, [.int v_trial_field, .int v_trial_tick, .int v_trial_pace, .int v_trial_signNumber, .int v_trial_rotorNumber, .ref a_trial_signs, .ref a_trial_rotors])), (a_trial_signs, .inl (cI, 16, .inl v_trial_signs)), (a_trial_rotors, rfn cR 4 a_trial_rotors_e), rcell a_trial_rotors_e v_trial_rotorsF 0, rcell a_trial_rotors_e v_trial_rotorsF 1, rcell a_trial_rotors_e v_trial_rotorsF 2, rcell a_trial_rotors_e v_trial_rotorsF 3] → va_S A s.heap H locs → lv_has ls 8 [(0, .ref a_this), (1, .int x1), (2, .int x2), (3, .int x3), (4, .long x4), (6, .int x6)] → W p l e rm_X6_mean s m args below meth c H locs 0 0 (MQ below (va_Ql (fun x (_ : Unit) => x = r_) (BW D A [(a_this, .inr (6, [.ref a_tape, .ref a_now, .ref a_trial, .ref a_sights, .ref a_images, .ref a_sheets, .int v_readFault])), (a_now, .inr (0, [.int v_now_field, .int v_now_tick, .int v_now_pace, .int v_now_signNumber, .int v_now_rotorNumber, .ref a_now_signs, .ref a_now_rotors])), (a_now_signs, .inl (cI, 16, .inl v_now_signs)), (a_now_rotors, rfn cR 4 a_now_rotors_e), rcell a_now_rotors_e v_now_rotorsF 0, rcell a_now_rotors_e v_now_rotorsF 1, rcell a_now_rotors_e v_now_rotorsF 2, rcell a_now_rotors_e v_now_rotorsF 3, (a_trial, .inr (0, [.int v_trial_field', .int v_trial_tick', .int v_trial_pace', .int v_trial_signNumber', .int v_trial_rotorNumber', .ref a_trial_signs, .ref a_trial_rotors])), (a_trial_signs, .inl (cI, 16, .inl v_trial_signs')), (a_trial_rotors, rfn cR 4 a_trial_rotors_e), rcell a_trial_rotors_e v_trial_rotorsF' 0, rcell a_trial_rotors_e v_trial_rotorsF' 1, rcell a_trial_rotors_e v_trial_rotorsF' 2, rcell a_trial_rotors_e v_trial_rotorsF' 3]) A) args s 0 0 A) (F0 m 36 ls []) := by
  intro fu
  induction fu with
  | zero => intro v_now_field v_now_tick v_now_pace v_now_signNumber v_now_rotorNumber v_now_signs v_now_rotorsF v_trial_field v_trial_tick v_trial_pace v_trial_signNumber v_trial_rotorNumber v_trial_signs v_trial_rotorsF x1 x2 x3 x4 x6 H locs ls hF; cases hF
  | succ fu ih =>
    intro v_now_field v_now_tick v_now_pace v_now_signNumber v_now_rotorNumber v_now_signs v_now_rotorsF v_trial_field v_trial_tick v_trial_pace v_trial_signNumber v_trial_rotorNumber v_trial_signs v_trial_rotorsF x1 x2 x3 x4 x6 H locs ls hF  hP hD hS hl
    unfold F_X6_mean_36 at hF
    refine lv_iload C.1 C.2.1 dX6_mean_36 (lv_at hl 5 rfl) ?_
    refine lv_iconst (v := 1) C.1 C.2.1 dX6_mean_38 (by decide) ?_
    refine lv_iload_n C.1 C.2.1 dX6_mean_39 rfl (lv_at hl 2 rfl) ?_
    refine lv_ishl C.1 C.2.1 dX6_mean_40 ?_
    refine lv_icmp_ge (tgt := 92) C.1 C.2.1 dX6_mean_41 (by decide) (fun c1 => ?_) (fun c1 => ?_)
    · have hF := fp hF c1
      refine lv_lload C.1 C.2.1 dX6_mean_92 (lv_at hl 4 rfl) ?_
      refine lv_bipush (v := 10) C.1 C.2.1 dX6_mean_94 (by decide) ?_
      refine lv_iload_n C.1 C.2.1 dX6_mean_96 rfl (lv_at hl 2 rfl) ?_
      obtain ⟨r2, h3, hF⟩ := fb hF
      refine callSL C hK hA hP hD hS (c_X6_power  h3) cs_X6_power kw3_85 ⟨Nat.le_of_ble_eq_true rfl, Nat.le_of_ble_eq_true rfl⟩ ⟨Nat.zero_le _, Nat.zero_le _⟩ hl.1 rfl (Nat.le_of_ble_eq_true rfl) dX6_mean_97 (fun H locs hP hD hS => ?_)
      refine lv_iload_n C.1 C.2.1 dX6_mean_100 rfl (lv_at hl 3 rfl) ?_
      obtain ⟨r4, h5, hF⟩ := fb hF
      refine callSL C hK hA hP hD hS (c_X6_inLowestTerms  h5) cs_X6_inLowestTerms kw3_88 ⟨Nat.le_of_ble_eq_true rfl, Nat.le_of_ble_eq_true rfl⟩ ⟨Nat.zero_le _, Nat.zero_le _⟩ hl.1 rfl (Nat.le_of_ble_eq_true rfl) dX6_mean_101 (fun H locs hP hD hS => ?_)
      cases hF
      exact retL C hr hlk hP hD hS dX6_mean_104
    · have hF := fn hF c1
      refine lv_aload_n C.1 C.2.1 dX6_mean_44 rfl (lv_at hl 0 rfl) ?_
      refine gf_6_6_trial C hK hP 0 rfl rfl dX6_mean_45 ?_
      refine lv_aload_n C.1 C.2.1 dX6_mean_48 rfl (lv_at hl 0 rfl) ?_
      refine gf_6_6_now C hK hP 0 rfl rfl dX6_mean_49 ?_
      obtain ⟨⟨w6, w7, w8, w9, w10, w11, w12⟩, h13, hF⟩ := fb hF
      refine callVV C hK hA hP hD hS [8, 9, 10, 11, 12, 13, 14, 1, 2, 3, 4, 5, 6, 7] (c_X0_copyFrom (a_this := a_trial) (a_signs := a_trial_signs) (a_rotors := a_trial_rotors) (a_rotors_e := a_trial_rotors_e) (a_o1 := a_now) (a_o1_signs := a_now_signs) (a_o1_rotors := a_now_rotors) (a_o1_rotors_e := a_now_rotors_e) (v_field := v_trial_field) (v_tick := v_trial_tick) (v_pace := v_trial_pace) (v_signNumber := v_trial_signNumber) (v_rotorNumber := v_trial_rotorNumber) (v_signs := v_trial_signs) (v_rotorsF := v_trial_rotorsF) (v_o1_field := v_now_field) (v_o1_tick := v_now_tick) (v_o1_pace := v_now_pace) (v_o1_signNumber := v_now_signNumber) (v_o1_rotorNumber := v_now_rotorNumber) (v_o1_signs := v_now_signs) (v_o1_rotorsF := v_now_rotorsF) h13) cv_X0_copyFrom kw2_124 rfl (by decide) rfl rfl rfl ⟨Nat.le_of_ble_eq_true rfl, Nat.le_of_ble_eq_true rfl⟩ ⟨Nat.zero_le _, Nat.zero_le _⟩ hl.1 rfl (Nat.le_of_ble_eq_true rfl) dX6_mean_52 (fun H locs hP hD hS => ?_)
      have hP : va_P D vwCl [(a_this, .inr (6, [.ref a_tape, .ref a_now, .ref a_trial, .ref a_sights, .ref a_images, .ref a_sheets, .int v_readFault])), (a_now, .inr (0, [.int v_now_field, .int v_now_tick, .int v_now_pace, .int v_now_signNumber, .int v_now_rotorNumber, .ref a_now_signs, .ref a_now_rotors])), (a_now_signs, .inl (cI, 16, .inl v_now_signs)), (a_now_rotors, rfn cR 4 a_now_rotors_e), rcell a_now_rotors_e v_now_rotorsF 0, rcell a_now_rotors_e v_now_rotorsF 1, rcell a_now_rotors_e v_now_rotorsF 2, rcell a_now_rotors_e v_now_rotorsF 3, (a_trial, .inr (0, [.int w6, .int w7, .int w8, .int w9, .int w10, .ref a_trial_signs, .ref a_trial_rotors])), (a_trial_signs, .inl (cI, 16, .inl w11)), (a_trial_rotors, rfn cR 4 a_trial_rotors_e), rcell a_trial_rotors_e w12 0, rcell a_trial_rotors_e w12 1, rcell a_trial_rotors_e w12 2, rcell a_trial_rotors_e w12 3] H := hP
      have hD : va_D A [(a_this, .inr (6, [.ref a_tape, .ref a_now, .ref a_trial, .ref a_sights, .ref a_images, .ref a_sheets, .int v_readFault])), (a_now, .inr (0, [.int v_now_field, .int v_now_tick, .int v_now_pace, .int v_now_signNumber, .int v_now_rotorNumber, .ref a_now_signs, .ref a_now_rotors])), (a_now_signs, .inl (cI, 16, .inl v_now_signs)), (a_now_rotors, rfn cR 4 a_now_rotors_e), rcell a_now_rotors_e v_now_rotorsF 0, rcell a_now_rotors_e v_now_rotorsF 1, rcell a_now_rotors_e v_now_rotorsF 2, rcell a_now_rotors_e v_now_rotorsF 3, (a_trial, .inr (0, [.int w6, .int w7, .int w8, .int w9, .int w10, .ref a_trial_signs, .ref a_trial_rotors])), (a_trial_signs, .inl (cI, 16, .inl w11)), (a_trial_rotors, rfn cR 4 a_trial_rotors_e), rcell a_trial_rotors_e w12 0, rcell a_trial_rotors_e w12 1, rcell a_trial_rotors_e w12 2, rcell a_trial_rotors_e w12 3] := hD
      refine lv_aload_n C.1 C.2.1 dX6_mean_55 rfl (lv_at hl 0 rfl) ?_
      refine gf_6_6_trial C hK hP 0 rfl rfl dX6_mean_56 ?_
      refine lv_iload_n C.1 C.2.1 dX6_mean_59 rfl (lv_at hl 2 rfl) ?_
      refine lv_iload C.1 C.2.1 dX6_mean_60 (lv_at hl 5 rfl) ?_
      obtain ⟨⟨r14, w15, w16, w17⟩, h18, hF⟩ := fb hF
      refine callVI C hK hA hP hD hS [8, 9, 10, 11, 12, 13, 14] (c_X0_goFailing (a_this := a_trial) (a_signs := a_trial_signs) (a_rotors := a_trial_rotors) (a_rotors_e := a_trial_rotors_e) (v_field := w6) (v_tick := w7) (v_pace := w8) (v_signNumber := w9) (v_rotorNumber := w10) (v_signs := w11) (v_rotorsF := w12) h18) cv_X0_goFailing kw3_68 rfl (by decide) rfl rfl rfl ⟨Nat.le_of_ble_eq_true rfl, Nat.le_of_ble_eq_true rfl⟩ ⟨Nat.zero_le _, Nat.zero_le _⟩ hl.1 rfl (Nat.le_of_ble_eq_true rfl) dX6_mean_62 (fun H locs hP hD hS => ?_)
      have hP : va_P D vwCl [(a_this, .inr (6, [.ref a_tape, .ref a_now, .ref a_trial, .ref a_sights, .ref a_images, .ref a_sheets, .int v_readFault])), (a_now, .inr (0, [.int v_now_field, .int v_now_tick, .int v_now_pace, .int v_now_signNumber, .int v_now_rotorNumber, .ref a_now_signs, .ref a_now_rotors])), (a_now_signs, .inl (cI, 16, .inl v_now_signs)), (a_now_rotors, rfn cR 4 a_now_rotors_e), rcell a_now_rotors_e v_now_rotorsF 0, rcell a_now_rotors_e v_now_rotorsF 1, rcell a_now_rotors_e v_now_rotorsF 2, rcell a_now_rotors_e v_now_rotorsF 3, (a_trial, .inr (0, [.int w15, .int w16, .int w8, .int w9, .int w10, .ref a_trial_signs, .ref a_trial_rotors])), (a_trial_signs, .inl (cI, 16, .inl w11)), (a_trial_rotors, rfn cR 4 a_trial_rotors_e), rcell a_trial_rotors_e w17 0, rcell a_trial_rotors_e w17 1, rcell a_trial_rotors_e w17 2, rcell a_trial_rotors_e w17 3] H := hP
      have hD : va_D A [(a_this, .inr (6, [.ref a_tape, .ref a_now, .ref a_trial, .ref a_sights, .ref a_images, .ref a_sheets, .int v_readFault])), (a_now, .inr (0, [.int v_now_field, .int v_now_tick, .int v_now_pace, .int v_now_signNumber, .int v_now_rotorNumber, .ref a_now_signs, .ref a_now_rotors])), (a_now_signs, .inl (cI, 16, .inl v_now_signs)), (a_now_rotors, rfn cR 4 a_now_rotors_e), rcell a_now_rotors_e v_now_rotorsF 0, rcell a_now_rotors_e v_now_rotorsF 1, rcell a_now_rotors_e v_now_rotorsF 2, rcell a_now_rotors_e v_now_rotorsF 3, (a_trial, .inr (0, [.int w15, .int w16, .int w8, .int w9, .int w10, .ref a_trial_signs, .ref a_trial_rotors])), (a_trial_signs, .inl (cI, 16, .inl w11)), (a_trial_rotors, rfn cR 4 a_trial_rotors_e), rcell a_trial_rotors_e w17 0, rcell a_trial_rotors_e w17 1, rcell a_trial_rotors_e w17 2, rcell a_trial_rotors_e w17 3] := hD
      refine lv_istore (lv' := [(7, .int r14), (0, .ref a_this), (1, .int x1), (2, .int x2), (3, .int x3), (4, .long x4), (6, .int x6)]) C.1 C.2.1 dX6_mean_65 hl (by decide) rfl (fun ls hl => ?_)
      refine lv_lload C.1 C.2.1 dX6_mean_67 (lv_at hl 5 rfl) ?_
      refine lv_iload C.1 C.2.1 dX6_mean_69 (lv_at hl 0 rfl) ?_
      refine lv_i2l (v := r14.toInt64) C.1 C.2.1 dX6_mean_71 rfl ?_
      refine lv_iload_n C.1 C.2.1 dX6_mean_72 rfl (lv_at hl 2 rfl) ?_
      refine lv_iload_n C.1 C.2.1 dX6_mean_73 rfl (lv_at hl 3 rfl) ?_
      refine lv_iload C.1 C.2.1 dX6_mean_74 (lv_at hl 6 rfl) ?_
      obtain ⟨r19, h20, hF⟩ := fb hF
      refine callSX C hK hA hP hD hS (c_J6_bitCount_0f7a4  h20) cs_J6_bitCount_0f7a4 kw3_76 ⟨Nat.le_of_ble_eq_true rfl, Nat.le_of_ble_eq_true rfl⟩ ⟨Nat.zero_le _, Nat.zero_le _⟩ hl.1 rfl (Nat.le_of_ble_eq_true rfl) dX6_mean_76 (fun H locs hP hD hS => ?_)
      obtain ⟨r21, h22, hF⟩ := fb hF
      refine callSL C hK hA hP hD hS (c_X6_weightOf  h22) cs_X6_weightOf kw3_82 ⟨Nat.le_of_ble_eq_true rfl, Nat.le_of_ble_eq_true rfl⟩ ⟨Nat.zero_le _, Nat.zero_le _⟩ hl.1 rfl (Nat.le_of_ble_eq_true rfl) dX6_mean_79 (fun H locs hP hD hS => ?_)
      refine lv_lmul C.1 C.2.1 dX6_mean_82 ?_
      refine lv_ladd C.1 C.2.1 dX6_mean_83 ?_
      refine lv_lstore (lv' := [(4, .long (x4 + (r14.toInt64 * r21))), (7, .int r14), (0, .ref a_this), (1, .int x1), (2, .int x2), (3, .int x3), (6, .int x6)]) C.1 C.2.1 dX6_mean_84 hl (by decide) rfl (fun ls hl => ?_)
      refine lv_iinc (v := x6 + 1) (lv' := [(6, .int (x6 + 1)), (4, .long (x4 + (r14.toInt64 * r21))), (7, .int r14), (0, .ref a_this), (1, .int x1), (2, .int x2), (3, .int x3)]) C.1 C.2.1 dX6_mean_86 hl (k := 6) rfl rfl (by decide) rfl (fun ls hl => ?_)
      refine lv_goto (tgt := 36) C.1 C.2.1 dX6_mean_89 (by decide) ?_
      exact ih v_now_field v_now_tick v_now_pace v_now_signNumber v_now_rotorNumber v_now_signs v_now_rotorsF w15 w16 w8 w9 w10 w11 w17 x1 x2 x3 (x4 + (r14.toInt64 * r21)) (x6 + 1) _ _ _ hF hP hD hS (lv_sub hl [3, 4, 5, 6, 1, 0] rfl)
set_option maxHeartbeats 4000000 in
set_option maxRecDepth 100000 in
theorem c_X6_mean {l : Launch} {D : va_G} {cI cB cZ cR cM cS : ClassId} {a_this : Nat} {a_tape : Nat} {a_now : Nat} {a_trial : Nat} {a_sights : Nat} {a_images : Nat} {a_sheets : Nat} {a_now_signs : Nat} {a_now_rotors : Nat} {a_now_rotors_e : Nat → Nat} {a_trial_signs : Nat} {a_trial_rotors : Nat} {a_trial_rotors_e : Nat → Nat} {v_readFault : Int32} {v_now_field : Int32} {v_now_tick : Int32} {v_now_pace : Int32} {v_now_signNumber : Int32} {v_now_rotorNumber : Int32} {v_now_signs : Nat → Int32} {v_now_rotorsF : Nat → Rot} {v_trial_field : Int32} {v_trial_tick : Int32} {v_trial_pace : Int32} {v_trial_signNumber : Int32} {v_trial_rotorNumber : Int32} {v_trial_signs : Nat → Int32} {v_trial_rotorsF : Nat → Rot} {x1 : Int32} {x2 : Int32} {x3 : Int32} {r_ : Int64} {v_trial_field' : Int32} {v_trial_tick' : Int32} {v_trial_pace' : Int32} {v_trial_signNumber' : Int32} {v_trial_rotorNumber' : Int32} {v_trial_signs' : Nat → Int32} {v_trial_rotorsF' : Nat → Rot} (hF : F_X6_mean v_now_field v_now_tick v_now_pace v_now_signNumber v_now_rotorNumber v_now_signs v_now_rotorsF v_trial_field v_trial_tick v_trial_pace v_trial_signNumber v_trial_rotorNumber v_trial_signs v_trial_rotorsF x1 x2 x3 = some (r_, v_trial_field', v_trial_tick', v_trial_pace', v_trial_signNumber', v_trial_rotorNumber', v_trial_signs', v_trial_rotorsF')) : ML l yX6_mean cX6_mean 8 rm_X6_mean D (TS cI cB cZ cR cM cS) [.ref a_this, .int x1, .int x2, .int x3] [(a_this, .inr (6, [.ref a_tape, .ref a_now, .ref a_trial, .ref a_sights, .ref a_images, .ref a_sheets, .int v_readFault])), (a_now, .inr (0, [.int v_now_field, .int v_now_tick, .int v_now_pace, .int v_now_signNumber, .int v_now_rotorNumber, .ref a_now_signs, .ref a_now_rotors])), (a_now_signs, .inl (cI, 16, .inl v_now_signs)), (a_now_rotors, rfn cR 4 a_now_rotors_e), rcell a_now_rotors_e v_now_rotorsF 0, rcell a_now_rotors_e v_now_rotorsF 1, rcell a_now_rotors_e v_now_rotorsF 2, rcell a_now_rotors_e v_now_rotorsF 3, (a_trial, .inr (0, [.int v_trial_field, .int v_trial_tick, .int v_trial_pace, .int v_trial_signNumber, .int v_trial_rotorNumber, .ref a_trial_signs, .ref a_trial_rotors])), (a_trial_signs, .inl (cI, 16, .inl v_trial_signs)), (a_trial_rotors, rfn cR 4 a_trial_rotors_e), rcell a_trial_rotors_e v_trial_rotorsF 0, rcell a_trial_rotors_e v_trial_rotorsF 1, rcell a_trial_rotors_e v_trial_rotorsF 2, rcell a_trial_rotors_e v_trial_rotorsF 3] [(a_this, .inr (6, [.ref a_tape, .ref a_now, .ref a_trial, .ref a_sights, .ref a_images, .ref a_sheets, .int v_readFault])), (a_now, .inr (0, [.int v_now_field, .int v_now_tick, .int v_now_pace, .int v_now_signNumber, .int v_now_rotorNumber, .ref a_now_signs, .ref a_now_rotors])), (a_now_signs, .inl (cI, 16, .inl v_now_signs)), (a_now_rotors, rfn cR 4 a_now_rotors_e), rcell a_now_rotors_e v_now_rotorsF 0, rcell a_now_rotors_e v_now_rotorsF 1, rcell a_now_rotors_e v_now_rotorsF 2, rcell a_now_rotors_e v_now_rotorsF 3, (a_trial, .inr (0, [.int v_trial_field', .int v_trial_tick', .int v_trial_pace', .int v_trial_signNumber', .int v_trial_rotorNumber', .ref a_trial_signs, .ref a_trial_rotors])), (a_trial_signs, .inl (cI, 16, .inl v_trial_signs')), (a_trial_rotors, rfn cR 4 a_trial_rotors_e), rcell a_trial_rotors_e v_trial_rotorsF' 0, rcell a_trial_rotors_e v_trial_rotorsF' 1, rcell a_trial_rotors_e v_trial_rotorsF' 2, rcell a_trial_rotors_e v_trial_rotorsF' 3] r_ :=
  ML_of (by decide) (Nat.le_of_ble_eq_true rfl) (fun p e s m args below meth c A ls C hr hlk hK hA hP hD hS hl => by
    have C : CX p m c cX6_mean 8 s args RX6 := C
    have hl : lv_has ls 8 [(0, .ref a_this), (1, .int x1), (2, .int x2), (3, .int x3)] := hl
    unfold F_X6_mean at hF
    refine lv_iload_n C.1 C.2.1 dX6_mean_0 rfl (lv_at hl 1 rfl) ?_
    refine lv_bipush (v := 10) C.1 C.2.1 dX6_mean_1 (by decide) ?_
    obtain ⟨r1, h2, hF⟩ := fb hF
    refine callSI C hK hA hP hD hS (c_X6_within  h2) cs_X6_within kw1_227 ⟨Nat.le_of_ble_eq_true rfl, Nat.le_of_ble_eq_true rfl⟩ ⟨Nat.zero_le _, Nat.zero_le _⟩ hl.1 rfl (Nat.le_of_ble_eq_true rfl) dX6_mean_3 (fun H locs hP hD hS => ?_)
    refine lv_if_eq (tgt := 26) C.1 C.2.1 dX6_mean_6 (by decide) (fun c3 => ?_) (fun c3 => ?_)
    · have hF := fp hF c3
      refine lv_ldc2 (v := -1) C.1 C.2.1 C.2.2.2.1 (C.2.2.2.2 _ kw3_67) dX6_mean_26 ?_
      cases hF
      exact retL C hr hlk hP hD hS dX6_mean_29
    · have hF := fn hF c3
      refine lv_iload_n C.1 C.2.1 dX6_mean_9 rfl (lv_at hl 2 rfl) ?_
      refine lv_bipush (v := 8) C.1 C.2.1 dX6_mean_10 (by decide) ?_
      obtain ⟨r4, h5, hF⟩ := fb hF
      refine callSI C hK hA hP hD hS (c_X6_within  h5) cs_X6_within kw1_227 ⟨Nat.le_of_ble_eq_true rfl, Nat.le_of_ble_eq_true rfl⟩ ⟨Nat.zero_le _, Nat.zero_le _⟩ hl.1 rfl (Nat.le_of_ble_eq_true rfl) dX6_mean_12 (fun H locs hP hD hS => ?_)
      refine lv_if_eq (tgt := 26) C.1 C.2.1 dX6_mean_15 (by decide) (fun c6 => ?_) (fun c6 => ?_)
      · have hF := fp hF c6
        refine lv_ldc2 (v := -1) C.1 C.2.1 C.2.2.2.1 (C.2.2.2.2 _ kw3_67) dX6_mean_26 ?_
        cases hF
        exact retL C hr hlk hP hD hS dX6_mean_29
      · have hF := fn hF c6
        refine lv_iload_n C.1 C.2.1 dX6_mean_18 rfl (lv_at hl 3 rfl) ?_
        refine lv_iconst (v := 1) C.1 C.2.1 dX6_mean_19 (by decide) ?_
        obtain ⟨r7, h8, hF⟩ := fb hF
        refine callSI C hK hA hP hD hS (c_X6_within  h8) cs_X6_within kw1_227 ⟨Nat.le_of_ble_eq_true rfl, Nat.le_of_ble_eq_true rfl⟩ ⟨Nat.zero_le _, Nat.zero_le _⟩ hl.1 rfl (Nat.le_of_ble_eq_true rfl) dX6_mean_20 (fun H locs hP hD hS => ?_)
        refine lv_if_ne (tgt := 30) C.1 C.2.1 dX6_mean_23 (by decide) (fun c9 => ?_) (fun c9 => ?_)
        · have hF := fn hF c9
          refine lv_lconst (v := 0) C.1 C.2.1 dX6_mean_30 rfl ?_
          refine lv_lstore (lv' := [(4, .long (0 : Int64)), (0, .ref a_this), (1, .int x1), (2, .int x2), (3, .int x3)]) C.1 C.2.1 dX6_mean_31 hl (by decide) rfl (fun ls hl => ?_)
          refine lv_iconst (v := 0) C.1 C.2.1 dX6_mean_33 (by decide) ?_
          refine lv_istore (lv' := [(6, .int (0 : Int32)), (4, .long (0 : Int64)), (0, .ref a_this), (1, .int x1), (2, .int x2), (3, .int x3)]) C.1 C.2.1 dX6_mean_34 hl (by decide) rfl (fun ls hl => ?_)
          exact b_X6_mean_36 C hr hlk hK hA FU v_now_field v_now_tick v_now_pace v_now_signNumber v_now_rotorNumber v_now_signs v_now_rotorsF v_trial_field v_trial_tick v_trial_pace v_trial_signNumber v_trial_rotorNumber v_trial_signs v_trial_rotorsF x1 x2 x3 (0 : Int64) (0 : Int32) _ _ _ hF hP hD hS (lv_sub hl [2, 3, 4, 5, 1, 0] rfl)
        · have hF := fp hF c9
          refine lv_ldc2 (v := -1) C.1 C.2.1 C.2.2.2.1 (C.2.2.2.2 _ kw3_67) dX6_mean_26 ?_
          cases hF
          exact retL C hr hlk hP hD hS dX6_mean_29)
def rm_X6_see : Room := { frames := 1, cells := 0, slots := 0, locals := 23 }
theorem cv_X6_see : CV yX6_see cX6_see 4 (some .int) rm_X6_see RX6 3 := ⟨kw3_99, kw3_100, kw1_1, kw3_101, by decide +kernel, rfl, rfl⟩
set_option maxHeartbeats 4000000 in
set_option maxRecDepth 100000 in
theorem c_X6_see {l : Launch} {D : va_G} {cI cB cZ cR cM cS : ClassId} {a_this : Nat} {a_tape : Nat} {a_now : Nat} {a_trial : Nat} {a_sights : Nat} {a_images : Nat} {a_sheets : Nat} {a_now_signs : Nat} {a_now_rotors : Nat} {a_sights_ticksOn : Nat} {a_sights_who : Nat} {a_sights_left : Nat} {v_readFault : Int32} {v_now_field : Int32} {v_now_tick : Int32} {v_now_pace : Int32} {v_now_signNumber : Int32} {v_now_rotorNumber : Int32} {v_sights_number : Int32} {v_sights_ticksOn : Nat → Int32} {v_sights_who : Nat → Int32} {v_sights_left : Nat → Int32} {x1 : Int32} {x2 : Int32} {x3 : Int32} {r_ : Int32} {v_sights_number' : Int32} {v_sights_ticksOn' : Nat → Int32} {v_sights_who' : Nat → Int32} {v_sights_left' : Nat → Int32} (hF : F_X6_see v_now_rotorNumber v_sights_number v_sights_ticksOn v_sights_who v_sights_left x1 x2 x3 = some (r_, v_sights_number', v_sights_ticksOn', v_sights_who', v_sights_left')) : MI l yX6_see cX6_see 4 .int rm_X6_see D (TS cI cB cZ cR cM cS) [.ref a_this, .int x1, .int x2, .int x3] [(a_this, .inr (6, [.ref a_tape, .ref a_now, .ref a_trial, .ref a_sights, .ref a_images, .ref a_sheets, .int v_readFault])), (a_now, .inr (0, [.int v_now_field, .int v_now_tick, .int v_now_pace, .int v_now_signNumber, .int v_now_rotorNumber, .ref a_now_signs, .ref a_now_rotors])), (a_sights, .inr (4, [.int v_sights_number, .ref a_sights_ticksOn, .ref a_sights_who, .ref a_sights_left])), (a_sights_ticksOn, .inl (cI, 6, .inl v_sights_ticksOn)), (a_sights_who, .inl (cI, 6, .inl v_sights_who)), (a_sights_left, .inl (cI, 6, .inl v_sights_left))] [(a_this, .inr (6, [.ref a_tape, .ref a_now, .ref a_trial, .ref a_sights, .ref a_images, .ref a_sheets, .int v_readFault])), (a_now, .inr (0, [.int v_now_field, .int v_now_tick, .int v_now_pace, .int v_now_signNumber, .int v_now_rotorNumber, .ref a_now_signs, .ref a_now_rotors])), (a_sights, .inr (4, [.int v_sights_number', .ref a_sights_ticksOn, .ref a_sights_who, .ref a_sights_left])), (a_sights_ticksOn, .inl (cI, 6, .inl v_sights_ticksOn')), (a_sights_who, .inl (cI, 6, .inl v_sights_who')), (a_sights_left, .inl (cI, 6, .inl v_sights_left'))] r_ :=
  MI_of (by decide) (Nat.le_of_ble_eq_true rfl) (fun p e s m args below meth c A ls C hr hlk hK hA hP hD hS hl => by
    have C : CX p m c cX6_see 4 s args RX6 := C
    have hl : lv_has ls 4 [(0, .ref a_this), (1, .int x1), (2, .int x2), (3, .int x3)] := hl
    unfold F_X6_see at hF
    refine lv_iload_n C.1 C.2.1 dX6_see_0 rfl (lv_at hl 1 rfl) ?_
    refine lv_bipush (v := 40) C.1 C.2.1 dX6_see_1 (by decide) ?_
    obtain ⟨r1, h2, hF⟩ := fb hF
    refine callSI C hK hA hP hD hS (c_X6_within  h2) cs_X6_within kw1_227 ⟨Nat.le_of_ble_eq_true rfl, Nat.le_of_ble_eq_true rfl⟩ ⟨Nat.zero_le _, Nat.zero_le _⟩ hl.1 rfl (Nat.le_of_ble_eq_true rfl) dX6_see_3 (fun H locs hP hD hS => ?_)
    refine lv_if_eq (tgt := 26) C.1 C.2.1 dX6_see_6 (by decide) (fun c3 => ?_) (fun c3 => ?_)
    · have hF := fp hF c3
      refine lv_iconst (v := (-1)) C.1 C.2.1 dX6_see_26 (by decide) ?_
      cases hF
      exact retI C hr hlk hP hD hS dX6_see_27
    · have hF := fn hF c3
      refine lv_aload_n C.1 C.2.1 dX6_see_9 rfl (lv_at hl 0 rfl) ?_
      refine lv_iload_n C.1 C.2.1 dX6_see_10 rfl (lv_at hl 2 rfl) ?_
      obtain ⟨r4, h5, hF⟩ := fb hF
      refine callVI C hK hA hP hD hS [0, 1] (c_X6_hasRotor (a_this := a_this) (a_tape := a_tape) (a_now := a_now) (a_trial := a_trial) (a_sights := a_sights) (a_images := a_images) (a_sheets := a_sheets) (a_now_signs := a_now_signs) (a_now_rotors := a_now_rotors) (v_readFault := v_readFault) (v_now_field := v_now_field) (v_now_tick := v_now_tick) (v_now_pace := v_now_pace) (v_now_signNumber := v_now_signNumber) (v_now_rotorNumber := v_now_rotorNumber) h5) cv_X6_hasRotor kw2_172 rfl (by decide) rfl rfl rfl ⟨Nat.le_of_ble_eq_true rfl, Nat.le_of_ble_eq_true rfl⟩ ⟨Nat.zero_le _, Nat.zero_le _⟩ hl.1 rfl (Nat.le_of_ble_eq_true rfl) dX6_see_11 (fun H locs hP hD hS => ?_)
      have hP : va_P D vwCl [(a_this, .inr (6, [.ref a_tape, .ref a_now, .ref a_trial, .ref a_sights, .ref a_images, .ref a_sheets, .int v_readFault])), (a_now, .inr (0, [.int v_now_field, .int v_now_tick, .int v_now_pace, .int v_now_signNumber, .int v_now_rotorNumber, .ref a_now_signs, .ref a_now_rotors])), (a_sights, .inr (4, [.int v_sights_number, .ref a_sights_ticksOn, .ref a_sights_who, .ref a_sights_left])), (a_sights_ticksOn, .inl (cI, 6, .inl v_sights_ticksOn)), (a_sights_who, .inl (cI, 6, .inl v_sights_who)), (a_sights_left, .inl (cI, 6, .inl v_sights_left))] H := hP
      have hD : va_D A [(a_this, .inr (6, [.ref a_tape, .ref a_now, .ref a_trial, .ref a_sights, .ref a_images, .ref a_sheets, .int v_readFault])), (a_now, .inr (0, [.int v_now_field, .int v_now_tick, .int v_now_pace, .int v_now_signNumber, .int v_now_rotorNumber, .ref a_now_signs, .ref a_now_rotors])), (a_sights, .inr (4, [.int v_sights_number, .ref a_sights_ticksOn, .ref a_sights_who, .ref a_sights_left])), (a_sights_ticksOn, .inl (cI, 6, .inl v_sights_ticksOn)), (a_sights_who, .inl (cI, 6, .inl v_sights_who)), (a_sights_left, .inl (cI, 6, .inl v_sights_left))] := hD
      refine lv_if_eq (tgt := 26) C.1 C.2.1 dX6_see_14 (by decide) (fun c6 => ?_) (fun c6 => ?_)
      · have hF := fp hF c6
        refine lv_iconst (v := (-1)) C.1 C.2.1 dX6_see_26 (by decide) ?_
        cases hF
        exact retI C hr hlk hP hD hS dX6_see_27
      · have hF := fn hF c6
        refine lv_iload_n C.1 C.2.1 dX6_see_17 rfl (lv_at hl 3 rfl) ?_
        refine lv_bipush (v := 7) C.1 C.2.1 dX6_see_18 (by decide) ?_
        obtain ⟨r7, h8, hF⟩ := fb hF
        refine callSI C hK hA hP hD hS (c_X6_within  h8) cs_X6_within kw1_227 ⟨Nat.le_of_ble_eq_true rfl, Nat.le_of_ble_eq_true rfl⟩ ⟨Nat.zero_le _, Nat.zero_le _⟩ hl.1 rfl (Nat.le_of_ble_eq_true rfl) dX6_see_20 (fun H locs hP hD hS => ?_)
        refine lv_if_ne (tgt := 28) C.1 C.2.1 dX6_see_23 (by decide) (fun c9 => ?_) (fun c9 => ?_)
        · have hF := fn hF c9
          refine lv_aload_n C.1 C.2.1 dX6_see_28 rfl (lv_at hl 0 rfl) ?_
          refine gf_6_6_sights C hK hP 0 rfl rfl dX6_see_29 ?_
          refine lv_iload_n C.1 C.2.1 dX6_see_32 rfl (lv_at hl 1 rfl) ?_
          refine lv_iload_n C.1 C.2.1 dX6_see_33 rfl (lv_at hl 2 rfl) ?_
          refine lv_iload_n C.1 C.2.1 dX6_see_34 rfl (lv_at hl 3 rfl) ?_
          obtain ⟨⟨r10, w11, w12, w13, w14⟩, h15, hF⟩ := fb hF
          refine callVI C hK hA hP hD hS [2, 3, 4, 5] (c_X4_note (a_this := a_sights) (a_ticksOn := a_sights_ticksOn) (a_who := a_sights_who) (a_left := a_sights_left) (v_number := v_sights_number) (v_ticksOn := v_sights_ticksOn) (v_who := v_sights_who) (v_left := v_sights_left) h15) cv_X4_note kw3_102 rfl (by decide) rfl rfl rfl ⟨Nat.le_of_ble_eq_true rfl, Nat.le_of_ble_eq_true rfl⟩ ⟨Nat.zero_le _, Nat.zero_le _⟩ hl.1 rfl (Nat.le_of_ble_eq_true rfl) dX6_see_35 (fun H locs hP hD hS => ?_)
          have hP : va_P D vwCl [(a_this, .inr (6, [.ref a_tape, .ref a_now, .ref a_trial, .ref a_sights, .ref a_images, .ref a_sheets, .int v_readFault])), (a_now, .inr (0, [.int v_now_field, .int v_now_tick, .int v_now_pace, .int v_now_signNumber, .int v_now_rotorNumber, .ref a_now_signs, .ref a_now_rotors])), (a_sights, .inr (4, [.int w11, .ref a_sights_ticksOn, .ref a_sights_who, .ref a_sights_left])), (a_sights_ticksOn, .inl (cI, 6, .inl w12)), (a_sights_who, .inl (cI, 6, .inl w13)), (a_sights_left, .inl (cI, 6, .inl w14))] H := hP
          have hD : va_D A [(a_this, .inr (6, [.ref a_tape, .ref a_now, .ref a_trial, .ref a_sights, .ref a_images, .ref a_sheets, .int v_readFault])), (a_now, .inr (0, [.int v_now_field, .int v_now_tick, .int v_now_pace, .int v_now_signNumber, .int v_now_rotorNumber, .ref a_now_signs, .ref a_now_rotors])), (a_sights, .inr (4, [.int w11, .ref a_sights_ticksOn, .ref a_sights_who, .ref a_sights_left])), (a_sights_ticksOn, .inl (cI, 6, .inl w12)), (a_sights_who, .inl (cI, 6, .inl w13)), (a_sights_left, .inl (cI, 6, .inl w14))] := hD
          refine lv_if_eq (tgt := 51) C.1 C.2.1 dX6_see_38 (by decide) (fun c16 => ?_) (fun c16 => ?_)
          · have hF := fp hF c16
            refine lv_bipush (v := (-3)) C.1 C.2.1 dX6_see_51 (by decide) ?_
            cases hF
            exact retI C hr hlk hP hD hS dX6_see_53
          · have hF := fn hF c16
            refine lv_aload_n C.1 C.2.1 dX6_see_41 rfl (lv_at hl 0 rfl) ?_
            refine gf_6_6_sights C hK hP 0 rfl rfl dX6_see_42 ?_
            refine gf_6_4_number C hK hP 2 rfl rfl dX6_see_45 ?_
            refine lv_goto (tgt := 53) C.1 C.2.1 dX6_see_48 (by decide) ?_
            cases hF
            exact retI C hr hlk hP hD hS dX6_see_53
        · have hF := fp hF c9
          refine lv_iconst (v := (-1)) C.1 C.2.1 dX6_see_26 (by decide) ?_
          cases hF
          exact retI C hr hlk hP hD hS dX6_see_27)
def rm_X6_forget : Room := { frames := 1, cells := 0, slots := 0, locals := 21 }
theorem cv_X6_forget : CV yX6_forget cX6_forget 3 (some .int) rm_X6_forget RX6 1 := ⟨kw3_107, kw3_108, kw1_1, kw3_109, by decide +kernel, rfl, rfl⟩
set_option maxHeartbeats 4000000 in
set_option maxRecDepth 100000 in
theorem c_X6_forget {l : Launch} {D : va_G} {cI cB cZ cR cM cS : ClassId} {a_this : Nat} {a_tape : Nat} {a_now : Nat} {a_trial : Nat} {a_sights : Nat} {a_images : Nat} {a_sheets : Nat} {a_sights_ticksOn : Nat} {a_sights_who : Nat} {a_sights_left : Nat} {v_readFault : Int32} {v_sights_number : Int32} {x1 : Int32} {r_ : Int32} {v_sights_number' : Int32} (hF : F_X6_forget v_sights_number x1 = some (r_, v_sights_number')) : MI l yX6_forget cX6_forget 3 .int rm_X6_forget D (TS cI cB cZ cR cM cS) [.ref a_this, .int x1] [(a_this, .inr (6, [.ref a_tape, .ref a_now, .ref a_trial, .ref a_sights, .ref a_images, .ref a_sheets, .int v_readFault])), (a_sights, .inr (4, [.int v_sights_number, .ref a_sights_ticksOn, .ref a_sights_who, .ref a_sights_left]))] [(a_this, .inr (6, [.ref a_tape, .ref a_now, .ref a_trial, .ref a_sights, .ref a_images, .ref a_sheets, .int v_readFault])), (a_sights, .inr (4, [.int v_sights_number', .ref a_sights_ticksOn, .ref a_sights_who, .ref a_sights_left]))] r_ :=
  MI_of (by decide) (Nat.le_of_ble_eq_true rfl) (fun p e s m args below meth c A ls C hr hlk hK hA hP hD hS hl => by
    have C : CX p m c cX6_forget 3 s args RX6 := C
    have hl : lv_has ls 3 [(0, .ref a_this), (1, .int x1)] := hl
    unfold F_X6_forget at hF
    refine lv_iload_n C.1 C.2.1 dX6_forget_0 rfl (lv_at hl 1 rfl) ?_
    refine lv_aload_n C.1 C.2.1 dX6_forget_1 rfl (lv_at hl 0 rfl) ?_
    refine gf_6_6_sights C hK hP 0 rfl rfl dX6_forget_2 ?_
    refine gf_6_4_number C hK hP 1 rfl rfl dX6_forget_5 ?_
    obtain ⟨r1, h2, hF⟩ := fb hF
    refine callSI C hK hA hP hD hS (c_X6_within  h2) cs_X6_within kw1_227 ⟨Nat.le_of_ble_eq_true rfl, Nat.le_of_ble_eq_true rfl⟩ ⟨Nat.zero_le _, Nat.zero_le _⟩ hl.1 rfl (Nat.le_of_ble_eq_true rfl) dX6_forget_8 (fun H locs hP hD hS => ?_)
    refine lv_if_ne (tgt := 16) C.1 C.2.1 dX6_forget_11 (by decide) (fun c3 => ?_) (fun c3 => ?_)
    · have hF := fn hF c3
      refine lv_aload_n C.1 C.2.1 dX6_forget_16 rfl (lv_at hl 0 rfl) ?_
      refine gf_6_6_sights C hK hP 0 rfl rfl dX6_forget_17 ?_
      refine gf_6_4_number C hK hP 1 rfl rfl dX6_forget_20 ?_
      refine lv_istore_n (lv' := [(2, .int v_sights_number), (0, .ref a_this), (1, .int x1)]) C.1 C.2.1 dX6_forget_23 rfl hl (by decide) rfl (fun ls hl => ?_)
      refine lv_aload_n C.1 C.2.1 dX6_forget_24 rfl (lv_at hl 1 rfl) ?_
      refine gf_6_6_sights C hK hP 0 rfl rfl dX6_forget_25 ?_
      refine lv_iload_n C.1 C.2.1 dX6_forget_28 rfl (lv_at hl 2 rfl) ?_
      refine pf_6_4_number C hK hP hD hS 1 rfl rfl dX6_forget_29 (fun H locs hP hD hS => ?_)
      have hP : va_P D vwCl [(a_this, .inr (6, [.ref a_tape, .ref a_now, .ref a_trial, .ref a_sights, .ref a_images, .ref a_sheets, .int v_readFault])), (a_sights, .inr (4, [.int x1, .ref a_sights_ticksOn, .ref a_sights_who, .ref a_sights_left]))] H := hP
      have hD : va_D A [(a_this, .inr (6, [.ref a_tape, .ref a_now, .ref a_trial, .ref a_sights, .ref a_images, .ref a_sheets, .int v_readFault])), (a_sights, .inr (4, [.int x1, .ref a_sights_ticksOn, .ref a_sights_who, .ref a_sights_left]))] := hD
      refine lv_iload_n C.1 C.2.1 dX6_forget_32 rfl (lv_at hl 0 rfl) ?_
      cases hF
      exact retI C hr hlk hP hD hS dX6_forget_33
    · have hF := fp hF c3
      refine lv_iconst (v := (-1)) C.1 C.2.1 dX6_forget_14 (by decide) ?_
      cases hF
      exact retI C hr hlk hP hD hS dX6_forget_15)
