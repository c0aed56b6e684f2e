def rm_X6_canSet : Room := { frames := 1, cells := 0, slots := 0, locals := 21 }
theorem cv_X6_canSet : CV yX6_canSet cX6_canSet 3 (some .boolean) rm_X6_canSet RX6 2 := ⟨kw2_201, kwp_15, kw1_1, kw2_202, by decide +kernel, rfl, rfl⟩
set_option maxHeartbeats 4000000 in
set_option maxRecDepth 100000 in
theorem c_X6_canSet {l : Launch} {D : va_G} {cI cB cZ cR cM cS : ClassId} {a_this : Nat} {a_tape : Nat} {a_now : Nat} {a_trial : Nat} {a_sights : Nat} {a_images : Nat} {a_sheets : Nat} {a_now_signs : Nat} {a_now_rotors : Nat} {v_readFault : Int32} {v_now_field : Int32} {v_now_tick : Int32} {v_now_pace : Int32} {v_now_signNumber : Int32} {v_now_rotorNumber : Int32} {x1 : Int32} {x2 : Int32} {r_ : Int32} (hF : F_X6_canSet v_now_signNumber x1 x2 = some r_) : MI l yX6_canSet cX6_canSet 3 .boolean rm_X6_canSet D (TS cI cB cZ cR cM cS) [.ref a_this, .int x1, .int x2] [(a_this, .inr (6, [.ref a_tape, .ref a_now, .ref a_trial, .ref a_sights, .ref a_images, .ref a_sheets, .int v_readFault])), (a_now, .inr (0, [.int v_now_field, .int v_now_tick, .int v_now_pace, .int v_now_signNumber, .int v_now_rotorNumber, .ref a_now_signs, .ref a_now_rotors]))] [(a_this, .inr (6, [.ref a_tape, .ref a_now, .ref a_trial, .ref a_sights, .ref a_images, .ref a_sheets, .int v_readFault])), (a_now, .inr (0, [.int v_now_field, .int v_now_tick, .int v_now_pace, .int v_now_signNumber, .int v_now_rotorNumber, .ref a_now_signs, .ref a_now_rotors]))] r_ :=
  MI_of (by decide) (Nat.le_of_ble_eq_true rfl) (fun p e s m args below meth c A ls C hr hlk hK hA hP hD hS hl => by
    have C : CX p m c cX6_canSet 3 s args RX6 := C
    have hl : lv_has ls 3 [(0, .ref a_this), (1, .int x1), (2, .int x2)] := hl
    unfold F_X6_canSet at hF
    refine lv_aload_n C.1 C.2.1 dX6_canSet_0 rfl (lv_at hl 0 rfl) ?_
    refine lv_iload_n C.1 C.2.1 dX6_canSet_1 rfl (lv_at hl 1 rfl) ?_
    obtain ⟨r1, h2, hF⟩ := fb hF
    refine callVI C hK hA hP hD hS [0, 1] (c_X6_hasSign (a_this := a_this) (a_tape := a_tape) (a_now := a_now) (a_trial := a_trial) (a_sights := a_sights) (a_images := a_images) (a_sheets := a_sheets) (a_now_signs := a_now_signs) (a_now_rotors := a_now_rotors) (v_readFault := v_readFault) (v_now_field := v_now_field) (v_now_tick := v_now_tick) (v_now_pace := v_now_pace) (v_now_signNumber := v_now_signNumber) (v_now_rotorNumber := v_now_rotorNumber) h2) cv_X6_hasSign kw2_182 rfl (by decide) rfl rfl rfl ⟨Nat.le_of_ble_eq_true rfl, Nat.le_of_ble_eq_true rfl⟩ ⟨Nat.zero_le _, Nat.zero_le _⟩ hl.1 rfl (Nat.le_of_ble_eq_true rfl) dX6_canSet_2 (fun H locs hP hD hS => ?_)
    have hP : va_P D vwCl [(a_this, .inr (6, [.ref a_tape, .ref a_now, .ref a_trial, .ref a_sights, .ref a_images, .ref a_sheets, .int v_readFault])), (a_now, .inr (0, [.int v_now_field, .int v_now_tick, .int v_now_pace, .int v_now_signNumber, .int v_now_rotorNumber, .ref a_now_signs, .ref a_now_rotors]))] H := hP
    have hD : va_D A [(a_this, .inr (6, [.ref a_tape, .ref a_now, .ref a_trial, .ref a_sights, .ref a_images, .ref a_sheets, .int v_readFault])), (a_now, .inr (0, [.int v_now_field, .int v_now_tick, .int v_now_pace, .int v_now_signNumber, .int v_now_rotorNumber, .ref a_now_signs, .ref a_now_rotors]))] := hD
    refine lv_if_eq (tgt := 20) C.1 C.2.1 dX6_canSet_5 (by decide) (fun c3 => ?_) (fun c3 => ?_)
    · have hF := fp hF c3
      refine lv_iconst (v := 0) C.1 C.2.1 dX6_canSet_20 (by decide) ?_
      cases hF
      exact retZ C hr hlk (by decide) hP hD hS dX6_canSet_21
    · have hF := fn hF c3
      refine lv_iload_n C.1 C.2.1 dX6_canSet_8 rfl (lv_at hl 2 rfl) ?_
      refine lv_iconst (v := 3) C.1 C.2.1 dX6_canSet_9 (by decide) ?_
      obtain ⟨r4, h5, hF⟩ := fb hF
      refine callSI C hK hA hP hD hS (c_X6_within  h5) cs_X6_within kw1_227 ⟨Nat.le_of_ble_eq_true rfl, Nat.le_of_ble_eq_true rfl⟩ ⟨Nat.zero_le _, Nat.zero_le _⟩ hl.1 rfl (Nat.le_of_ble_eq_true rfl) dX6_canSet_10 (fun H locs hP hD hS => ?_)
      refine lv_if_eq (tgt := 20) C.1 C.2.1 dX6_canSet_13 (by decide) (fun c6 => ?_) (fun c6 => ?_)
      · have hF := fp hF c6
        refine lv_iconst (v := 0) C.1 C.2.1 dX6_canSet_20 (by decide) ?_
        cases hF
        exact retZ C hr hlk (by decide) hP hD hS dX6_canSet_21
      · have hF := fn hF c6
        refine lv_iconst (v := 1) C.1 C.2.1 dX6_canSet_16 (by decide) ?_
        refine lv_goto (tgt := 21) C.1 C.2.1 dX6_canSet_17 (by decide) ?_
        cases hF
        exact retZ C hr hlk (by decide) hP hD hS dX6_canSet_21)
def rm_X6_set : Room := { frames := 2, cells := 0, slots := 0, locals := 43 }
theorem cv_X6_set : CV yX6_set cX6_set 4 (some .int) rm_X6_set RX6 2 := ⟨kw2_196, kw2_197, kw1_1, kw2_198, by decide +kernel, rfl, rfl⟩
set_option maxHeartbeats 4000000 in
set_option maxRecDepth 100000 in
theorem c_X6_set {l : Launch} {D : va_G} {cI cB cZ cR cM cS : ClassId} {a_this : Nat} {a_tape : Nat} {a_now : Nat} {a_trial : Nat} {a_sights : Nat} {a_images : Nat} {a_sheets : Nat} {a_now_signs : Nat} {a_now_rotors : Nat} {v_readFault : Int32} {v_now_field : Int32} {v_now_tick : Int32} {v_now_pace : Int32} {v_now_signNumber : Int32} {v_now_rotorNumber : Int32} {v_now_signs : Nat → Int32} {x1 : Int32} {x2 : Int32} {r_ : Int32} {v_now_signs' : Nat → Int32} (hF : F_X6_set v_now_signNumber v_now_signs x1 x2 = some (r_, v_now_signs')) : MI l yX6_set cX6_set 4 .int rm_X6_set D (TS cI cB cZ cR cM cS) [.ref a_this, .int x1, .int x2] [(a_this, .inr (6, [.ref a_tape, .ref a_now, .ref a_trial, .ref a_sights, .ref a_images, .ref a_sheets, .int v_readFault])), (a_now, .inr (0, [.int v_now_field, .int v_now_tick, .int v_now_pace, .int v_now_signNumber, .int v_now_rotorNumber, .ref a_now_signs, .ref a_now_rotors])), (a_now_signs, .inl (cI, 16, .inl v_now_signs))] [(a_this, .inr (6, [.ref a_tape, .ref a_now, .ref a_trial, .ref a_sights, .ref a_images, .ref a_sheets, .int v_readFault])), (a_now, .inr (0, [.int v_now_field, .int v_now_tick, .int v_now_pace, .int v_now_signNumber, .int v_now_rotorNumber, .ref a_now_signs, .ref a_now_rotors])), (a_now_signs, .inl (cI, 16, .inl v_now_signs'))] r_ :=
  MI_of (by decide) (Nat.le_of_ble_eq_true rfl) (fun p e s m args below meth c A ls C hr hlk hK hA hP hD hS hl => by
    have C : CX p m c cX6_set 4 s args RX6 := C
    have hl : lv_has ls 4 [(0, .ref a_this), (1, .int x1), (2, .int x2)] := hl
    unfold F_X6_set at hF
    refine lv_aload_n C.1 C.2.1 dX6_set_0 rfl (lv_at hl 0 rfl) ?_
    refine lv_iload_n C.1 C.2.1 dX6_set_1 rfl (lv_at hl 1 rfl) ?_
    refine lv_iload_n C.1 C.2.1 dX6_set_2 rfl (lv_at hl 2 rfl) ?_
    obtain ⟨r1, h2, hF⟩ := fb hF
    refine callVI C hK hA hP hD hS [0, 1] (c_X6_canSet (a_this := a_this) (a_tape := a_tape) (a_now := a_now) (a_trial := a_trial) (a_sights := a_sights) (a_images := a_images) (a_sheets := a_sheets) (a_now_signs := a_now_signs) (a_now_rotors := a_now_rotors) (v_readFault := v_readFault) (v_now_field := v_now_field) (v_now_tick := v_now_tick) (v_now_pace := v_now_pace) (v_now_signNumber := v_now_signNumber) (v_now_rotorNumber := v_now_rotorNumber) h2) cv_X6_canSet kw2_199 rfl (by decide) rfl rfl rfl ⟨Nat.le_of_ble_eq_true rfl, Nat.le_of_ble_eq_true rfl⟩ ⟨Nat.zero_le _, Nat.zero_le _⟩ hl.1 rfl (Nat.le_of_ble_eq_true rfl) dX6_set_3 (fun H locs hP hD hS => ?_)
    have hP : va_P D vwCl [(a_this, .inr (6, [.ref a_tape, .ref a_now, .ref a_trial, .ref a_sights, .ref a_images, .ref a_sheets, .int v_readFault])), (a_now, .inr (0, [.int v_now_field, .int v_now_tick, .int v_now_pace, .int v_now_signNumber, .int v_now_rotorNumber, .ref a_now_signs, .ref a_now_rotors])), (a_now_signs, .inl (cI, 16, .inl v_now_signs))] H := hP
    have hD : va_D A [(a_this, .inr (6, [.ref a_tape, .ref a_now, .ref a_trial, .ref a_sights, .ref a_images, .ref a_sheets, .int v_readFault])), (a_now, .inr (0, [.int v_now_field, .int v_now_tick, .int v_now_pace, .int v_now_signNumber, .int v_now_rotorNumber, .ref a_now_signs, .ref a_now_rotors])), (a_now_signs, .inl (cI, 16, .inl v_now_signs))] := hD
    refine lv_if_ne (tgt := 11) C.1 C.2.1 dX6_set_6 (by decide) (fun c3 => ?_) (fun c3 => ?_)
    · have hF := fn hF c3
      refine lv_aload_n C.1 C.2.1 dX6_set_11 rfl (lv_at hl 0 rfl) ?_
      refine gf_6_6_now C hK hP 0 rfl rfl dX6_set_12 ?_
      refine gf_6_0_signs C hK hP 1 rfl rfl dX6_set_15 ?_
      refine lv_iload_n C.1 C.2.1 dX6_set_18 rfl (lv_at hl 1 rfl) ?_
      obtain ⟨h4, hF⟩ := fk hF
      refine va_iald C.1 C.2.1 hK.1 hP 2 0 rfl rfl h4 dX6_set_19 ?_
      refine lv_istore_n (lv' := [(3, .int (v_now_signs x1.toNatClampNeg)), (0, .ref a_this), (1, .int x1), (2, .int x2)]) C.1 C.2.1 dX6_set_20 rfl hl (by decide) rfl (fun ls hl => ?_)
      refine lv_aload_n C.1 C.2.1 dX6_set_21 rfl (lv_at hl 1 rfl) ?_
      refine gf_6_6_now C hK hP 0 rfl rfl dX6_set_22 ?_
      refine gf_6_0_signs C hK hP 1 rfl rfl dX6_set_25 ?_
      refine lv_iload_n C.1 C.2.1 dX6_set_28 rfl (lv_at hl 2 rfl) ?_
      refine lv_iload_n C.1 C.2.1 dX6_set_29 rfl (lv_at hl 3 rfl) ?_
      obtain ⟨h5, hF⟩ := fk hF
      refine va_iast C.1 C.2.1 hK.1 hP hD hS 2 0 rfl rfl h5 dX6_set_30 (fun H locs hP hD hS => ?_)
      have hP : va_P D vwCl [(a_this, .inr (6, [.ref a_tape, .ref a_now, .ref a_trial, .ref a_sights, .ref a_images, .ref a_sheets, .int v_readFault])), (a_now, .inr (0, [.int v_now_field, .int v_now_tick, .int v_now_pace, .int v_now_signNumber, .int v_now_rotorNumber, .ref a_now_signs, .ref a_now_rotors])), (a_now_signs, .inl (cI, 16, .inl (upd v_now_signs x1.toNatClampNeg x2)))] H := hP
      have hD : va_D A [(a_this, .inr (6, [.ref a_tape, .ref a_now, .ref a_trial, .ref a_sights, .ref a_images, .ref a_sheets, .int v_readFault])), (a_now, .inr (0, [.int v_now_field, .int v_now_tick, .int v_now_pace, .int v_now_signNumber, .int v_now_rotorNumber, .ref a_now_signs, .ref a_now_rotors])), (a_now_signs, .inl (cI, 16, .inl (upd v_now_signs x1.toNatClampNeg x2)))] := hD
      refine lv_iload_n C.1 C.2.1 dX6_set_31 rfl (lv_at hl 0 rfl) ?_
      cases hF
      exact retI C hr hlk hP hD hS dX6_set_32
    · have hF := fp hF c3
      refine lv_iconst (v := (-1)) C.1 C.2.1 dX6_set_9 (by decide) ?_
      cases hF
      exact retI C hr hlk hP hD hS dX6_set_10)
def rm_X6_every : Room := { frames := 0, cells := 0, slots := 0, locals := 0 }
theorem cv_X6_every : CV yX6_every cX6_every 3 (some .int) rm_X6_every RX6 1 := ⟨kw2_204, kw2_205, kw1_1, kw2_206, by decide +kernel, rfl, rfl⟩
set_option maxHeartbeats 4000000 in
set_option maxRecDepth 100000 in
theorem c_X6_every {l : Launch} {D : va_G} {cI cB cZ cR cM cS : ClassId} {a_this : Nat} {a_tape : Nat} {a_now : Nat} {a_trial : Nat} {a_sights : Nat} {a_images : Nat} {a_sheets : Nat} {a_now_signs : Nat} {a_now_rotors : Nat} {v_readFault : Int32} {v_now_field : Int32} {v_now_tick : Int32} {v_now_pace : Int32} {v_now_signNumber : Int32} {v_now_rotorNumber : Int32} {x1 : Int32} {r_ : Int32} {v_now_pace' : Int32} (hF : F_X6_every v_now_pace x1 = some (r_, v_now_pace')) : MI l yX6_every cX6_every 3 .int rm_X6_every D (TS cI cB cZ cR cM cS) [.ref a_this, .int x1] [(a_this, .inr (6, [.ref a_tape, .ref a_now, .ref a_trial, .ref a_sights, .ref a_images, .ref a_sheets, .int v_readFault])), (a_now, .inr (0, [.int v_now_field, .int v_now_tick, .int v_now_pace, .int v_now_signNumber, .int v_now_rotorNumber, .ref a_now_signs, .ref a_now_rotors]))] [(a_this, .inr (6, [.ref a_tape, .ref a_now, .ref a_trial, .ref a_sights, .ref a_images, .ref a_sheets, .int v_readFault])), (a_now, .inr (0, [.int v_now_field, .int v_now_tick, .int v_now_pace', .int v_now_signNumber, .int v_now_rotorNumber, .ref a_now_signs, .ref a_now_rotors]))] r_ :=
  MI_of (by decide) (Nat.le_of_ble_eq_true rfl) (fun p e s m args below meth c A ls C hr hlk hK hA hP hD hS hl => by
    have C : CX p m c cX6_every 3 s args RX6 := C
    have hl : lv_has ls 3 [(0, .ref a_this), (1, .int x1)] := hl
    unfold F_X6_every at hF
    refine lv_iload_n C.1 C.2.1 dX6_every_0 rfl (lv_at hl 1 rfl) ?_
    refine lv_iconst (v := 1) C.1 C.2.1 dX6_every_1 (by decide) ?_
    refine lv_icmp_lt (tgt := 11) C.1 C.2.1 dX6_every_2 (by decide) (fun c1 => ?_) (fun c1 => ?_)
    · have hF := fp hF c1
      refine lv_iconst (v := (-1)) C.1 C.2.1 dX6_every_11 (by decide) ?_
      cases hF
      exact retI C hr hlk hP hD hS dX6_every_12
    · have hF := fn hF c1
      refine lv_iload_n C.1 C.2.1 dX6_every_5 rfl (lv_at hl 1 rfl) ?_
      refine lv_bipush (v := 9) C.1 C.2.1 dX6_every_6 (by decide) ?_
      refine lv_icmp_le (tgt := 13) C.1 C.2.1 dX6_every_8 (by decide) (fun c2 => ?_) (fun c2 => ?_)
      · have hF := fp hF c2
        refine lv_aload_n C.1 C.2.1 dX6_every_13 rfl (lv_at hl 0 rfl) ?_
        refine gf_6_6_now C hK hP 0 rfl rfl dX6_every_14 ?_
        refine gf_6_0_pace C hK hP 1 rfl rfl dX6_every_17 ?_
        refine lv_istore_n (lv' := [(2, .int v_now_pace), (0, .ref a_this), (1, .int x1)]) C.1 C.2.1 dX6_every_20 rfl hl (by decide) rfl (fun ls hl => ?_)
        refine lv_aload_n C.1 C.2.1 dX6_every_21 rfl (lv_at hl 1 rfl) ?_
        refine gf_6_6_now C hK hP 0 rfl rfl dX6_every_22 ?_
        refine lv_iload_n C.1 C.2.1 dX6_every_25 rfl (lv_at hl 2 rfl) ?_
        refine pf_6_0_pace C hK hP hD hS 1 rfl rfl dX6_every_26 (fun H locs hP hD hS => ?_)
        have hP : va_P D vwCl [(a_this, .inr (6, [.ref a_tape, .ref a_now, .ref a_trial, .ref a_sights, .ref a_images, .ref a_sheets, .int v_readFault])), (a_now, .inr (0, [.int v_now_field, .int v_now_tick, .int x1, .int v_now_signNumber, .int v_now_rotorNumber, .ref a_now_signs, .ref a_now_rotors]))] H := hP
        have hD : va_D A [(a_this, .inr (6, [.ref a_tape, .ref a_now, .ref a_trial, .ref a_sights, .ref a_images, .ref a_sheets, .int v_readFault])), (a_now, .inr (0, [.int v_now_field, .int v_now_tick, .int x1, .int v_now_signNumber, .int v_now_rotorNumber, .ref a_now_signs, .ref a_now_rotors]))] := hD
        refine lv_iload_n C.1 C.2.1 dX6_every_29 rfl (lv_at hl 0 rfl) ?_
        cases hF
        exact retI C hr hlk hP hD hS dX6_every_30
      · have hF := fn hF c2
        refine lv_iconst (v := (-1)) C.1 C.2.1 dX6_every_11 (by decide) ?_
        cases hF
        exact retI C hr hlk hP hD hS dX6_every_12)
def rm_X6_add : Room := { frames := 1, cells := 0, slots := 0, locals := 21 }
theorem cv_X6_add : CV yX6_add cX6_add 2 (some .int) rm_X6_add RX6 1 := ⟨kw2_208, kw2_209, kw1_1, kw2_210, by decide +kernel, rfl, rfl⟩
set_option maxHeartbeats 4000000 in
set_option maxRecDepth 100000 in
theorem c_X6_add {l : Launch} {D : va_G} {cI cB cZ cR cM cS : ClassId} {a_this : Nat} {a_tape : Nat} {a_now : Nat} {a_trial : Nat} {a_sights : Nat} {a_images : Nat} {a_sheets : Nat} {a_now_signs : Nat} {a_now_rotors : Nat} {v_readFault : Int32} {v_now_field : Int32} {v_now_tick : Int32} {v_now_pace : Int32} {v_now_signNumber : Int32} {v_now_rotorNumber : Int32} {v_now_signs : Nat → Int32} {x1 : Int32} {r_ : Int32} {v_now_signNumber' : Int32} {v_now_signs' : Nat → Int32} (hF : F_X6_add v_now_signNumber v_now_signs x1 = some (r_, v_now_signNumber', v_now_signs')) : MI l yX6_add cX6_add 2 .int rm_X6_add D (TS cI cB cZ cR cM cS) [.ref a_this, .int x1] [(a_this, .inr (6, [.ref a_tape, .ref a_now, .ref a_trial, .ref a_sights, .ref a_images, .ref a_sheets, .int v_readFault])), (a_now, .inr (0, [.int v_now_field, .int v_now_tick, .int v_now_pace, .int v_now_signNumber, .int v_now_rotorNumber, .ref a_now_signs, .ref a_now_rotors])), (a_now_signs, .inl (cI, 16, .inl v_now_signs))] [(a_this, .inr (6, [.ref a_tape, .ref a_now, .ref a_trial, .ref a_sights, .ref a_images, .ref a_sheets, .int v_readFault])), (a_now, .inr (0, [.int v_now_field, .int v_now_tick, .int v_now_pace, .int v_now_signNumber', .int v_now_rotorNumber, .ref a_now_signs, .ref a_now_rotors])), (a_now_signs, .inl (cI, 16, .inl v_now_signs'))] r_ :=
  MI_of (by decide) (Nat.le_of_ble_eq_true rfl) (fun p e s m args below meth c A ls C hr hlk hK hA hP hD hS hl => by
    have C : CX p m c cX6_add 2 s args RX6 := C
    have hl : lv_has ls 2 [(0, .ref a_this), (1, .int x1)] := hl
    unfold F_X6_add at hF
    refine lv_iload_n C.1 C.2.1 dX6_add_0 rfl (lv_at hl 1 rfl) ?_
    refine lv_iconst (v := 3) C.1 C.2.1 dX6_add_1 (by decide) ?_
    obtain ⟨r1, h2, hF⟩ := fb hF
    refine callSI C hK hA hP hD hS (c_X6_within  h2) cs_X6_within kw1_227 ⟨Nat.le_of_ble_eq_true rfl, Nat.le_of_ble_eq_true rfl⟩ ⟨Nat.zero_le _, Nat.zero_le _⟩ hl.1 rfl (Nat.le_of_ble_eq_true rfl) dX6_add_2 (fun H locs hP hD hS => ?_)
    refine lv_if_ne (tgt := 10) C.1 C.2.1 dX6_add_5 (by decide) (fun c3 => ?_) (fun c3 => ?_)
    · have hF := fn hF c3
      refine lv_aload_n C.1 C.2.1 dX6_add_10 rfl (lv_at hl 0 rfl) ?_
      refine gf_6_6_now C hK hP 0 rfl rfl dX6_add_11 ?_
      refine lv_iload_n C.1 C.2.1 dX6_add_14 rfl (lv_at hl 1 rfl) ?_
      obtain ⟨⟨r4, w5, w6⟩, h7, hF⟩ := fb hF
      refine callVI C hK hA hP hD hS [1, 2] (c_X0_addSign (a_this := a_now) (a_signs := a_now_signs) (a_rotors := a_now_rotors) (v_field := v_now_field) (v_tick := v_now_tick) (v_pace := v_now_pace) (v_signNumber := v_now_signNumber) (v_rotorNumber := v_now_rotorNumber) (v_signs := v_now_signs) h7) cv_X0_addSign kw2_211 rfl (by decide) rfl rfl rfl ⟨Nat.le_of_ble_eq_true rfl, Nat.le_of_ble_eq_true rfl⟩ ⟨Nat.zero_le _, Nat.zero_le _⟩ hl.1 rfl (Nat.le_of_ble_eq_true rfl) dX6_add_15 (fun H locs hP hD hS => ?_)
      have hP : va_P D vwCl [(a_this, .inr (6, [.ref a_tape, .ref a_now, .ref a_trial, .ref a_sights, .ref a_images, .ref a_sheets, .int v_readFault])), (a_now, .inr (0, [.int v_now_field, .int v_now_tick, .int v_now_pace, .int w5, .int v_now_rotorNumber, .ref a_now_signs, .ref a_now_rotors])), (a_now_signs, .inl (cI, 16, .inl w6))] H := hP
      have hD : va_D A [(a_this, .inr (6, [.ref a_tape, .ref a_now, .ref a_trial, .ref a_sights, .ref a_images, .ref a_sheets, .int v_readFault])), (a_now, .inr (0, [.int v_now_field, .int v_now_tick, .int v_now_pace, .int w5, .int v_now_rotorNumber, .ref a_now_signs, .ref a_now_rotors])), (a_now_signs, .inl (cI, 16, .inl w6))] := hD
      refine lv_if_eq (tgt := 31) C.1 C.2.1 dX6_add_18 (by decide) (fun c8 => ?_) (fun c8 => ?_)
      · have hF := fp hF c8
        refine lv_bipush (v := (-3)) C.1 C.2.1 dX6_add_31 (by decide) ?_
        cases hF
        exact retI C hr hlk hP hD hS dX6_add_33
      · have hF := fn hF c8
        refine lv_aload_n C.1 C.2.1 dX6_add_21 rfl (lv_at hl 0 rfl) ?_
        refine gf_6_6_now C hK hP 0 rfl rfl dX6_add_22 ?_
        refine gf_6_0_signNumber C hK hP 1 rfl rfl dX6_add_25 ?_
        refine lv_goto (tgt := 33) C.1 C.2.1 dX6_add_28 (by decide) ?_
        cases hF
        exact retI C hr hlk hP hD hS dX6_add_33
    · have hF := fp hF c3
      refine lv_iconst (v := (-1)) C.1 C.2.1 dX6_add_8 (by decide) ?_
      cases hF
      exact retI C hr hlk hP hD hS dX6_add_9)
def rm_X6_cut : Room := { frames := 1, cells := 0, slots := 0, locals := 21 }
theorem cv_X6_cut : CV yX6_cut cX6_cut 3 (some .int) rm_X6_cut RX6 1 := ⟨kw2_213, kw2_214, kw1_1, kw2_215, by decide +kernel, rfl, rfl⟩
set_option maxHeartbeats 4000000 in
set_option maxRecDepth 100000 in
theorem c_X6_cut {l : Launch} {D : va_G} {cI cB cZ cR cM cS : ClassId} {a_this : Nat} {a_tape : Nat} {a_now : Nat} {a_trial : Nat} {a_sights : Nat} {a_images : Nat} {a_sheets : Nat} {a_now_signs : Nat} {a_now_rotors : Nat} {v_readFault : Int32} {v_now_field : Int32} {v_now_tick : Int32} {v_now_pace : Int32} {v_now_signNumber : Int32} {v_now_rotorNumber : Int32} {x1 : Int32} {r_ : Int32} {v_now_signNumber' : Int32} (hF : F_X6_cut v_now_signNumber x1 = some (r_, v_now_signNumber')) : MI l yX6_cut cX6_cut 3 .int rm_X6_cut D (TS cI cB cZ cR cM cS) [.ref a_this, .int x1] [(a_this, .inr (6, [.ref a_tape, .ref a_now, .ref a_trial, .ref a_sights, .ref a_images, .ref a_sheets, .int v_readFault])), (a_now, .inr (0, [.int v_now_field, .int v_now_tick, .int v_now_pace, .int v_now_signNumber, .int v_now_rotorNumber, .ref a_now_signs, .ref a_now_rotors]))] [(a_this, .inr (6, [.ref a_tape, .ref a_now, .ref a_trial, .ref a_sights, .ref a_images, .ref a_sheets, .int v_readFault])), (a_now, .inr (0, [.int v_now_field, .int v_now_tick, .int v_now_pace, .int v_now_signNumber', .int v_now_rotorNumber, .ref a_now_signs, .ref a_now_rotors]))] r_ :=
  MI_of (by decide) (Nat.le_of_ble_eq_true rfl) (fun p e s m args below meth c A ls C hr hlk hK hA hP hD hS hl => by
    have C : CX p m c cX6_cut 3 s args RX6 := C
    have hl : lv_has ls 3 [(0, .ref a_this), (1, .int x1)] := hl
    unfold F_X6_cut at hF
    refine lv_iload_n C.1 C.2.1 dX6_cut_0 rfl (lv_at hl 1 rfl) ?_
    refine lv_aload_n C.1 C.2.1 dX6_cut_1 rfl (lv_at hl 0 rfl) ?_
    refine gf_6_6_now C hK hP 0 rfl rfl dX6_cut_2 ?_
    refine gf_6_0_signNumber C hK hP 1 rfl rfl dX6_cut_5 ?_
    obtain ⟨r1, h2, hF⟩ := fb hF
    refine callSI C hK hA hP hD hS (c_X6_within  h2) cs_X6_within kw1_227 ⟨Nat.le_of_ble_eq_true rfl, Nat.le_of_ble_eq_true rfl⟩ ⟨Nat.zero_le _, Nat.zero_le _⟩ hl.1 rfl (Nat.le_of_ble_eq_true rfl) dX6_cut_8 (fun H locs hP hD hS => ?_)
    refine lv_if_ne (tgt := 16) C.1 C.2.1 dX6_cut_11 (by decide) (fun c3 => ?_) (fun c3 => ?_)
    · have hF := fn hF c3
      refine lv_aload_n C.1 C.2.1 dX6_cut_16 rfl (lv_at hl 0 rfl) ?_
      refine gf_6_6_now C hK hP 0 rfl rfl dX6_cut_17 ?_
      refine gf_6_0_signNumber C hK hP 1 rfl rfl dX6_cut_20 ?_
      refine lv_istore_n (lv' := [(2, .int v_now_signNumber), (0, .ref a_this), (1, .int x1)]) C.1 C.2.1 dX6_cut_23 rfl hl (by decide) rfl (fun ls hl => ?_)
      refine lv_aload_n C.1 C.2.1 dX6_cut_24 rfl (lv_at hl 1 rfl) ?_
      refine gf_6_6_now C hK hP 0 rfl rfl dX6_cut_25 ?_
      refine lv_iload_n C.1 C.2.1 dX6_cut_28 rfl (lv_at hl 2 rfl) ?_
      refine pf_6_0_signNumber C hK hP hD hS 1 rfl rfl dX6_cut_29 (fun H locs hP hD hS => ?_)
      have hP : va_P D vwCl [(a_this, .inr (6, [.ref a_tape, .ref a_now, .ref a_trial, .ref a_sights, .ref a_images, .ref a_sheets, .int v_readFault])), (a_now, .inr (0, [.int v_now_field, .int v_now_tick, .int v_now_pace, .int x1, .int v_now_rotorNumber, .ref a_now_signs, .ref a_now_rotors]))] H := hP
      have hD : va_D A [(a_this, .inr (6, [.ref a_tape, .ref a_now, .ref a_trial, .ref a_sights, .ref a_images, .ref a_sheets, .int v_readFault])), (a_now, .inr (0, [.int v_now_field, .int v_now_tick, .int v_now_pace, .int x1, .int v_now_rotorNumber, .ref a_now_signs, .ref a_now_rotors]))] := hD
      refine lv_iload_n C.1 C.2.1 dX6_cut_32 rfl (lv_at hl 0 rfl) ?_
      cases hF
      exact retI C hr hlk hP hD hS dX6_cut_33
    · have hF := fp hF c3
      refine lv_iconst (v := (-1)) C.1 C.2.1 dX6_cut_14 (by decide) ?_
      cases hF
      exact retI C hr hlk hP hD hS dX6_cut_15)
def rm_X6_ticks : Room := { frames := 4, cells := 0, slots := 0, locals := 93 }
theorem cv_X6_ticks : CV yX6_ticks cX6_ticks 2 (some .int) rm_X6_ticks RX6 1 := ⟨kw2_217, kw2_218, kw1_1, kw2_219, by decide +kernel, rfl, rfl⟩
set_option maxHeartbeats 4000000 in
set_option maxRecDepth 100000 in
theorem c_X6_ticks {l : Launch} {D : va_G} {cI cB cZ cR cM cS : ClassId} {a_this : Nat} {a_tape : Nat} {a_now : Nat} {a_trial : Nat} {a_sights : Nat} {a_images : Nat} {a_sheets : Nat} {a_now_signs : Nat} {a_now_rotors : Nat} {a_now_rotors_e : Nat → Nat} {v_readFault : Int32} {v_now_field : Int32} {v_now_tick : Int32} {v_now_pace : Int32} {v_now_signNumber : Int32} {v_now_rotorNumber : Int32} {v_now_signs : Nat → Int32} {v_now_rotorsF : Nat → Rot} {x1 : Int32} {r_ : Int32} {v_now_field' : Int32} {v_now_tick' : Int32} {v_now_rotorsF' : Nat → Rot} (hF : F_X6_ticks v_now_field v_now_tick v_now_pace v_now_signNumber v_now_rotorNumber v_now_signs v_now_rotorsF x1 = some (r_, v_now_field', v_now_tick', v_now_rotorsF')) : MI l yX6_ticks cX6_ticks 2 .int rm_X6_ticks D (TS cI cB cZ cR cM cS) [.ref a_this, .int x1] [(a_this, .inr (6, [.ref a_tape, .ref a_now, .ref a_trial, .ref a_sights, .ref a_images, .ref a_sheets, .int v_readFault])), (a_now, .inr (0, [.int v_now_field, .int v_now_tick, .int v_now_pace, .int v_now_signNumber, .int v_now_rotorNumber, .ref a_now_signs, .ref a_now_rotors])), (a_now_signs, .inl (cI, 16, .inl v_now_signs)), (a_now_rotors, rfn cR 4 a_now_rotors_e), rcell a_now_rotors_e v_now_rotorsF 0, rcell a_now_rotors_e v_now_rotorsF 1, rcell a_now_rotors_e v_now_rotorsF 2, rcell a_now_rotors_e v_now_rotorsF 3] [(a_this, .inr (6, [.ref a_tape, .ref a_now, .ref a_trial, .ref a_sights, .ref a_images, .ref a_sheets, .int v_readFault])), (a_now, .inr (0, [.int v_now_field', .int v_now_tick', .int v_now_pace, .int v_now_signNumber, .int v_now_rotorNumber, .ref a_now_signs, .ref a_now_rotors])), (a_now_signs, .inl (cI, 16, .inl v_now_signs)), (a_now_rotors, rfn cR 4 a_now_rotors_e), rcell a_now_rotors_e v_now_rotorsF' 0, rcell a_now_rotors_e v_now_rotorsF' 1, rcell a_now_rotors_e v_now_rotorsF' 2, rcell a_now_rotors_e v_now_rotorsF' 3] r_ :=
  MI_of (by decide) (Nat.le_of_ble_eq_true rfl) (fun p e s m args below meth c A ls C hr hlk hK hA hP hD hS hl => by
    have C : CX p m c cX6_ticks 2 s args RX6 := C
    have hl : lv_has ls 2 [(0, .ref a_this), (1, .int x1)] := hl
    unfold F_X6_ticks at hF
    refine lv_iload_n C.1 C.2.1 dX6_ticks_0 rfl (lv_at hl 1 rfl) ?_
    refine lv_bipush (v := 100) C.1 C.2.1 dX6_ticks_1 (by decide) ?_
    obtain ⟨r1, h2, hF⟩ := fb hF
    refine callSI C hK hA hP hD hS (c_X6_within  h2) cs_X6_within kw1_227 ⟨Nat.le_of_ble_eq_true rfl, Nat.le_of_ble_eq_true rfl⟩ ⟨Nat.zero_le _, Nat.zero_le _⟩ hl.1 rfl (Nat.le_of_ble_eq_true rfl) dX6_ticks_3 (fun H locs hP hD hS => ?_)
    refine lv_if_ne (tgt := 11) C.1 C.2.1 dX6_ticks_6 (by decide) (fun c3 => ?_) (fun c3 => ?_)
    · have hF := fn hF c3
      refine lv_aload_n C.1 C.2.1 dX6_ticks_11 rfl (lv_at hl 0 rfl) ?_
      refine gf_6_6_now C hK hP 0 rfl rfl dX6_ticks_12 ?_
      refine gf_6_0_tick C hK hP 1 rfl rfl dX6_ticks_15 ?_
      refine lv_iload_n C.1 C.2.1 dX6_ticks_18 rfl (lv_at hl 1 rfl) ?_
      refine lv_iadd C.1 C.2.1 dX6_ticks_19 ?_
      refine lv_sipush (v := 10000) C.1 C.2.1 dX6_ticks_20 (by decide) ?_
      refine lv_icmp_lt (tgt := 29) C.1 C.2.1 dX6_ticks_23 (by decide) (fun c4 => ?_) (fun c4 => ?_)
      · have hF := fp hF c4
        refine lv_aload_n C.1 C.2.1 dX6_ticks_29 rfl (lv_at hl 0 rfl) ?_
        refine gf_6_6_now C hK hP 0 rfl rfl dX6_ticks_30 ?_
        refine lv_iload_n C.1 C.2.1 dX6_ticks_33 rfl (lv_at hl 1 rfl) ?_
        obtain ⟨⟨r5, w6, w7, w8⟩, h9, hF⟩ := fb hF
        refine callVI C hK hA hP hD hS [1, 2, 3, 4, 5, 6, 7] (c_X0_go (a_this := a_now) (a_signs := a_now_signs) (a_rotors := a_now_rotors) (a_rotors_e := a_now_rotors_e) (v_field := v_now_field) (v_tick := v_now_tick) (v_pace := v_now_pace) (v_signNumber := v_now_signNumber) (v_rotorNumber := v_now_rotorNumber) (v_signs := v_now_signs) (v_rotorsF := v_now_rotorsF) h9) cv_X0_go kw2_220 rfl (by decide) rfl rfl rfl ⟨Nat.le_of_ble_eq_true rfl, Nat.le_of_ble_eq_true rfl⟩ ⟨Nat.zero_le _, Nat.zero_le _⟩ hl.1 rfl (Nat.le_of_ble_eq_true rfl) dX6_ticks_34 (fun H locs hP hD hS => ?_)
        have hP : va_P D vwCl [(a_this, .inr (6, [.ref a_tape, .ref a_now, .ref a_trial, .ref a_sights, .ref a_images, .ref a_sheets, .int v_readFault])), (a_now, .inr (0, [.int w6, .int w7, .int v_now_pace, .int v_now_signNumber, .int v_now_rotorNumber, .ref a_now_signs, .ref a_now_rotors])), (a_now_signs, .inl (cI, 16, .inl v_now_signs)), (a_now_rotors, rfn cR 4 a_now_rotors_e), rcell a_now_rotors_e w8 0, rcell a_now_rotors_e w8 1, rcell a_now_rotors_e w8 2, rcell a_now_rotors_e w8 3] H := hP
        have hD : va_D A [(a_this, .inr (6, [.ref a_tape, .ref a_now, .ref a_trial, .ref a_sights, .ref a_images, .ref a_sheets, .int v_readFault])), (a_now, .inr (0, [.int w6, .int w7, .int v_now_pace, .int v_now_signNumber, .int v_now_rotorNumber, .ref a_now_signs, .ref a_now_rotors])), (a_now_signs, .inl (cI, 16, .inl v_now_signs)), (a_now_rotors, rfn cR 4 a_now_rotors_e), rcell a_now_rotors_e w8 0, rcell a_now_rotors_e w8 1, rcell a_now_rotors_e w8 2, rcell a_now_rotors_e w8 3] := hD
        cases hF
        exact retI C hr hlk hP hD hS dX6_ticks_37
      · have hF := fn hF c4
        refine lv_bipush (v := (-3)) C.1 C.2.1 dX6_ticks_26 (by decide) ?_
        cases hF
        exact retI C hr hlk hP hD hS dX6_ticks_28
    · have hF := fp hF c3
      refine lv_iconst (v := (-1)) C.1 C.2.1 dX6_ticks_9 (by decide) ?_
      cases hF
      exact retI C hr hlk hP hD hS dX6_ticks_10)
def rm_X6_runs : Room := { frames := 3, cells := 0, slots := 0, locals := 82 }
theorem cv_X6_runs : CV yX6_runs cX6_runs 6 (some .int) rm_X6_runs RX6 2 := ⟨kw3_5, kw3_6, kw1_1, kw3_7, by decide +kernel, rfl, rfl⟩
set_option maxHeartbeats 4000000 in
set_option maxRecDepth 100000 in
theorem b_X6_runs_39 {l : Launch} {D : va_G} {cI cB cZ cR cM cS : ClassId} {a_this : Nat} {a_tape : Nat} {a_now : Nat} {a_trial : Nat} {a_sights : Nat} {a_images : Nat} {a_sheets : Nat} {a_now_signs : Nat} {a_now_rotors : Nat} {a_now_rotors_e : Nat → Nat} {a_trial_signs : Nat} {a_trial_rotors : Nat} {a_trial_rotors_e : Nat → Nat} {v_readFault : Int32} {p : Program} {e : Env} {s : State} {m : MethodId} {args : Array Value} {below : List Frame} {meth : Method} {c : Code} {A : Nat → Prop} {r_ : Int32} {v_trial_field' : Int32} {v_trial_tick' : Int32} {v_trial_pace' : Int32} {v_trial_signNumber' : Int32} {v_trial_rotorNumber' : Int32} {v_trial_signs' : Nat → Int32} {v_trial_rotorsF' : Nat → Rot} (C : CX p m c cX6_runs 6 s args RX6) (hr : meth.sig.returnType = (some .int)) (hlk : meth.locks = false) (hK : KK D (TS cI cB cZ cR cM cS) s) (hA : ∀ q, s.heap.size ≤ q → A q) : ∀ (fu : Nat) (v_now_field : Int32) (v_now_tick : Int32) (v_now_pace : Int32) (v_now_signNumber : Int32) (v_now_rotorNumber : Int32) (v_now_signs : Nat → Int32) (v_now_rotorsF : Nat → Rot) (v_trial_field : Int32) (v_trial_tick : Int32) (v_trial_pace : Int32) (v_trial_signNumber : Int32) (v_trial_rotorNumber : Int32) (v_trial_signs : Nat → Int32) (v_trial_rotorsF : Nat → Rot) (x1 : Int32) (x2 : Int32) (x3 : Int32) (x4 : Int32) (x5 : Int32) (H : Heap) (locs : List Loc) (ls : Array Slot), F_X6_runs_39 fu v_now_field v_now_tick v_now_pace v_now_signNumber v_now_rotorNumber v_now_signs v_now_rotorsF v_trial_field v_trial_tick v_trial_pace v_trial_signNumber v_trial_rotorNumber v_trial_signs v_trial_rotorsF x1 x2 x3 x4 x5 = some (r_, v_trial_field', v_trial_tick', v_trial_pace', v_trial_signNumber', v_trial_rotorNumber', v_trial_signs', v_trial_rotorsF') → va_P D vwCl [(a_this, .inr (6, [.ref a_tape, .ref a_now, .ref a_trial, .ref a_sights, .ref a_images, .ref a_sheets, .int v_readFault])), (a_now, .inr (0, [.int v_now_field, .int v_now_tick, .int v_now_pace, .int v_now_signNumber, .int v_now_rotorNumber, .ref a_now_signs, .ref a_now_rotors])), (a_now_signs, .inl (cI, 16, .inl v_now_signs)), (a_now_rotors, rfn cR 4 a_now_rotors_e), rcell a_now_rotors_e v_now_rotorsF 0, rcell a_now_rotors_e v_now_rotorsF 1, rcell a_now_rotors_e v_now_rotorsF 2, rcell a_now_rotors_e v_now_rotorsF 3, (a_trial, .inr (0, [.int v_trial_field, .int v_trial_tick, .int v_trial_pace, .int v_trial_signNumber, .int v_trial_rotorNumber, .ref a_trial_signs, .ref a_trial_rotors])), (a_trial_signs, .inl (cI, 16, .inl v_trial_signs)), (a_trial_rotors, rfn cR 4 a_trial_rotors_e), rcell a_trial_rotors_e v_trial_rotorsF 0, rcell a_trial_rotors_e v_trial_rotorsF 1, rcell a_trial_rotors_e v_trial_rotorsF 2, rcell a_trial_rotors_e v_trial_rotorsF 3] H → va_D A [(a_this, .inr (6, [.ref a_tape, .ref a_now, .ref a_trial, .ref a_sights, .ref a_images, .ref a_sheets, .int v_readFault])), (a_now, .inr (0, [.int v_now_field, .int v_now_tick, .int v_now_pace, .int v_now_signNumber, .int v_now_rotorNumber, .ref a_now_signs, .ref a_now_rotors])), (a_now_signs, .inl (cI, 16, .inl v_now_signs)), (a_now_rotors, rfn cR 4 a_now_rotors_e), rcell a_now_rotors_e v_now_rotorsF 0, rcell a_now_rotors_e v_now_rotorsF 1, rcell a_now_rotors_e v_now_rotorsF 2, rcell a_now_rotors_e v_now_rotorsF 3, (a_trial, .inr (0, [.int v_trial_field, .int v_trial_tick, .int v_trial_pace, .int v_trial_signNumber, .int v_trial_rotorNumber, .ref a_trial_signs, .ref a_trial_rotors])), (a_trial_signs, .inl (cI, 16, .inl v_trial_signs)), (a_trial_rotors, rfn cR 4 a_trial_rotors_e), rcell a_trial_rotors_e v_trial_rotorsF 0, rcell a_trial_rotors_e v_trial_rotorsF 1, rcell a_trial_rotors_e v_trial_rotorsF 2, rcell a_trial_rotors_e v_trial_rotorsF 3] → va_S A s.heap H locs → lv_has ls 6 [(0, .ref a_this), (1, .int x1), (2, .int x2), (3, .int x3), (4, .int x4), (5, .int x5)] → W p l e rm_X6_runs s m args below meth c H locs 0 0 (MQ below (va_Qi (fun x (_ : Unit) => x = r_) (BW D A [(a_this, .inr (6, [.ref a_tape, .ref a_now, .ref a_trial, .ref a_sights, .ref a_images, .ref a_sheets, .int v_readFault])), (a_now, .inr (0, [.int v_now_field, .int v_now_tick, .int v_now_pace, .int v_now_signNumber, .int v_now_rotorNumber, .ref a_now_signs, .ref a_now_rotors])), (a_now_signs, .inl (cI, 16, .inl v_now_signs)), (a_now_rotors, rfn cR 4 a_now_rotors_e), rcell a_now_rotors_e v_now_rotorsF 0, rcell a_now_rotors_e v_now_rotorsF 1, rcell a_now_rotors_e v_now_rotorsF 2, rcell a_now_rotors_e v_now_rotorsF 3, (a_trial, .inr (0, [.int v_trial_field', .int v_trial_tick', .int v_trial_pace', .int v_trial_signNumber', .int v_trial_rotorNumber', .ref a_trial_signs, .ref a_trial_rotors])), (a_trial_signs, .inl (cI, 16, .inl v_trial_signs')), (a_trial_rotors, rfn cR 4 a_trial_rotors_e), rcell a_trial_rotors_e v_trial_rotorsF' 0, rcell a_trial_rotors_e v_trial_rotorsF' 1, rcell a_trial_rotors_e v_trial_rotorsF' 2, rcell a_trial_rotors_e v_trial_rotorsF' 3]) A) args s 0 0 A) (F0 m 39 ls []) := by
  intro fu
  induction fu with
  | zero => intro v_now_field v_now_tick v_now_pace v_now_signNumber v_now_rotorNumber v_now_signs v_now_rotorsF v_trial_field v_trial_tick v_trial_pace v_trial_signNumber v_trial_rotorNumber v_trial_signs v_trial_rotorsF x1 x2 x3 x4 x5 H locs ls hF; cases hF
  | succ fu ih =>
    intro v_now_field v_now_tick v_now_pace v_now_signNumber v_now_rotorNumber v_now_signs v_now_rotorsF v_trial_field v_trial_tick v_trial_pace v_trial_signNumber v_trial_rotorNumber v_trial_signs v_trial_rotorsF x1 x2 x3 x4 x5 H locs ls hF  hP hD hS hl
    unfold F_X6_runs_39 at hF
    refine lv_iload C.1 C.2.1 dX6_runs_39 (lv_at hl 5 rfl) ?_
    refine lv_iload_n C.1 C.2.1 dX6_runs_41 rfl (lv_at hl 1 rfl) ?_
    refine lv_icmp_ge (tgt := 81) C.1 C.2.1 dX6_runs_42 (by decide) (fun c1 => ?_) (fun c1 => ?_)
    · have hF := fp hF c1
      refine lv_iload_n C.1 C.2.1 dX6_runs_81 rfl (lv_at hl 2 rfl) ?_
      by_cases c2 : x2 = (0 : Int32)
      · have hF := fp hF c2
        refine lv_tableIn (tgt := 108) C.1 C.2.1 dX6_runs_82 (by rw [c2]; decide) (by rw [c2]; decide) (by rw [c2]; rfl) (by decide) ?_
        refine lv_iload_n C.1 C.2.1 dX6_runs_108 rfl (lv_at hl 3 rfl) ?_
        cases hF
        exact retI C hr hlk hP hD hS dX6_runs_109
      · have hF := fn hF c2
        by_cases c3 : x2 = (1 : Int32)
        · have hF := fp hF c3
          refine lv_tableIn (tgt := 110) C.1 C.2.1 dX6_runs_82 (by rw [c3]; decide) (by rw [c3]; decide) (by rw [c3]; rfl) (by decide) ?_
          refine lv_ldc (v := 100000) C.1 C.2.1 C.2.2.2.1 (C.2.2.2.2 _ kw2_143) dX6_runs_110 ?_
          refine lv_aload_n C.1 C.2.1 dX6_runs_112 rfl (lv_at hl 0 rfl) ?_
          refine gf_6_6_trial C hK hP 0 rfl rfl dX6_runs_113 ?_
          refine gf_6_0_field C hK hP 8 rfl rfl dX6_runs_116 ?_
          refine lv_iadd C.1 C.2.1 dX6_runs_119 ?_
          cases hF
          exact retI C hr hlk hP hD hS dX6_runs_120
        · have hF := fn hF c3
          by_cases c4 : x2 = (2 : Int32)
          · have hF := fp hF c4
            refine lv_tableIn (tgt := 121) C.1 C.2.1 dX6_runs_82 (by rw [c4]; decide) (by rw [c4]; decide) (by rw [c4]; rfl) (by decide) ?_
            refine lv_aload_n C.1 C.2.1 dX6_runs_121 rfl (lv_at hl 0 rfl) ?_
            refine gf_6_6_trial C hK hP 0 rfl rfl dX6_runs_122 ?_
            obtain ⟨r5, h6, hF⟩ := fb hF
            refine callVI C hK hA hP hD hS [8, 10, 11, 12, 13, 14] (c_X0_allLost (a_this := a_trial) (a_signs := a_trial_signs) (a_rotors := a_trial_rotors) (a_rotors_e := a_trial_rotors_e) (v_field := v_trial_field) (v_tick := v_trial_tick) (v_pace := v_trial_pace) (v_signNumber := v_trial_signNumber) (v_rotorNumber := v_trial_rotorNumber) (v_rotorsF := v_trial_rotorsF) h6) cv_X0_allLost kw2_159 rfl (by decide) rfl rfl rfl ⟨Nat.le_of_ble_eq_true rfl, Nat.le_of_ble_eq_true rfl⟩ ⟨Nat.zero_le _, Nat.zero_le _⟩ hl.1 rfl (Nat.le_of_ble_eq_true rfl) dX6_runs_125 (fun H locs hP hD hS => ?_)
            have hP : va_P D vwCl [(a_this, .inr (6, [.ref a_tape, .ref a_now, .ref a_trial, .ref a_sights, .ref a_images, .ref a_sheets, .int v_readFault])), (a_now, .inr (0, [.int v_now_field, .int v_now_tick, .int v_now_pace, .int v_now_signNumber, .int v_now_rotorNumber, .ref a_now_signs, .ref a_now_rotors])), (a_now_signs, .inl (cI, 16, .inl v_now_signs)), (a_now_rotors, rfn cR 4 a_now_rotors_e), rcell a_now_rotors_e v_now_rotorsF 0, rcell a_now_rotors_e v_now_rotorsF 1, rcell a_now_rotors_e v_now_rotorsF 2, rcell a_now_rotors_e v_now_rotorsF 3, (a_trial, .inr (0, [.int v_trial_field, .int v_trial_tick, .int v_trial_pace, .int v_trial_signNumber, .int v_trial_rotorNumber, .ref a_trial_signs, .ref a_trial_rotors])), (a_trial_signs, .inl (cI, 16, .inl v_trial_signs)), (a_trial_rotors, rfn cR 4 a_trial_rotors_e), rcell a_trial_rotors_e v_trial_rotorsF 0, rcell a_trial_rotors_e v_trial_rotorsF 1, rcell a_trial_rotors_e v_trial_rotorsF 2, rcell a_trial_rotors_e v_trial_rotorsF 3] H := hP
            have hD : va_D A [(a_this, .inr (6, [.ref a_tape, .ref a_now, .ref a_trial, .ref a_sights, .ref a_images, .ref a_sheets, .int v_readFault])), (a_now, .inr (0, [.int v_now_field, .int v_now_tick, .int v_now_pace, .int v_now_signNumber, .int v_now_rotorNumber, .ref a_now_signs, .ref a_now_rotors])), (a_now_signs, .inl (cI, 16, .inl v_now_signs)), (a_now_rotors, rfn cR 4 a_now_rotors_e), rcell a_now_rotors_e v_now_rotorsF 0, rcell a_now_rotors_e v_now_rotorsF 1, rcell a_now_rotors_e v_now_rotorsF 2, rcell a_now_rotors_e v_now_rotorsF 3, (a_trial, .inr (0, [.int v_trial_field, .int v_trial_tick, .int v_trial_pace, .int v_trial_signNumber, .int v_trial_rotorNumber, .ref a_trial_signs, .ref a_trial_rotors])), (a_trial_signs, .inl (cI, 16, .inl v_trial_signs)), (a_trial_rotors, rfn cR 4 a_trial_rotors_e), rcell a_trial_rotors_e v_trial_rotorsF 0, rcell a_trial_rotors_e v_trial_rotorsF 1, rcell a_trial_rotors_e v_trial_rotorsF 2, rcell a_trial_rotors_e v_trial_rotorsF 3] := hD
            cases hF
            exact retI C hr hlk hP hD hS dX6_runs_128
          · have hF := fn hF c4
            refine lv_tableOut (tgt := 129) C.1 C.2.1 dX6_runs_82 (by have q0 := lv_neT (k := 0) (a := 0) c2 (by decide); have q1 := lv_neT (k := 1) (a := 1) c3 (by decide); have q2 := lv_neT (k := 2) (a := 2) c4 (by decide); omega) (by decide) ?_
            refine lv_iload C.1 C.2.1 dX6_runs_129 (lv_at hl 4 rfl) ?_
            cases hF
            exact retI C hr hlk hP hD hS dX6_runs_131
    · have hF := fn hF c1
      refine lv_aload_n C.1 C.2.1 dX6_runs_45 rfl (lv_at hl 0 rfl) ?_
      refine gf_6_6_trial C hK hP 0 rfl rfl dX6_runs_46 ?_
      obtain ⟨w7, h8, hF⟩ := fb hF
      refine callVV C hK hA hP hD hS [8, 9] (c_X0_leadField (a_this := a_trial) (a_signs := a_trial_signs) (a_rotors := a_trial_rotors) (v_field := v_trial_field) (v_tick := v_trial_tick) (v_pace := v_trial_pace) (v_signNumber := v_trial_signNumber) (v_rotorNumber := v_trial_rotorNumber) (v_signs := v_trial_signs) h8) cv_X0_leadField kw3_8 rfl (by decide) rfl rfl rfl ⟨Nat.le_of_ble_eq_true rfl, Nat.le_of_ble_eq_true rfl⟩ ⟨Nat.zero_le _, Nat.zero_le _⟩ hl.1 rfl (Nat.le_of_ble_eq_true rfl) dX6_runs_49 (fun H locs hP hD hS => ?_)
      have hP : va_P D vwCl [(a_this, .inr (6, [.ref a_tape, .ref a_now, .ref a_trial, .ref a_sights, .ref a_images, .ref a_sheets, .int v_readFault])), (a_now, .inr (0, [.int v_now_field, .int v_now_tick, .int v_now_pace, .int v_now_signNumber, .int v_now_rotorNumber, .ref a_now_signs, .ref a_now_rotors])), (a_now_signs, .inl (cI, 16, .inl v_now_signs)), (a_now_rotors, rfn cR 4 a_now_rotors_e), rcell a_now_rotors_e v_now_rotorsF 0, rcell a_now_rotors_e v_now_rotorsF 1, rcell a_now_rotors_e v_now_rotorsF 2, rcell a_now_rotors_e v_now_rotorsF 3, (a_trial, .inr (0, [.int w7, .int v_trial_tick, .int v_trial_pace, .int v_trial_signNumber, .int v_trial_rotorNumber, .ref a_trial_signs, .ref a_trial_rotors])), (a_trial_signs, .inl (cI, 16, .inl v_trial_signs)), (a_trial_rotors, rfn cR 4 a_trial_rotors_e), rcell a_trial_rotors_e v_trial_rotorsF 0, rcell a_trial_rotors_e v_trial_rotorsF 1, rcell a_trial_rotors_e v_trial_rotorsF 2, rcell a_trial_rotors_e v_trial_rotorsF 3] H := hP
      have hD : va_D A [(a_this, .inr (6, [.ref a_tape, .ref a_now, .ref a_trial, .ref a_sights, .ref a_images, .ref a_sheets, .int v_readFault])), (a_now, .inr (0, [.int v_now_field, .int v_now_tick, .int v_now_pace, .int v_now_signNumber, .int v_now_rotorNumber, .ref a_now_signs, .ref a_now_rotors])), (a_now_signs, .inl (cI, 16, .inl v_now_signs)), (a_now_rotors, rfn cR 4 a_now_rotors_e), rcell a_now_rotors_e v_now_rotorsF 0, rcell a_now_rotors_e v_now_rotorsF 1, rcell a_now_rotors_e v_now_rotorsF 2, rcell a_now_rotors_e v_now_rotorsF 3, (a_trial, .inr (0, [.int w7, .int v_trial_tick, .int v_trial_pace, .int v_trial_signNumber, .int v_trial_rotorNumber, .ref a_trial_signs, .ref a_trial_rotors])), (a_trial_signs, .inl (cI, 16, .inl v_trial_signs)), (a_trial_rotors, rfn cR 4 a_trial_rotors_e), rcell a_trial_rotors_e v_trial_rotorsF 0, rcell a_trial_rotors_e v_trial_rotorsF 1, rcell a_trial_rotors_e v_trial_rotorsF 2, rcell a_trial_rotors_e v_trial_rotorsF 3] := hD
      refine lv_aload_n C.1 C.2.1 dX6_runs_52 rfl (lv_at hl 0 rfl) ?_
      refine gf_6_6_trial C hK hP 0 rfl rfl dX6_runs_53 ?_
      obtain ⟨r9, h10, hF⟩ := fb hF
      refine callVI C hK hA hP hD hS [8, 10, 11, 12, 13, 14] (c_X0_slipping (a_this := a_trial) (a_signs := a_trial_signs) (a_rotors := a_trial_rotors) (a_rotors_e := a_trial_rotors_e) (v_field := w7) (v_tick := v_trial_tick) (v_pace := v_trial_pace) (v_signNumber := v_trial_signNumber) (v_rotorNumber := v_trial_rotorNumber) (v_rotorsF := v_trial_rotorsF) h10) cv_X0_slipping kw2_144 rfl (by decide) rfl rfl rfl ⟨Nat.le_of_ble_eq_true rfl, Nat.le_of_ble_eq_true rfl⟩ ⟨Nat.zero_le _, Nat.zero_le _⟩ hl.1 rfl (Nat.le_of_ble_eq_true rfl) dX6_runs_56 (fun H locs hP hD hS => ?_)
      have hP : va_P D vwCl [(a_this, .inr (6, [.ref a_tape, .ref a_now, .ref a_trial, .ref a_sights, .ref a_images, .ref a_sheets, .int v_readFault])), (a_now, .inr (0, [.int v_now_field, .int v_now_tick, .int v_now_pace, .int v_now_signNumber, .int v_now_rotorNumber, .ref a_now_signs, .ref a_now_rotors])), (a_now_signs, .inl (cI, 16, .inl v_now_signs)), (a_now_rotors, rfn cR 4 a_now_rotors_e), rcell a_now_rotors_e v_now_rotorsF 0, rcell a_now_rotors_e v_now_rotorsF 1, rcell a_now_rotors_e v_now_rotorsF 2, rcell a_now_rotors_e v_now_rotorsF 3, (a_trial, .inr (0, [.int w7, .int v_trial_tick, .int v_trial_pace, .int v_trial_signNumber, .int v_trial_rotorNumber, .ref a_trial_signs, .ref a_trial_rotors])), (a_trial_signs, .inl (cI, 16, .inl v_trial_signs)), (a_trial_rotors, rfn cR 4 a_trial_rotors_e), rcell a_trial_rotors_e v_trial_rotorsF 0, rcell a_trial_rotors_e v_trial_rotorsF 1, rcell a_trial_rotors_e v_trial_rotorsF 2, rcell a_trial_rotors_e v_trial_rotorsF 3] H := hP
      have hD : va_D A [(a_this, .inr (6, [.ref a_tape, .ref a_now, .ref a_trial, .ref a_sights, .ref a_images, .ref a_sheets, .int v_readFault])), (a_now, .inr (0, [.int v_now_field, .int v_now_tick, .int v_now_pace, .int v_now_signNumber, .int v_now_rotorNumber, .ref a_now_signs, .ref a_now_rotors])), (a_now_signs, .inl (cI, 16, .inl v_now_signs)), (a_now_rotors, rfn cR 4 a_now_rotors_e), rcell a_now_rotors_e v_now_rotorsF 0, rcell a_now_rotors_e v_now_rotorsF 1, rcell a_now_rotors_e v_now_rotorsF 2, rcell a_now_rotors_e v_now_rotorsF 3, (a_trial, .inr (0, [.int w7, .int v_trial_tick, .int v_trial_pace, .int v_trial_signNumber, .int v_trial_rotorNumber, .ref a_trial_signs, .ref a_trial_rotors])), (a_trial_signs, .inl (cI, 16, .inl v_trial_signs)), (a_trial_rotors, rfn cR 4 a_trial_rotors_e), rcell a_trial_rotors_e v_trial_rotorsF 0, rcell a_trial_rotors_e v_trial_rotorsF 1, rcell a_trial_rotors_e v_trial_rotorsF 2, rcell a_trial_rotors_e v_trial_rotorsF 3] := hD
      refine lv_if_eq (tgt := 65) C.1 C.2.1 dX6_runs_59 (by decide) (fun c11 => ?_) (fun c11 => ?_)
      · have hF := fp hF c11
        refine lv_iload_n C.1 C.2.1 dX6_runs_65 rfl (lv_at hl 3 rfl) ?_
        refine lv_aload_n C.1 C.2.1 dX6_runs_66 rfl (lv_at hl 0 rfl) ?_
        refine gf_6_6_trial C hK hP 0 rfl rfl dX6_runs_67 ?_
        obtain ⟨⟨r12, w13, w14⟩, h15, hF⟩ := fb hF
        refine callVI C hK hA hP hD hS [8, 10, 11, 12, 13, 14] (c_X0_pullRotors (a_this := a_trial) (a_signs := a_trial_signs) (a_rotors := a_trial_rotors) (a_rotors_e := a_trial_rotors_e) (v_field := w7) (v_tick := v_trial_tick) (v_pace := v_trial_pace) (v_signNumber := v_trial_signNumber) (v_rotorNumber := v_trial_rotorNumber) (v_rotorsF := v_trial_rotorsF) h15) cv_X0_pullRotors kw3_9 rfl (by decide) rfl rfl rfl ⟨Nat.le_of_ble_eq_true rfl, Nat.le_of_ble_eq_true rfl⟩ ⟨Nat.zero_le _, Nat.zero_le _⟩ hl.1 rfl (Nat.le_of_ble_eq_true rfl) dX6_runs_70 (fun H locs hP hD hS => ?_)
        have hP : va_P D vwCl [(a_this, .inr (6, [.ref a_tape, .ref a_now, .ref a_trial, .ref a_sights, .ref a_images, .ref a_sheets, .int v_readFault])), (a_now, .inr (0, [.int v_now_field, .int v_now_tick, .int v_now_pace, .int v_now_signNumber, .int v_now_rotorNumber, .ref a_now_signs, .ref a_now_rotors])), (a_now_signs, .inl (cI, 16, .inl v_now_signs)), (a_now_rotors, rfn cR 4 a_now_rotors_e), rcell a_now_rotors_e v_now_rotorsF 0, rcell a_now_rotors_e v_now_rotorsF 1, rcell a_now_rotors_e v_now_rotorsF 2, rcell a_now_rotors_e v_now_rotorsF 3, (a_trial, .inr (0, [.int w7, .int w13, .int v_trial_pace, .int v_trial_signNumber, .int v_trial_rotorNumber, .ref a_trial_signs, .ref a_trial_rotors])), (a_trial_signs, .inl (cI, 16, .inl v_trial_signs)), (a_trial_rotors, rfn cR 4 a_trial_rotors_e), rcell a_trial_rotors_e w14 0, rcell a_trial_rotors_e w14 1, rcell a_trial_rotors_e w14 2, rcell a_trial_rotors_e w14 3] H := hP
        have hD : va_D A [(a_this, .inr (6, [.ref a_tape, .ref a_now, .ref a_trial, .ref a_sights, .ref a_images, .ref a_sheets, .int v_readFault])), (a_now, .inr (0, [.int v_now_field, .int v_now_tick, .int v_now_pace, .int v_now_signNumber, .int v_now_rotorNumber, .ref a_now_signs, .ref a_now_rotors])), (a_now_signs, .inl (cI, 16, .inl v_now_signs)), (a_now_rotors, rfn cR 4 a_now_rotors_e), rcell a_now_rotors_e v_now_rotorsF 0, rcell a_now_rotors_e v_now_rotorsF 1, rcell a_now_rotors_e v_now_rotorsF 2, rcell a_now_rotors_e v_now_rotorsF 3, (a_trial, .inr (0, [.int w7, .int w13, .int v_trial_pace, .int v_trial_signNumber, .int v_trial_rotorNumber, .ref a_trial_signs, .ref a_trial_rotors])), (a_trial_signs, .inl (cI, 16, .inl v_trial_signs)), (a_trial_rotors, rfn cR 4 a_trial_rotors_e), rcell a_trial_rotors_e w14 0, rcell a_trial_rotors_e w14 1, rcell a_trial_rotors_e w14 2, rcell a_trial_rotors_e w14 3] := hD
        refine lv_iadd C.1 C.2.1 dX6_runs_73 ?_
        refine lv_istore_n (lv' := [(3, .int (x3 + r12)), (0, .ref a_this), (1, .int x1), (2, .int x2), (4, .int x4), (5, .int x5)]) C.1 C.2.1 dX6_runs_74 rfl hl (by decide) rfl (fun ls hl => ?_)
        refine lv_iinc (v := x5 + 1) (lv' := [(5, .int (x5 + 1)), (3, .int (x3 + r12)), (0, .ref a_this), (1, .int x1), (2, .int x2), (4, .int x4)]) C.1 C.2.1 dX6_runs_75 hl (k := 5) rfl rfl (by decide) rfl (fun ls hl => ?_)
        refine lv_goto (tgt := 39) C.1 C.2.1 dX6_runs_78 (by decide) ?_
        exact ih v_now_field v_now_tick v_now_pace v_now_signNumber v_now_rotorNumber v_now_signs v_now_rotorsF w7 w13 v_trial_pace v_trial_signNumber v_trial_rotorNumber v_trial_signs w14 x1 x2 (x3 + r12) x4 (x5 + 1) _ _ _ hF hP hD hS (lv_sub hl [2, 3, 4, 1, 5, 0] rfl)
      · have hF := fn hF c11
        refine lv_iinc (v := x4 + 1) (lv' := [(4, .int (x4 + 1)), (0, .ref a_this), (1, .int x1), (2, .int x2), (3, .int x3), (5, .int x5)]) C.1 C.2.1 dX6_runs_62 hl (k := 4) rfl rfl (by decide) rfl (fun ls hl => ?_)
        refine lv_iload_n C.1 C.2.1 dX6_runs_65 rfl (lv_at hl 4 rfl) ?_
        refine lv_aload_n C.1 C.2.1 dX6_runs_66 rfl (lv_at hl 1 rfl) ?_
        refine gf_6_6_trial C hK hP 0 rfl rfl dX6_runs_67 ?_
        obtain ⟨⟨r16, w17, w18⟩, h19, hF⟩ := fb hF
        refine callVI C hK hA hP hD hS [8, 10, 11, 12, 13, 14] (c_X0_pullRotors (a_this := a_trial) (a_signs := a_trial_signs) (a_rotors := a_trial_rotors) (a_rotors_e := a_trial_rotors_e) (v_field := w7) (v_tick := v_trial_tick) (v_pace := v_trial_pace) (v_signNumber := v_trial_signNumber) (v_rotorNumber := v_trial_rotorNumber) (v_rotorsF := v_trial_rotorsF) h19) cv_X0_pullRotors kw3_9 rfl (by decide) rfl rfl rfl ⟨Nat.le_of_ble_eq_true rfl, Nat.le_of_ble_eq_true rfl⟩ ⟨Nat.zero_le _, Nat.zero_le _⟩ hl.1 rfl (Nat.le_of_ble_eq_true rfl) dX6_runs_70 (fun H locs hP hD hS => ?_)
        have hP : va_P D vwCl [(a_this, .inr (6, [.ref a_tape, .ref a_now, .ref a_trial, .ref a_sights, .ref a_images, .ref a_sheets, .int v_readFault])), (a_now, .inr (0, [.int v_now_field, .int v_now_tick, .int v_now_pace, .int v_now_signNumber, .int v_now_rotorNumber, .ref a_now_signs, .ref a_now_rotors])), (a_now_signs, .inl (cI, 16, .inl v_now_signs)), (a_now_rotors, rfn cR 4 a_now_rotors_e), rcell a_now_rotors_e v_now_rotorsF 0, rcell a_now_rotors_e v_now_rotorsF 1, rcell a_now_rotors_e v_now_rotorsF 2, rcell a_now_rotors_e v_now_rotorsF 3, (a_trial, .inr (0, [.int w7, .int w17, .int v_trial_pace, .int v_trial_signNumber, .int v_trial_rotorNumber, .ref a_trial_signs, .ref a_trial_rotors])), (a_trial_signs, .inl (cI, 16, .inl v_trial_signs)), (a_trial_rotors, rfn cR 4 a_trial_rotors_e), rcell a_trial_rotors_e w18 0, rcell a_trial_rotors_e w18 1, rcell a_trial_rotors_e w18 2, rcell a_trial_rotors_e w18 3] H := hP
        have hD : va_D A [(a_this, .inr (6, [.ref a_tape, .ref a_now, .ref a_trial, .ref a_sights, .ref a_images, .ref a_sheets, .int v_readFault])), (a_now, .inr (0, [.int v_now_field, .int v_now_tick, .int v_now_pace, .int v_now_signNumber, .int v_now_rotorNumber, .ref a_now_signs, .ref a_now_rotors])), (a_now_signs, .inl (cI, 16, .inl v_now_signs)), (a_now_rotors, rfn cR 4 a_now_rotors_e), rcell a_now_rotors_e v_now_rotorsF 0, rcell a_now_rotors_e v_now_rotorsF 1, rcell a_now_rotors_e v_now_rotorsF 2, rcell a_now_rotors_e v_now_rotorsF 3, (a_trial, .inr (0, [.int w7, .int w17, .int v_trial_pace, .int v_trial_signNumber, .int v_trial_rotorNumber, .ref a_trial_signs, .ref a_trial_rotors])), (a_trial_signs, .inl (cI, 16, .inl v_trial_signs)), (a_trial_rotors, rfn cR 4 a_trial_rotors_e), rcell a_trial_rotors_e w18 0, rcell a_trial_rotors_e w18 1, rcell a_trial_rotors_e w18 2, rcell a_trial_rotors_e w18 3] := hD
        refine lv_iadd C.1 C.2.1 dX6_runs_73 ?_
        refine lv_istore_n (lv' := [(3, .int (x3 + r16)), (4, .int (x4 + 1)), (0, .ref a_this), (1, .int x1), (2, .int x2), (5, .int x5)]) C.1 C.2.1 dX6_runs_74 rfl hl (by decide) rfl (fun ls hl => ?_)
        refine lv_iinc (v := x5 + 1) (lv' := [(5, .int (x5 + 1)), (3, .int (x3 + r16)), (4, .int (x4 + 1)), (0, .ref a_this), (1, .int x1), (2, .int x2)]) C.1 C.2.1 dX6_runs_75 hl (k := 5) rfl rfl (by decide) rfl (fun ls hl => ?_)
        refine lv_goto (tgt := 39) C.1 C.2.1 dX6_runs_78 (by decide) ?_
        exact ih v_now_field v_now_tick v_now_pace v_now_signNumber v_now_rotorNumber v_now_signs v_now_rotorsF w7 w17 v_trial_pace v_trial_signNumber v_trial_rotorNumber v_trial_signs w18 x1 x2 (x3 + r16) (x4 + 1) (x5 + 1) _ _ _ hF hP hD hS (lv_sub hl [3, 4, 5, 1, 2, 0] rfl)
set_option maxHeartbeats 4000000 in
set_option maxRecDepth 100000 in
theorem c_X6_runs {l : Launch} {D : va_G} {cI cB cZ cR cM cS : ClassId} {a_this : Nat} {a_tape : Nat} {a_now : Nat} {a_trial : Nat} {a_sights : Nat} {a_images : Nat} {a_sheets : Nat} {a_now_signs : Nat} {a_now_rotors : Nat} {a_now_rotors_e : Nat → Nat} {a_trial_signs : Nat} {a_trial_rotors : Nat} {a_trial_rotors_e : Nat → Nat} {v_readFault : Int32} {v_now_field : Int32} {v_now_tick : Int32} {v_now_pace : Int32} {v_now_signNumber : Int32} {v_now_rotorNumber : Int32} {v_now_signs : Nat → Int32} {v_now_rotorsF : Nat → Rot} {v_trial_field : Int32} {v_trial_tick : Int32} {v_trial_pace : Int32} {v_trial_signNumber : Int32} {v_trial_rotorNumber : Int32} {v_trial_signs : Nat → Int32} {v_trial_rotorsF : Nat → Rot} {x1 : Int32} {x2 : Int32} {r_ : Int32} {v_trial_field' : Int32} {v_trial_tick' : Int32} {v_trial_pace' : Int32} {v_trial_signNumber' : Int32} {v_trial_rotorNumber' : Int32} {v_trial_signs' : Nat → Int32} {v_trial_rotorsF' : Nat → Rot} (hF : F_X6_runs v_now_field v_now_tick v_now_pace v_now_signNumber v_now_rotorNumber v_now_signs v_now_rotorsF v_trial_field v_trial_tick v_trial_pace v_trial_signNumber v_trial_rotorNumber v_trial_signs v_trial_rotorsF x1 x2 = some (r_, v_trial_field', v_trial_tick', v_trial_pace', v_trial_signNumber', v_trial_rotorNumber', v_trial_signs', v_trial_rotorsF')) : MI l yX6_runs cX6_runs 6 .int rm_X6_runs D (TS cI cB cZ cR cM cS) [.ref a_this, .int x1, .int x2] [(a_this, .inr (6, [.ref a_tape, .ref a_now, .ref a_trial, .ref a_sights, .ref a_images, .ref a_sheets, .int v_readFault])), (a_now, .inr (0, [.int v_now_field, .int v_now_tick, .int v_now_pace, .int v_now_signNumber, .int v_now_rotorNumber, .ref a_now_signs, .ref a_now_rotors])), (a_now_signs, .inl (cI, 16, .inl v_now_signs)), (a_now_rotors, rfn cR 4 a_now_rotors_e), rcell a_now_rotors_e v_now_rotorsF 0, rcell a_now_rotors_e v_now_rotorsF 1, rcell a_now_rotors_e v_now_rotorsF 2, rcell a_now_rotors_e v_now_rotorsF 3, (a_trial, .inr (0, [.int v_trial_field, .int v_trial_tick, .int v_trial_pace, .int v_trial_signNumber, .int v_trial_rotorNumber, .ref a_trial_signs, .ref a_trial_rotors])), (a_trial_signs, .inl (cI, 16, .inl v_trial_signs)), (a_trial_rotors, rfn cR 4 a_trial_rotors_e), rcell a_trial_rotors_e v_trial_rotorsF 0, rcell a_trial_rotors_e v_trial_rotorsF 1, rcell a_trial_rotors_e v_trial_rotorsF 2, rcell a_trial_rotors_e v_trial_rotorsF 3] [(a_this, .inr (6, [.ref a_tape, .ref a_now, .ref a_trial, .ref a_sights, .ref a_images, .ref a_sheets, .int v_readFault])), (a_now, .inr (0, [.int v_now_field, .int v_now_tick, .int v_now_pace, .int v_now_signNumber, .int v_now_rotorNumber, .ref a_now_signs, .ref a_now_rotors])), (a_now_signs, .inl (cI, 16, .inl v_now_signs)), (a_now_rotors, rfn cR 4 a_now_rotors_e), rcell a_now_rotors_e v_now_rotorsF 0, rcell a_now_rotors_e v_now_rotorsF 1, rcell a_now_rotors_e v_now_rotorsF 2, rcell a_now_rotors_e v_now_rotorsF 3, (a_trial, .inr (0, [.int v_trial_field', .int v_trial_tick', .int v_trial_pace', .int v_trial_signNumber', .int v_trial_rotorNumber', .ref a_trial_signs, .ref a_trial_rotors])), (a_trial_signs, .inl (cI, 16, .inl v_trial_signs')), (a_trial_rotors, rfn cR 4 a_trial_rotors_e), rcell a_trial_rotors_e v_trial_rotorsF' 0, rcell a_trial_rotors_e v_trial_rotorsF' 1, rcell a_trial_rotors_e v_trial_rotorsF' 2, rcell a_trial_rotors_e v_trial_rotorsF' 3] r_ :=
  MI_of (by decide) (Nat.le_of_ble_eq_true rfl) (fun p e s m args below meth c A ls C hr hlk hK hA hP hD hS hl => by
    have C : CX p m c cX6_runs 6 s args RX6 := C
    have hl : lv_has ls 6 [(0, .ref a_this), (1, .int x1), (2, .int x2)] := hl
    unfold F_X6_runs at hF
    refine lv_iload_n C.1 C.2.1 dX6_runs_0 rfl (lv_at hl 1 rfl) ?_
    refine lv_sipush (v := 200) C.1 C.2.1 dX6_runs_1 (by decide) ?_
    obtain ⟨r1, h2, hF⟩ := fb hF
    refine callSI C hK hA hP hD hS (c_X6_within  h2) cs_X6_within kw1_227 ⟨Nat.le_of_ble_eq_true rfl, Nat.le_of_ble_eq_true rfl⟩ ⟨Nat.zero_le _, Nat.zero_le _⟩ hl.1 rfl (Nat.le_of_ble_eq_true rfl) dX6_runs_4 (fun H locs hP hD hS => ?_)
    refine lv_if_eq (tgt := 18) C.1 C.2.1 dX6_runs_7 (by decide) (fun c3 => ?_) (fun c3 => ?_)
    · have hF := fp hF c3
      refine lv_iconst (v := (-1)) C.1 C.2.1 dX6_runs_18 (by decide) ?_
      cases hF
      exact retI C hr hlk hP hD hS dX6_runs_19
    · have hF := fn hF c3
      refine lv_iload_n C.1 C.2.1 dX6_runs_10 rfl (lv_at hl 2 rfl) ?_
      refine lv_iconst (v := 3) C.1 C.2.1 dX6_runs_11 (by decide) ?_
      obtain ⟨r4, h5, hF⟩ := fb hF
      refine callSI C hK hA hP hD hS (c_X6_within  h5) cs_X6_within kw1_227 ⟨Nat.le_of_ble_eq_true rfl, Nat.le_of_ble_eq_true rfl⟩ ⟨Nat.zero_le _, Nat.zero_le _⟩ hl.1 rfl (Nat.le_of_ble_eq_true rfl) dX6_runs_12 (fun H locs hP hD hS => ?_)
      refine lv_if_ne (tgt := 20) C.1 C.2.1 dX6_runs_15 (by decide) (fun c6 => ?_) (fun c6 => ?_)
      · have hF := fn hF c6
        refine lv_aload_n C.1 C.2.1 dX6_runs_20 rfl (lv_at hl 0 rfl) ?_
        refine gf_6_6_trial C hK hP 0 rfl rfl dX6_runs_21 ?_
        refine lv_aload_n C.1 C.2.1 dX6_runs_24 rfl (lv_at hl 0 rfl) ?_
        refine gf_6_6_now C hK hP 0 rfl rfl dX6_runs_25 ?_
        obtain ⟨⟨w7, w8, w9, w10, w11, w12, w13⟩, h14, hF⟩ := fb hF
        refine callVV C hK hA hP hD hS [8, 9, 10, 11, 12, 13, 14, 1, 2, 3, 4, 5, 6, 7] (c_X0_copyFrom (a_this := a_trial) (a_signs := a_trial_signs) (a_rotors := a_trial_rotors) (a_rotors_e := a_trial_rotors_e) (a_o1 := a_now) (a_o1_signs := a_now_signs) (a_o1_rotors := a_now_rotors) (a_o1_rotors_e := a_now_rotors_e) (v_field := v_trial_field) (v_tick := v_trial_tick) (v_pace := v_trial_pace) (v_signNumber := v_trial_signNumber) (v_rotorNumber := v_trial_rotorNumber) (v_signs := v_trial_signs) (v_rotorsF := v_trial_rotorsF) (v_o1_field := v_now_field) (v_o1_tick := v_now_tick) (v_o1_pace := v_now_pace) (v_o1_signNumber := v_now_signNumber) (v_o1_rotorNumber := v_now_rotorNumber) (v_o1_signs := v_now_signs) (v_o1_rotorsF := v_now_rotorsF) h14) cv_X0_copyFrom kw2_124 rfl (by decide) rfl rfl rfl ⟨Nat.le_of_ble_eq_true rfl, Nat.le_of_ble_eq_true rfl⟩ ⟨Nat.zero_le _, Nat.zero_le _⟩ hl.1 rfl (Nat.le_of_ble_eq_true rfl) dX6_runs_28 (fun H locs hP hD hS => ?_)
        have hP : va_P D vwCl [(a_this, .inr (6, [.ref a_tape, .ref a_now, .ref a_trial, .ref a_sights, .ref a_images, .ref a_sheets, .int v_readFault])), (a_now, .inr (0, [.int v_now_field, .int v_now_tick, .int v_now_pace, .int v_now_signNumber, .int v_now_rotorNumber, .ref a_now_signs, .ref a_now_rotors])), (a_now_signs, .inl (cI, 16, .inl v_now_signs)), (a_now_rotors, rfn cR 4 a_now_rotors_e), rcell a_now_rotors_e v_now_rotorsF 0, rcell a_now_rotors_e v_now_rotorsF 1, rcell a_now_rotors_e v_now_rotorsF 2, rcell a_now_rotors_e v_now_rotorsF 3, (a_trial, .inr (0, [.int w7, .int w8, .int w9, .int w10, .int w11, .ref a_trial_signs, .ref a_trial_rotors])), (a_trial_signs, .inl (cI, 16, .inl w12)), (a_trial_rotors, rfn cR 4 a_trial_rotors_e), rcell a_trial_rotors_e w13 0, rcell a_trial_rotors_e w13 1, rcell a_trial_rotors_e w13 2, rcell a_trial_rotors_e w13 3] H := hP
        have hD : va_D A [(a_this, .inr (6, [.ref a_tape, .ref a_now, .ref a_trial, .ref a_sights, .ref a_images, .ref a_sheets, .int v_readFault])), (a_now, .inr (0, [.int v_now_field, .int v_now_tick, .int v_now_pace, .int v_now_signNumber, .int v_now_rotorNumber, .ref a_now_signs, .ref a_now_rotors])), (a_now_signs, .inl (cI, 16, .inl v_now_signs)), (a_now_rotors, rfn cR 4 a_now_rotors_e), rcell a_now_rotors_e v_now_rotorsF 0, rcell a_now_rotors_e v_now_rotorsF 1, rcell a_now_rotors_e v_now_rotorsF 2, rcell a_now_rotors_e v_now_rotorsF 3, (a_trial, .inr (0, [.int w7, .int w8, .int w9, .int w10, .int w11, .ref a_trial_signs, .ref a_trial_rotors])), (a_trial_signs, .inl (cI, 16, .inl w12)), (a_trial_rotors, rfn cR 4 a_trial_rotors_e), rcell a_trial_rotors_e w13 0, rcell a_trial_rotors_e w13 1, rcell a_trial_rotors_e w13 2, rcell a_trial_rotors_e w13 3] := hD
        refine lv_iconst (v := 0) C.1 C.2.1 dX6_runs_31 (by decide) ?_
        refine lv_istore_n (lv' := [(3, .int (0 : Int32)), (0, .ref a_this), (1, .int x1), (2, .int x2)]) C.1 C.2.1 dX6_runs_32 rfl hl (by decide) rfl (fun ls hl => ?_)
        refine lv_iconst (v := 0) C.1 C.2.1 dX6_runs_33 (by decide) ?_
        refine lv_istore (lv' := [(4, .int (0 : Int32)), (3, .int (0 : Int32)), (0, .ref a_this), (1, .int x1), (2, .int x2)]) C.1 C.2.1 dX6_runs_34 hl (by decide) rfl (fun ls hl => ?_)
        refine lv_iconst (v := 0) C.1 C.2.1 dX6_runs_36 (by decide) ?_
        refine lv_istore (lv' := [(5, .int (0 : Int32)), (4, .int (0 : Int32)), (3, .int (0 : Int32)), (0, .ref a_this), (1, .int x1), (2, .int x2)]) C.1 C.2.1 dX6_runs_37 hl (by decide) rfl (fun ls hl => ?_)
        exact b_X6_runs_39 C hr hlk hK hA FU v_now_field v_now_tick v_now_pace v_now_signNumber v_now_rotorNumber v_now_signs v_now_rotorsF w7 w8 w9 w10 w11 w12 w13 x1 x2 (0 : Int32) (0 : Int32) (0 : Int32) _ _ _ hF hP hD hS (lv_sub hl [3, 4, 5, 2, 1, 0] rfl)
      · have hF := fp hF c6
        refine lv_iconst (v := (-1)) C.1 C.2.1 dX6_runs_18 (by decide) ?_
        cases hF
        exact retI C hr hlk hP hD hS dX6_runs_19)
def rm_X6_ahead : Room := { frames := 4, cells := 0, slots := 0, locals := 93 }
theorem cv_X6_ahead : CV yX6_ahead cX6_ahead 4 (some .int) rm_X6_ahead RX6 3 := ⟨kw3_11, kw3_12, kw1_1, kw3_13, by decide +kernel, rfl, rfl⟩
set_option maxHeartbeats 4000000 in
set_option maxRecDepth 100000 in
theorem c_X6_ahead {l : Launch} {D : va_G} {cI cB cZ cR cM cS : ClassId} {a_this : Nat} {a_tape : Nat} {a_now : Nat} {a_trial : Nat} {a_sights : Nat} {a_images : Nat} {a_sheets : Nat} {a_now_signs : Nat} {a_now_rotors : Nat} {a_now_rotors_e : Nat → Nat} {a_trial_signs : Nat} {a_trial_rotors : Nat} {a_trial_rotors_e : Nat → Nat} {v_readFault : Int32} {v_now_field : Int32} {v_now_tick : Int32} {v_now_pace : Int32} {v_now_signNumber : Int32} {v_now_rotorNumber : Int32} {v_now_signs : Nat → Int32} {v_now_rotorsF : Nat → Rot} {v_trial_field : Int32} {v_trial_tick : Int32} {v_trial_pace : Int32} {v_trial_signNumber : Int32} {v_trial_rotorNumber : Int32} {v_trial_signs : Nat → Int32} {v_trial_rotorsF : Nat → Rot} {x1 : Int32} {x2 : Int32} {x3 : Int32} {r_ : Int32} {v_trial_field' : Int32} {v_trial_tick' : Int32} {v_trial_pace' : Int32} {v_trial_signNumber' : Int32} {v_trial_rotorNumber' : Int32} {v_trial_signs' : Nat → Int32} {v_trial_rotorsF' : Nat → Rot} (hF : F_X6_ahead v_now_field v_now_tick v_now_pace v_now_signNumber v_now_rotorNumber v_now_signs v_now_rotorsF v_trial_field v_trial_tick v_trial_pace v_trial_signNumber v_trial_rotorNumber v_trial_signs v_trial_rotorsF x1 x2 x3 = some (r_, v_trial_field', v_trial_tick', v_trial_pace', v_trial_signNumber', v_trial_rotorNumber', v_trial_signs', v_trial_rotorsF')) : MI l yX6_ahead cX6_ahead 4 .int rm_X6_ahead D (TS cI cB cZ cR cM cS) [.ref a_this, .int x1, .int x2, .int x3] [(a_this, .inr (6, [.ref a_tape, .ref a_now, .ref a_trial, .ref a_sights, .ref a_images, .ref a_sheets, .int v_readFault])), (a_now, .inr (0, [.int v_now_field, .int v_now_tick, .int v_now_pace, .int v_now_signNumber, .int v_now_rotorNumber, .ref a_now_signs, .ref a_now_rotors])), (a_now_signs, .inl (cI, 16, .inl v_now_signs)), (a_now_rotors, rfn cR 4 a_now_rotors_e), rcell a_now_rotors_e v_now_rotorsF 0, rcell a_now_rotors_e v_now_rotorsF 1, rcell a_now_rotors_e v_now_rotorsF 2, rcell a_now_rotors_e v_now_rotorsF 3, (a_trial, .inr (0, [.int v_trial_field, .int v_trial_tick, .int v_trial_pace, .int v_trial_signNumber, .int v_trial_rotorNumber, .ref a_trial_signs, .ref a_trial_rotors])), (a_trial_signs, .inl (cI, 16, .inl v_trial_signs)), (a_trial_rotors, rfn cR 4 a_trial_rotors_e), rcell a_trial_rotors_e v_trial_rotorsF 0, rcell a_trial_rotors_e v_trial_rotorsF 1, rcell a_trial_rotors_e v_trial_rotorsF 2, rcell a_trial_rotors_e v_trial_rotorsF 3] [(a_this, .inr (6, [.ref a_tape, .ref a_now, .ref a_trial, .ref a_sights, .ref a_images, .ref a_sheets, .int v_readFault])), (a_now, .inr (0, [.int v_now_field, .int v_now_tick, .int v_now_pace, .int v_now_signNumber, .int v_now_rotorNumber, .ref a_now_signs, .ref a_now_rotors])), (a_now_signs, .inl (cI, 16, .inl v_now_signs)), (a_now_rotors, rfn cR 4 a_now_rotors_e), rcell a_now_rotors_e v_now_rotorsF 0, rcell a_now_rotors_e v_now_rotorsF 1, rcell a_now_rotors_e v_now_rotorsF 2, rcell a_now_rotors_e v_now_rotorsF 3, (a_trial, .inr (0, [.int v_trial_field', .int v_trial_tick', .int v_trial_pace', .int v_trial_signNumber', .int v_trial_rotorNumber', .ref a_trial_signs, .ref a_trial_rotors])), (a_trial_signs, .inl (cI, 16, .inl v_trial_signs')), (a_trial_rotors, rfn cR 4 a_trial_rotors_e), rcell a_trial_rotors_e v_trial_rotorsF' 0, rcell a_trial_rotors_e v_trial_rotorsF' 1, rcell a_trial_rotors_e v_trial_rotorsF' 2, rcell a_trial_rotors_e v_trial_rotorsF' 3] r_ :=
  MI_of (by decide) (Nat.le_of_ble_eq_true rfl) (fun p e s m args below meth c A ls C hr hlk hK hA hP hD hS hl => by
    have C : CX p m c cX6_ahead 4 s args RX6 := C
    have hl : lv_has ls 4 [(0, .ref a_this), (1, .int x1), (2, .int x2), (3, .int x3)] := hl
    unfold F_X6_ahead at hF
    refine lv_aload_n C.1 C.2.1 dX6_ahead_0 rfl (lv_at hl 0 rfl) ?_
    refine lv_iload_n C.1 C.2.1 dX6_ahead_1 rfl (lv_at hl 1 rfl) ?_
    obtain ⟨r1, h2, hF⟩ := fb hF
    refine callVI C hK hA hP hD hS [0, 1] (c_X6_hasRotor (a_this := a_this) (a_tape := a_tape) (a_now := a_now) (a_trial := a_trial) (a_sights := a_sights) (a_images := a_images) (a_sheets := a_sheets) (a_now_signs := a_now_signs) (a_now_rotors := a_now_rotors) (v_readFault := v_readFault) (v_now_field := v_now_field) (v_now_tick := v_now_tick) (v_now_pace := v_now_pace) (v_now_signNumber := v_now_signNumber) (v_now_rotorNumber := v_now_rotorNumber) h2) cv_X6_hasRotor kw2_172 rfl (by decide) rfl rfl rfl ⟨Nat.le_of_ble_eq_true rfl, Nat.le_of_ble_eq_true rfl⟩ ⟨Nat.zero_le _, Nat.zero_le _⟩ hl.1 rfl (Nat.le_of_ble_eq_true rfl) dX6_ahead_2 (fun H locs hP hD hS => ?_)
    have hP : va_P D vwCl [(a_this, .inr (6, [.ref a_tape, .ref a_now, .ref a_trial, .ref a_sights, .ref a_images, .ref a_sheets, .int v_readFault])), (a_now, .inr (0, [.int v_now_field, .int v_now_tick, .int v_now_pace, .int v_now_signNumber, .int v_now_rotorNumber, .ref a_now_signs, .ref a_now_rotors])), (a_now_signs, .inl (cI, 16, .inl v_now_signs)), (a_now_rotors, rfn cR 4 a_now_rotors_e), rcell a_now_rotors_e v_now_rotorsF 0, rcell a_now_rotors_e v_now_rotorsF 1, rcell a_now_rotors_e v_now_rotorsF 2, rcell a_now_rotors_e v_now_rotorsF 3, (a_trial, .inr (0, [.int v_trial_field, .int v_trial_tick, .int v_trial_pace, .int v_trial_signNumber, .int v_trial_rotorNumber, .ref a_trial_signs, .ref a_trial_rotors])), (a_trial_signs, .inl (cI, 16, .inl v_trial_signs)), (a_trial_rotors, rfn cR 4 a_trial_rotors_e), rcell a_trial_rotors_e v_trial_rotorsF 0, rcell a_trial_rotors_e v_trial_rotorsF 1, rcell a_trial_rotors_e v_trial_rotorsF 2, rcell a_trial_rotors_e v_trial_rotorsF 3] H := hP
    have hD : va_D A [(a_this, .inr (6, [.ref a_tape, .ref a_now, .ref a_trial, .ref a_sights, .ref a_images, .ref a_sheets, .int v_readFault])), (a_now, .inr (0, [.int v_now_field, .int v_now_tick, .int v_now_pace, .int v_now_signNumber, .int v_now_rotorNumber, .ref a_now_signs, .ref a_now_rotors])), (a_now_signs, .inl (cI, 16, .inl v_now_signs)), (a_now_rotors, rfn cR 4 a_now_rotors_e), rcell a_now_rotors_e v_now_rotorsF 0, rcell a_now_rotors_e v_now_rotorsF 1, rcell a_now_rotors_e v_now_rotorsF 2, rcell a_now_rotors_e v_now_rotorsF 3, (a_trial, .inr (0, [.int v_trial_field, .int v_trial_tick, .int v_trial_pace, .int v_trial_signNumber, .int v_trial_rotorNumber, .ref a_trial_signs, .ref a_trial_rotors])), (a_trial_signs, .inl (cI, 16, .inl v_trial_signs)), (a_trial_rotors, rfn cR 4 a_trial_rotors_e), rcell a_trial_rotors_e v_trial_rotorsF 0, rcell a_trial_rotors_e v_trial_rotorsF 1, rcell a_trial_rotors_e v_trial_rotorsF 2, rcell a_trial_rotors_e v_trial_rotorsF 3] := hD
    refine lv_if_eq (tgt := 26) C.1 C.2.1 dX6_ahead_5 (by decide) (fun c3 => ?_) (fun c3 => ?_)
    · have hF := fp hF c3
      refine lv_iconst (v := (-1)) C.1 C.2.1 dX6_ahead_26 (by decide) ?_
      cases hF
      exact retI C hr hlk hP hD hS dX6_ahead_27
    · have hF := fn hF c3
      refine lv_iload_n C.1 C.2.1 dX6_ahead_8 rfl (lv_at hl 2 rfl) ?_
      refine lv_sipush (v := 200) C.1 C.2.1 dX6_ahead_9 (by decide) ?_
      obtain ⟨r4, h5, hF⟩ := fb hF
      refine callSI C hK hA hP hD hS (c_X6_within  h5) cs_X6_within kw1_227 ⟨Nat.le_of_ble_eq_true rfl, Nat.le_of_ble_eq_true rfl⟩ ⟨Nat.zero_le _, Nat.zero_le _⟩ hl.1 rfl (Nat.le_of_ble_eq_true rfl) dX6_ahead_12 (fun H locs hP hD hS => ?_)
      refine lv_if_eq (tgt := 26) C.1 C.2.1 dX6_ahead_15 (by decide) (fun c6 => ?_) (fun c6 => ?_)
      · have hF := fp hF c6
        refine lv_iconst (v := (-1)) C.1 C.2.1 dX6_ahead_26 (by decide) ?_
        cases hF
        exact retI C hr hlk hP hD hS dX6_ahead_27
      · have hF := fn hF c6
        refine lv_iload_n C.1 C.2.1 dX6_ahead_18 rfl (lv_at hl 3 rfl) ?_
        refine lv_iconst (v := 1) C.1 C.2.1 dX6_ahead_19 (by decide) ?_
        obtain ⟨r7, h8, hF⟩ := fb hF
        refine callSI C hK hA hP hD hS (c_X6_within  h8) cs_X6_within kw1_227 ⟨Nat.le_of_ble_eq_true rfl, Nat.le_of_ble_eq_true rfl⟩ ⟨Nat.zero_le _, Nat.zero_le _⟩ hl.1 rfl (Nat.le_of_ble_eq_true rfl) dX6_ahead_20 (fun H locs hP hD hS => ?_)
        refine lv_if_ne (tgt := 28) C.1 C.2.1 dX6_ahead_23 (by decide) (fun c9 => ?_) (fun c9 => ?_)
        · have hF := fn hF c9
          refine lv_aload_n C.1 C.2.1 dX6_ahead_28 rfl (lv_at hl 0 rfl) ?_
          refine gf_6_6_trial C hK hP 0 rfl rfl dX6_ahead_29 ?_
          refine lv_aload_n C.1 C.2.1 dX6_ahead_32 rfl (lv_at hl 0 rfl) ?_
          refine gf_6_6_now C hK hP 0 rfl rfl dX6_ahead_33 ?_
          obtain ⟨⟨w10, w11, w12, w13, w14, w15, w16⟩, h17, hF⟩ := fb hF
          refine callVV C hK hA hP hD hS [8, 9, 10, 11, 12, 13, 14, 1, 2, 3, 4, 5, 6, 7] (c_X0_copyFrom (a_this := a_trial) (a_signs := a_trial_signs) (a_rotors := a_trial_rotors) (a_rotors_e := a_trial_rotors_e) (a_o1 := a_now) (a_o1_signs := a_now_signs) (a_o1_rotors := a_now_rotors) (a_o1_rotors_e := a_now_rotors_e) (v_field := v_trial_field) (v_tick := v_trial_tick) (v_pace := v_trial_pace) (v_signNumber := v_trial_signNumber) (v_rotorNumber := v_trial_rotorNumber) (v_signs := v_trial_signs) (v_rotorsF := v_trial_rotorsF) (v_o1_field := v_now_field) (v_o1_tick := v_now_tick) (v_o1_pace := v_now_pace) (v_o1_signNumber := v_now_signNumber) (v_o1_rotorNumber := v_now_rotorNumber) (v_o1_signs := v_now_signs) (v_o1_rotorsF := v_now_rotorsF) h17) cv_X0_copyFrom kw2_124 rfl (by decide) rfl rfl rfl ⟨Nat.le_of_ble_eq_true rfl, Nat.le_of_ble_eq_true rfl⟩ ⟨Nat.zero_le _, Nat.zero_le _⟩ hl.1 rfl (Nat.le_of_ble_eq_true rfl) dX6_ahead_36 (fun H locs hP hD hS => ?_)
          have hP : va_P D vwCl [(a_this, .inr (6, [.ref a_tape, .ref a_now, .ref a_trial, .ref a_sights, .ref a_images, .ref a_sheets, .int v_readFault])), (a_now, .inr (0, [.int v_now_field, .int v_now_tick, .int v_now_pace, .int v_now_signNumber, .int v_now_rotorNumber, .ref a_now_signs, .ref a_now_rotors])), (a_now_signs, .inl (cI, 16, .inl v_now_signs)), (a_now_rotors, rfn cR 4 a_now_rotors_e), rcell a_now_rotors_e v_now_rotorsF 0, rcell a_now_rotors_e v_now_rotorsF 1, rcell a_now_rotors_e v_now_rotorsF 2, rcell a_now_rotors_e v_now_rotorsF 3, (a_trial, .inr (0, [.int w10, .int w11, .int w12, .int w13, .int w14, .ref a_trial_signs, .ref a_trial_rotors])), (a_trial_signs, .inl (cI, 16, .inl w15)), (a_trial_rotors, rfn cR 4 a_trial_rotors_e), rcell a_trial_rotors_e w16 0, rcell a_trial_rotors_e w16 1, rcell a_trial_rotors_e w16 2, rcell a_trial_rotors_e w16 3] H := hP
          have hD : va_D A [(a_this, .inr (6, [.ref a_tape, .ref a_now, .ref a_trial, .ref a_sights, .ref a_images, .ref a_sheets, .int v_readFault])), (a_now, .inr (0, [.int v_now_field, .int v_now_tick, .int v_now_pace, .int v_now_signNumber, .int v_now_rotorNumber, .ref a_now_signs, .ref a_now_rotors])), (a_now_signs, .inl (cI, 16, .inl v_now_signs)), (a_now_rotors, rfn cR 4 a_now_rotors_e), rcell a_now_rotors_e v_now_rotorsF 0, rcell a_now_rotors_e v_now_rotorsF 1, rcell a_now_rotors_e v_now_rotorsF 2, rcell a_now_rotors_e v_now_rotorsF 3, (a_trial, .inr (0, [.int w10, .int w11, .int w12, .int w13, .int w14, .ref a_trial_signs, .ref a_trial_rotors])), (a_trial_signs, .inl (cI, 16, .inl w15)), (a_trial_rotors, rfn cR 4 a_trial_rotors_e), rcell a_trial_rotors_e w16 0, rcell a_trial_rotors_e w16 1, rcell a_trial_rotors_e w16 2, rcell a_trial_rotors_e w16 3] := hD
          refine lv_aload_n C.1 C.2.1 dX6_ahead_39 rfl (lv_at hl 0 rfl) ?_
          refine gf_6_6_trial C hK hP 0 rfl rfl dX6_ahead_40 ?_
          refine lv_iload_n C.1 C.2.1 dX6_ahead_43 rfl (lv_at hl 2 rfl) ?_
          obtain ⟨⟨r18, w19, w20, w21⟩, h22, hF⟩ := fb hF
          refine callVI C hK hA hP hD hS [8, 9, 10, 11, 12, 13, 14] (c_X0_go (a_this := a_trial) (a_signs := a_trial_signs) (a_rotors := a_trial_rotors) (a_rotors_e := a_trial_rotors_e) (v_field := w10) (v_tick := w11) (v_pace := w12) (v_signNumber := w13) (v_rotorNumber := w14) (v_signs := w15) (v_rotorsF := w16) h22) cv_X0_go kw2_220 rfl (by decide) rfl rfl rfl ⟨Nat.le_of_ble_eq_true rfl, Nat.le_of_ble_eq_true rfl⟩ ⟨Nat.zero_le _, Nat.zero_le _⟩ hl.1 rfl (Nat.le_of_ble_eq_true rfl) dX6_ahead_44 (fun H locs hP hD hS => ?_)
          have hP : va_P D vwCl [(a_this, .inr (6, [.ref a_tape, .ref a_now, .ref a_trial, .ref a_sights, .ref a_images, .ref a_sheets, .int v_readFault])), (a_now, .inr (0, [.int v_now_field, .int v_now_tick, .int v_now_pace, .int v_now_signNumber, .int v_now_rotorNumber, .ref a_now_signs, .ref a_now_rotors])), (a_now_signs, .inl (cI, 16, .inl v_now_signs)), (a_now_rotors, rfn cR 4 a_now_rotors_e), rcell a_now_rotors_e v_now_rotorsF 0, rcell a_now_rotors_e v_now_rotorsF 1, rcell a_now_rotors_e v_now_rotorsF 2, rcell a_now_rotors_e v_now_rotorsF 3, (a_trial, .inr (0, [.int w19, .int w20, .int w12, .int w13, .int w14, .ref a_trial_signs, .ref a_trial_rotors])), (a_trial_signs, .inl (cI, 16, .inl w15)), (a_trial_rotors, rfn cR 4 a_trial_rotors_e), rcell a_trial_rotors_e w21 0, rcell a_trial_rotors_e w21 1, rcell a_trial_rotors_e w21 2, rcell a_trial_rotors_e w21 3] H := hP
          have hD : va_D A [(a_this, .inr (6, [.ref a_tape, .ref a_now, .ref a_trial, .ref a_sights, .ref a_images, .ref a_sheets, .int v_readFault])), (a_now, .inr (0, [.int v_now_field, .int v_now_tick, .int v_now_pace, .int v_now_signNumber, .int v_now_rotorNumber, .ref a_now_signs, .ref a_now_rotors])), (a_now_signs, .inl (cI, 16, .inl v_now_signs)), (a_now_rotors, rfn cR 4 a_now_rotors_e), rcell a_now_rotors_e v_now_rotorsF 0, rcell a_now_rotors_e v_now_rotorsF 1, rcell a_now_rotors_e v_now_rotorsF 2, rcell a_now_rotors_e v_now_rotorsF 3, (a_trial, .inr (0, [.int w19, .int w20, .int w12, .int w13, .int w14, .ref a_trial_signs, .ref a_trial_rotors])), (a_trial_signs, .inl (cI, 16, .inl w15)), (a_trial_rotors, rfn cR 4 a_trial_rotors_e), rcell a_trial_rotors_e w21 0, rcell a_trial_rotors_e w21 1, rcell a_trial_rotors_e w21 2, rcell a_trial_rotors_e w21 3] := hD
          refine lv_pop C.1 C.2.1 dX6_ahead_47 rfl ?_
          refine lv_ldc (v := 100000) C.1 C.2.1 C.2.2.2.1 (C.2.2.2.2 _ kw2_143) dX6_ahead_48 ?_
          refine lv_iload_n C.1 C.2.1 dX6_ahead_50 rfl (lv_at hl 3 rfl) ?_
          refine lv_if_ne (tgt := 69) C.1 C.2.1 dX6_ahead_51 (by decide) (fun c23 => ?_) (fun c23 => ?_)
          · have hF := fn hF c23
            refine lv_aload_n C.1 C.2.1 dX6_ahead_69 rfl (lv_at hl 0 rfl) ?_
            refine gf_6_6_trial C hK hP 0 rfl rfl dX6_ahead_70 ?_
            refine lv_iload_n C.1 C.2.1 dX6_ahead_73 rfl (lv_at hl 1 rfl) ?_
            obtain ⟨r24, h25, hF⟩ := fb hF
            refine callVI C hK hA hP hD hS [8, 10, 11, 12, 13, 14] (c_X0_lostOf (a_this := a_trial) (a_signs := a_trial_signs) (a_rotors := a_trial_rotors) (a_rotors_e := a_trial_rotors_e) (v_field := w19) (v_tick := w20) (v_pace := w12) (v_signNumber := w13) (v_rotorNumber := w14) (v_rotorsF := w21) h25) cv_X0_lostOf kw3_14 rfl (by decide) rfl rfl rfl ⟨Nat.le_of_ble_eq_true rfl, Nat.le_of_ble_eq_true rfl⟩ ⟨Nat.zero_le _, Nat.zero_le _⟩ hl.1 rfl (Nat.le_of_ble_eq_true rfl) dX6_ahead_74 (fun H locs hP hD hS => ?_)
            have hP : va_P D vwCl [(a_this, .inr (6, [.ref a_tape, .ref a_now, .ref a_trial, .ref a_sights, .ref a_images, .ref a_sheets, .int v_readFault])), (a_now, .inr (0, [.int v_now_field, .int v_now_tick, .int v_now_pace, .int v_now_signNumber, .int v_now_rotorNumber, .ref a_now_signs, .ref a_now_rotors])), (a_now_signs, .inl (cI, 16, .inl v_now_signs)), (a_now_rotors, rfn cR 4 a_now_rotors_e), rcell a_now_rotors_e v_now_rotorsF 0, rcell a_now_rotors_e v_now_rotorsF 1, rcell a_now_rotors_e v_now_rotorsF 2, rcell a_now_rotors_e v_now_rotorsF 3, (a_trial, .inr (0, [.int w19, .int w20, .int w12, .int w13, .int w14, .ref a_trial_signs, .ref a_trial_rotors])), (a_trial_signs, .inl (cI, 16, .inl w15)), (a_trial_rotors, rfn cR 4 a_trial_rotors_e), rcell a_trial_rotors_e w21 0, rcell a_trial_rotors_e w21 1, rcell a_trial_rotors_e w21 2, rcell a_trial_rotors_e w21 3] H := hP
            have hD : va_D A [(a_this, .inr (6, [.ref a_tape, .ref a_now, .ref a_trial, .ref a_sights, .ref a_images, .ref a_sheets, .int v_readFault])), (a_now, .inr (0, [.int v_now_field, .int v_now_tick, .int v_now_pace, .int v_now_signNumber, .int v_now_rotorNumber, .ref a_now_signs, .ref a_now_rotors])), (a_now_signs, .inl (cI, 16, .inl v_now_signs)), (a_now_rotors, rfn cR 4 a_now_rotors_e), rcell a_now_rotors_e v_now_rotorsF 0, rcell a_now_rotors_e v_now_rotorsF 1, rcell a_now_rotors_e v_now_rotorsF 2, rcell a_now_rotors_e v_now_rotorsF 3, (a_trial, .inr (0, [.int w19, .int w20, .int w12, .int w13, .int w14, .ref a_trial_signs, .ref a_trial_rotors])), (a_trial_signs, .inl (cI, 16, .inl w15)), (a_trial_rotors, rfn cR 4 a_trial_rotors_e), rcell a_trial_rotors_e w21 0, rcell a_trial_rotors_e w21 1, rcell a_trial_rotors_e w21 2, rcell a_trial_rotors_e w21 3] := hD
            refine lv_iadd C.1 C.2.1 dX6_ahead_77 ?_
            cases hF
            exact retI C hr hlk hP hD hS dX6_ahead_78
          · have hF := fp hF c23
            refine lv_aload_n C.1 C.2.1 dX6_ahead_54 rfl (lv_at hl 0 rfl) ?_
            refine gf_6_6_trial C hK hP 0 rfl rfl dX6_ahead_55 ?_
            refine gf_6_0_rotors C hK hP 8 rfl rfl dX6_ahead_58 ?_
            refine lv_iload_n C.1 C.2.1 dX6_ahead_61 rfl (lv_at hl 1 rfl) ?_
            obtain ⟨h26, hF⟩ := fk hF
            refine aldR C hK hP 10 3 rfl rfl h26 dX6_ahead_62 ?_
            have hk27 : x1.toNatClampNeg < 4 := Nat.not_le.mp (fun q => h26 (Or.inr q))
            refine gf_6_2_place C hK hP (11 + x1.toNatClampNeg) (famget 11 (rcell a_trial_rotors_e w21) rfl rfl rfl rfl hk27) rfl dX6_ahead_63 ?_
            refine lv_goto (tgt := 77) C.1 C.2.1 dX6_ahead_66 (by decide) ?_
            refine lv_iadd C.1 C.2.1 dX6_ahead_77 ?_
            cases hF
            exact retI C hr hlk hP hD hS dX6_ahead_78
        · have hF := fp hF c9
          refine lv_iconst (v := (-1)) C.1 C.2.1 dX6_ahead_26 (by decide) ?_
          cases hF
          exact retI C hr hlk hP hD hS dX6_ahead_27)
