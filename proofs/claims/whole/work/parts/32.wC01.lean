def rm_X6_turn : Room := { frames := 1, cells := 0, slots := 0, locals := 23 }
theorem cv_X6_turn : CV yX6_turn cX6_turn 5 (some .int) rm_X6_turn RX6 2 := ⟨kw2_191, kw2_192, kw1_1, kw2_193, by decide +kernel, rfl, rfl⟩
set_option maxHeartbeats 4000000 in
set_option maxRecDepth 100000 in
theorem c0_X6_turn {l : Launch} {D : va_G} {cI cB cZ cR cM cS : ClassId} {a_this : Nat} {a_tape : Nat} {a_now : Nat} {a_trial : Nat} {a_sights : Nat} {a_images : Nat} {a_sheets : Nat} {a_now_signs : Nat} {a_now_rotors : Nat} {a_now_rotors_e : Nat → Nat} {v_readFault : Int32} {v_now_field : Int32} {v_now_tick : Int32} {v_now_pace : Int32} {v_now_signNumber : Int32} {v_now_rotorNumber : Int32} {v_now_rotorsF : Nat → Rot} {x1 : Int32} {x2 : Int32} {res : Int32 × (Nat → Rot)} (hF : F_X6_turn v_now_rotorNumber v_now_rotorsF x1 x2 = some res) : MI l yX6_turn cX6_turn 5 .int rm_X6_turn D (TS cI cB cZ cR cM cS) [.ref a_this, .int x1, .int x2] [(a_this, .inr (6, [.ref a_tape, .ref a_now, .ref a_trial, .ref a_sights, .ref a_images, .ref a_sheets, .int v_readFault])), (a_now, .inr (0, [.int v_now_field, .int v_now_tick, .int v_now_pace, .int v_now_signNumber, .int v_now_rotorNumber, .ref a_now_signs, .ref a_now_rotors])), (a_now_rotors, rfn cR 4 a_now_rotors_e), rcell a_now_rotors_e v_now_rotorsF 0, rcell a_now_rotors_e v_now_rotorsF 1, rcell a_now_rotors_e v_now_rotorsF 2, rcell a_now_rotors_e v_now_rotorsF 3] [(a_this, .inr (6, [.ref a_tape, .ref a_now, .ref a_trial, .ref a_sights, .ref a_images, .ref a_sheets, .int v_readFault])), (a_now, .inr (0, [.int v_now_field, .int v_now_tick, .int v_now_pace, .int v_now_signNumber, .int v_now_rotorNumber, .ref a_now_signs, .ref a_now_rotors])), (a_now_rotors, rfn cR 4 a_now_rotors_e), rcell a_now_rotors_e res.2 0, rcell a_now_rotors_e res.2 1, rcell a_now_rotors_e res.2 2, rcell a_now_rotors_e res.2 3] res.1 :=
  MI_of (by decide) (Nat.le_of_ble_eq_true rfl) (fun p e s m args below meth c A ls C hr hlk hK hA hP hD hS hl => by
    have C : CX p m c cX6_turn 5 s args RX6 := C
    have hl : lv_has ls 5 [(0, .ref a_this), (1, .int x1), (2, .int x2)] := hl
    unfold F_X6_turn at hF
    refine lv_aload_n C.1 C.2.1 dX6_turn_0 rfl (lv_at hl 0 rfl) ?_
    refine lv_iload_n C.1 C.2.1 dX6_turn_1 rfl (lv_at hl 1 rfl) ?_
    obtain ⟨r1, h2, hF⟩ := fb hF
    refine callVI C hK hA hP hD hS [0, 1] (c_X6_hasRotor (a_this := a_this) (a_tape := a_tape) (a_now := a_now) (a_trial := a_trial) (a_sights := a_sights) (a_images := a_images) (a_sheets := a_sheets) (a_now_signs := a_now_signs) (a_now_rotors := a_now_rotors) (v_readFault := v_readFault) (v_now_field := v_now_field) (v_now_tick := v_now_tick) (v_now_pace := v_now_pace) (v_now_signNumber := v_now_signNumber) (v_now_rotorNumber := v_now_rotorNumber) h2) cv_X6_hasRotor kw2_172 rfl (by decide) rfl rfl rfl ⟨Nat.le_of_ble_eq_true rfl, Nat.le_of_ble_eq_true rfl⟩ ⟨Nat.zero_le _, Nat.zero_le _⟩ hl.1 rfl (Nat.le_of_ble_eq_true rfl) dX6_turn_2 (fun H locs hP hD hS => ?_)
    have hP : va_P D vwCl [(a_this, .inr (6, [.ref a_tape, .ref a_now, .ref a_trial, .ref a_sights, .ref a_images, .ref a_sheets, .int v_readFault])), (a_now, .inr (0, [.int v_now_field, .int v_now_tick, .int v_now_pace, .int v_now_signNumber, .int v_now_rotorNumber, .ref a_now_signs, .ref a_now_rotors])), (a_now_rotors, rfn cR 4 a_now_rotors_e), rcell a_now_rotors_e v_now_rotorsF 0, rcell a_now_rotors_e v_now_rotorsF 1, rcell a_now_rotors_e v_now_rotorsF 2, rcell a_now_rotors_e v_now_rotorsF 3] H := hP
    have hD : va_D A [(a_this, .inr (6, [.ref a_tape, .ref a_now, .ref a_trial, .ref a_sights, .ref a_images, .ref a_sheets, .int v_readFault])), (a_now, .inr (0, [.int v_now_field, .int v_now_tick, .int v_now_pace, .int v_now_signNumber, .int v_now_rotorNumber, .ref a_now_signs, .ref a_now_rotors])), (a_now_rotors, rfn cR 4 a_now_rotors_e), rcell a_now_rotors_e v_now_rotorsF 0, rcell a_now_rotors_e v_now_rotorsF 1, rcell a_now_rotors_e v_now_rotorsF 2, rcell a_now_rotors_e v_now_rotorsF 3] := hD
    refine lv_if_eq (tgt := 17) C.1 C.2.1 dX6_turn_5 (by decide) (fun c3 => ?_) (fun c3 => ?_)
    · have hF := fp hF c3
      refine lv_iconst (v := (-1)) C.1 C.2.1 dX6_turn_17 (by decide) ?_
      have hF := Option.some.inj hF
      subst hF
      exact retI C hr hlk hP hD hS dX6_turn_18
    · have hF := fn hF c3
      refine lv_iload_n C.1 C.2.1 dX6_turn_8 rfl (lv_at hl 2 rfl) ?_
      refine lv_bipush (v := 16) C.1 C.2.1 dX6_turn_9 (by decide) ?_
      obtain ⟨r4, h5, hF⟩ := fb hF
      refine callSI C hK hA hP hD hS (c_X6_within  h5) cs_X6_within kw1_227 ⟨Nat.le_of_ble_eq_true rfl, Nat.le_of_ble_eq_true rfl⟩ ⟨Nat.zero_le _, Nat.zero_le _⟩ hl.1 rfl (Nat.le_of_ble_eq_true rfl) dX6_turn_11 (fun H locs hP hD hS => ?_)
      refine lv_if_ne (tgt := 19) C.1 C.2.1 dX6_turn_14 (by decide) (fun c6 => ?_) (fun c6 => ?_)
      · have hF := fn hF c6
        refine lv_aload_n C.1 C.2.1 dX6_turn_19 rfl (lv_at hl 0 rfl) ?_
        refine gf_6_6_now C hK hP 0 rfl rfl dX6_turn_20 ?_
        refine gf_6_0_rotors C hK hP 1 rfl rfl dX6_turn_23 ?_
        refine lv_iload_n C.1 C.2.1 dX6_turn_26 rfl (lv_at hl 1 rfl) ?_
        obtain ⟨h7, hF⟩ := fk hF
        refine aldR C hK hP 2 3 rfl rfl h7 dX6_turn_27 ?_
        have hk8 : x1.toNatClampNeg < 4 := Nat.not_le.mp (fun q => h7 (Or.inr q))
        refine lv_astore_n (lv' := [(3, .ref (a_now_rotors_e x1.toNatClampNeg)), (0, .ref a_this), (1, .int x1), (2, .int x2)]) C.1 C.2.1 dX6_turn_28 rfl hl (by decide) rfl (fun ls hl => ?_)
        refine lv_aload_n C.1 C.2.1 dX6_turn_29 rfl (lv_at hl 0 rfl) ?_
        refine gf_6_2_place C hK hP (3 + x1.toNatClampNeg) (famget 3 (rcell a_now_rotors_e v_now_rotorsF) rfl rfl rfl rfl hk8) rfl dX6_turn_30 ?_
        refine lv_iload_n C.1 C.2.1 dX6_turn_33 rfl (lv_at hl 3 rfl) ?_
        refine lv_iadd C.1 C.2.1 dX6_turn_34 ?_
        refine lv_bipush (v := 8) C.1 C.2.1 dX6_turn_35 (by decide) ?_
        refine lv_isub C.1 C.2.1 dX6_turn_37 ?_
        refine lv_istore (lv' := [(4, .int ((((v_now_rotorsF x1.toNatClampNeg).2.2.1) + x2) - (8 : Int32))), (3, .ref (a_now_rotors_e x1.toNatClampNeg)), (0, .ref a_this), (1, .int x1), (2, .int x2)]) C.1 C.2.1 dX6_turn_38 hl (by decide) rfl (fun ls hl => ?_)
        refine lv_iload C.1 C.2.1 dX6_turn_40 (lv_at hl 0 rfl) ?_
        refine va_mabs C.1 C.2.1 (C.2.2.1.trans hl.1.symm) C.2.2.2.1 (C.2.2.2.2 _ kw2_194) (C.2.2.2.2 _ kw2_157) (C.2.2.2.2 _ kw1_14) (C.2.2.2.2 _ kw2_158) (Nat.le_of_ble_eq_true rfl) (Nat.le_of_ble_eq_true rfl) (Nat.zero_le _) (Nat.zero_le _) dX6_turn_42 ?_
        refine lv_sipush (v := 30000) C.1 C.2.1 dX6_turn_45 (by decide) ?_
        refine lv_icmp_le (tgt := 54) C.1 C.2.1 dX6_turn_48 (by decide) (fun c9 => ?_) (fun c9 => ?_)
        · have hF := fp hF c9
          refine lv_aload_n C.1 C.2.1 dX6_turn_54 rfl (lv_at hl 1 rfl) ?_
          refine lv_iload C.1 C.2.1 dX6_turn_55 (lv_at hl 0 rfl) ?_
          refine pf_6_2_place C hK hP hD hS (3 + x1.toNatClampNeg) (famget 3 (rcell a_now_rotors_e v_now_rotorsF) rfl rfl rfl rfl hk8) rfl dX6_turn_57 (fun H locs hP hD hS => ?_)
          have hP := va_Pe (famsetR (a := a_now_rotors_e) (ρ := v_now_rotorsF) 3 rfl rfl rfl rfl hk8 ((v_now_rotorsF x1.toNatClampNeg).1) ((v_now_rotorsF x1.toNatClampNeg).2.1) ((((v_now_rotorsF x1.toNatClampNeg).2.2.1) + x2) - (8 : Int32)) ((v_now_rotorsF x1.toNatClampNeg).2.2.2)) hP
          have hD := va_De (famsetR (a := a_now_rotors_e) (ρ := v_now_rotorsF) 3 rfl rfl rfl rfl hk8 ((v_now_rotorsF x1.toNatClampNeg).1) ((v_now_rotorsF x1.toNatClampNeg).2.1) ((((v_now_rotorsF x1.toNatClampNeg).2.2.1) + x2) - (8 : Int32)) ((v_now_rotorsF x1.toNatClampNeg).2.2.2)) hD
          have hP : va_P D vwCl [(a_this, .inr (6, [.ref a_tape, .ref a_now, .ref a_trial, .ref a_sights, .ref a_images, .ref a_sheets, .int v_readFault])), (a_now, .inr (0, [.int v_now_field, .int v_now_tick, .int v_now_pace, .int v_now_signNumber, .int v_now_rotorNumber, .ref a_now_signs, .ref a_now_rotors])), (a_now_rotors, rfn cR 4 a_now_rotors_e), rcell a_now_rotors_e (up v_now_rotorsF x1.toNatClampNeg ((v_now_rotorsF x1.toNatClampNeg).1, (v_now_rotorsF x1.toNatClampNeg).2.1, (((v_now_rotorsF x1.toNatClampNeg).2.2.1) + x2) - (8 : Int32), (v_now_rotorsF x1.toNatClampNeg).2.2.2)) 0, rcell a_now_rotors_e (up v_now_rotorsF x1.toNatClampNeg ((v_now_rotorsF x1.toNatClampNeg).1, (v_now_rotorsF x1.toNatClampNeg).2.1, (((v_now_rotorsF x1.toNatClampNeg).2.2.1) + x2) - (8 : Int32), (v_now_rotorsF x1.toNatClampNeg).2.2.2)) 1, rcell a_now_rotors_e (up v_now_rotorsF x1.toNatClampNeg ((v_now_rotorsF x1.toNatClampNeg).1, (v_now_rotorsF x1.toNatClampNeg).2.1, (((v_now_rotorsF x1.toNatClampNeg).2.2.1) + x2) - (8 : Int32), (v_now_rotorsF x1.toNatClampNeg).2.2.2)) 2, rcell a_now_rotors_e (up v_now_rotorsF x1.toNatClampNeg ((v_now_rotorsF x1.toNatClampNeg).1, (v_now_rotorsF x1.toNatClampNeg).2.1, (((v_now_rotorsF x1.toNatClampNeg).2.2.1) + x2) - (8 : Int32), (v_now_rotorsF x1.toNatClampNeg).2.2.2)) 3] H := hP
          have hD : va_D A [(a_this, .inr (6, [.ref a_tape, .ref a_now, .ref a_trial, .ref a_sights, .ref a_images, .ref a_sheets, .int v_readFault])), (a_now, .inr (0, [.int v_now_field, .int v_now_tick, .int v_now_pace, .int v_now_signNumber, .int v_now_rotorNumber, .ref a_now_signs, .ref a_now_rotors])), (a_now_rotors, rfn cR 4 a_now_rotors_e), rcell a_now_rotors_e (up v_now_rotorsF x1.toNatClampNeg ((v_now_rotorsF x1.toNatClampNeg).1, (v_now_rotorsF x1.toNatClampNeg).2.1, (((v_now_rotorsF x1.toNatClampNeg).2.2.1) + x2) - (8 : Int32), (v_now_rotorsF x1.toNatClampNeg).2.2.2)) 0, rcell a_now_rotors_e (up v_now_rotorsF x1.toNatClampNeg ((v_now_rotorsF x1.toNatClampNeg).1, (v_now_rotorsF x1.toNatClampNeg).2.1, (((v_now_rotorsF x1.toNatClampNeg).2.2.1) + x2) - (8 : Int32), (v_now_rotorsF x1.toNatClampNeg).2.2.2)) 1, rcell a_now_rotors_e (up v_now_rotorsF x1.toNatClampNeg ((v_now_rotorsF x1.toNatClampNeg).1, (v_now_rotorsF x1.toNatClampNeg).2.1, (((v_now_rotorsF x1.toNatClampNeg).2.2.1) + x2) - (8 : Int32), (v_now_rotorsF x1.toNatClampNeg).2.2.2)) 2, rcell a_now_rotors_e (up v_now_rotorsF x1.toNatClampNeg ((v_now_rotorsF x1.toNatClampNeg).1, (v_now_rotorsF x1.toNatClampNeg).2.1, (((v_now_rotorsF x1.toNatClampNeg).2.2.1) + x2) - (8 : Int32), (v_now_rotorsF x1.toNatClampNeg).2.2.2)) 3] := hD
          refine lv_aload_n C.1 C.2.1 dX6_turn_60 rfl (lv_at hl 1 rfl) ?_
          refine lv_iconst (v := 0) C.1 C.2.1 dX6_turn_61 (by decide) ?_
          refine pf_6_2_way C hK hP hD hS (3 + x1.toNatClampNeg) (famget 3 (rcell a_now_rotors_e (up v_now_rotorsF x1.toNatClampNeg ((v_now_rotorsF x1.toNatClampNeg).1, (v_now_rotorsF x1.toNatClampNeg).2.1, (((v_now_rotorsF x1.toNatClampNeg).2.2.1) + x2) - (8 : Int32), (v_now_rotorsF x1.toNatClampNeg).2.2.2))) rfl rfl rfl rfl hk8) rfl dX6_turn_62 (fun H locs hP hD hS => ?_)
          have hP := va_Pe (famsetR (a := a_now_rotors_e) (ρ := up v_now_rotorsF x1.toNatClampNeg ((v_now_rotorsF x1.toNatClampNeg).1, (v_now_rotorsF x1.toNatClampNeg).2.1, (((v_now_rotorsF x1.toNatClampNeg).2.2.1) + x2) - (8 : Int32), (v_now_rotorsF x1.toNatClampNeg).2.2.2)) 3 rfl rfl rfl rfl hk8 (((up v_now_rotorsF x1.toNatClampNeg ((v_now_rotorsF x1.toNatClampNeg).1, (v_now_rotorsF x1.toNatClampNeg).2.1, (((v_now_rotorsF x1.toNatClampNeg).2.2.1) + x2) - (8 : Int32), (v_now_rotorsF x1.toNatClampNeg).2.2.2)) x1.toNatClampNeg).1) (((up v_now_rotorsF x1.toNatClampNeg ((v_now_rotorsF x1.toNatClampNeg).1, (v_now_rotorsF x1.toNatClampNeg).2.1, (((v_now_rotorsF x1.toNatClampNeg).2.2.1) + x2) - (8 : Int32), (v_now_rotorsF x1.toNatClampNeg).2.2.2)) x1.toNatClampNeg).2.1) (((up v_now_rotorsF x1.toNatClampNeg ((v_now_rotorsF x1.toNatClampNeg).1, (v_now_rotorsF x1.toNatClampNeg).2.1, (((v_now_rotorsF x1.toNatClampNeg).2.2.1) + x2) - (8 : Int32), (v_now_rotorsF x1.toNatClampNeg).2.2.2)) x1.toNatClampNeg).2.2.1) (0 : Int32)) hP
          have hD := va_De (famsetR (a := a_now_rotors_e) (ρ := up v_now_rotorsF x1.toNatClampNeg ((v_now_rotorsF x1.toNatClampNeg).1, (v_now_rotorsF x1.toNatClampNeg).2.1, (((v_now_rotorsF x1.toNatClampNeg).2.2.1) + x2) - (8 : Int32), (v_now_rotorsF x1.toNatClampNeg).2.2.2)) 3 rfl rfl rfl rfl hk8 (((up v_now_rotorsF x1.toNatClampNeg ((v_now_rotorsF x1.toNatClampNeg).1, (v_now_rotorsF x1.toNatClampNeg).2.1, (((v_now_rotorsF x1.toNatClampNeg).2.2.1) + x2) - (8 : Int32), (v_now_rotorsF x1.toNatClampNeg).2.2.2)) x1.toNatClampNeg).1) (((up v_now_rotorsF x1.toNatClampNeg ((v_now_rotorsF x1.toNatClampNeg).1, (v_now_rotorsF x1.toNatClampNeg).2.1, (((v_now_rotorsF x1.toNatClampNeg).2.2.1) + x2) - (8 : Int32), (v_now_rotorsF x1.toNatClampNeg).2.2.2)) x1.toNatClampNeg).2.1) (((up v_now_rotorsF x1.toNatClampNeg ((v_now_rotorsF x1.toNatClampNeg).1, (v_now_rotorsF x1.toNatClampNeg).2.1, (((v_now_rotorsF x1.toNatClampNeg).2.2.1) + x2) - (8 : Int32), (v_now_rotorsF x1.toNatClampNeg).2.2.2)) x1.toNatClampNeg).2.2.1) (0 : Int32)) hD
          have hP : va_P D vwCl [(a_this, .inr (6, [.ref a_tape, .ref a_now, .ref a_trial, .ref a_sights, .ref a_images, .ref a_sheets, .int v_readFault])), (a_now, .inr (0, [.int v_now_field, .int v_now_tick, .int v_now_pace, .int v_now_signNumber, .int v_now_rotorNumber, .ref a_now_signs, .ref a_now_rotors])), (a_now_rotors, rfn cR 4 a_now_rotors_e), rcell a_now_rotors_e (up (up v_now_rotorsF x1.toNatClampNeg ((v_now_rotorsF x1.toNatClampNeg).1, (v_now_rotorsF x1.toNatClampNeg).2.1, (((v_now_rotorsF x1.toNatClampNeg).2.2.1) + x2) - (8 : Int32), (v_now_rotorsF x1.toNatClampNeg).2.2.2)) x1.toNatClampNeg (((up v_now_rotorsF x1.toNatClampNeg ((v_now_rotorsF x1.toNatClampNeg).1, (v_now_rotorsF x1.toNatClampNeg).2.1, (((v_now_rotorsF x1.toNatClampNeg).2.2.1) + x2) - (8 : Int32), (v_now_rotorsF x1.toNatClampNeg).2.2.2)) x1.toNatClampNeg).1, ((up v_now_rotorsF x1.toNatClampNeg ((v_now_rotorsF x1.toNatClampNeg).1, (v_now_rotorsF x1.toNatClampNeg).2.1, (((v_now_rotorsF x1.toNatClampNeg).2.2.1) + x2) - (8 : Int32), (v_now_rotorsF x1.toNatClampNeg).2.2.2)) x1.toNatClampNeg).2.1, ((up v_now_rotorsF x1.toNatClampNeg ((v_now_rotorsF x1.toNatClampNeg).1, (v_now_rotorsF x1.toNatClampNeg).2.1, (((v_now_rotorsF x1.toNatClampNeg).2.2.1) + x2) - (8 : Int32), (v_now_rotorsF x1.toNatClampNeg).2.2.2)) x1.toNatClampNeg).2.2.1, (0 : Int32))) 0, rcell a_now_rotors_e (up (up v_now_rotorsF x1.toNatClampNeg ((v_now_rotorsF x1.toNatClampNeg).1, (v_now_rotorsF x1.toNatClampNeg).2.1, (((v_now_rotorsF x1.toNatClampNeg).2.2.1) + x2) - (8 : Int32), (v_now_rotorsF x1.toNatClampNeg).2.2.2)) x1.toNatClampNeg (((up v_now_rotorsF x1.toNatClampNeg ((v_now_rotorsF x1.toNatClampNeg).1, (v_now_rotorsF x1.toNatClampNeg).2.1, (((v_now_rotorsF x1.toNatClampNeg).2.2.1) + x2) - (8 : Int32), (v_now_rotorsF x1.toNatClampNeg).2.2.2)) x1.toNatClampNeg).1, ((up v_now_rotorsF x1.toNatClampNeg ((v_now_rotorsF x1.toNatClampNeg).1, (v_now_rotorsF x1.toNatClampNeg).2.1, (((v_now_rotorsF x1.toNatClampNeg).2.2.1) + x2) - (8 : Int32), (v_now_rotorsF x1.toNatClampNeg).2.2.2)) x1.toNatClampNeg).2.1, ((up v_now_rotorsF x1.toNatClampNeg ((v_now_rotorsF x1.toNatClampNeg).1, (v_now_rotorsF x1.toNatClampNeg).2.1, (((v_now_rotorsF x1.toNatClampNeg).2.2.1) + x2) - (8 : Int32), (v_now_rotorsF x1.toNatClampNeg).2.2.2)) x1.toNatClampNeg).2.2.1, (0 : Int32))) 1, rcell a_now_rotors_e (up (up v_now_rotorsF x1.toNatClampNeg ((v_now_rotorsF x1.toNatClampNeg).1, (v_now_rotorsF x1.toNatClampNeg).2.1, (((v_now_rotorsF x1.toNatClampNeg).2.2.1) + x2) - (8 : Int32), (v_now_rotorsF x1.toNatClampNeg).2.2.2)) x1.toNatClampNeg (((up v_now_rotorsF x1.toNatClampNeg ((v_now_rotorsF x1.toNatClampNeg).1, (v_now_rotorsF x1.toNatClampNeg).2.1, (((v_now_rotorsF x1.toNatClampNeg).2.2.1) + x2) - (8 : Int32), (v_now_rotorsF x1.toNatClampNeg).2.2.2)) x1.toNatClampNeg).1, ((up v_now_rotorsF x1.toNatClampNeg ((v_now_rotorsF x1.toNatClampNeg).1, (v_now_rotorsF x1.toNatClampNeg).2.1, (((v_now_rotorsF x1.toNatClampNeg).2.2.1) + x2) - (8 : Int32), (v_now_rotorsF x1.toNatClampNeg).2.2.2)) x1.toNatClampNeg).2.1, ((up v_now_rotorsF x1.toNatClampNeg ((v_now_rotorsF x1.toNatClampNeg).1, (v_now_rotorsF x1.toNatClampNeg).2.1, (((v_now_rotorsF x1.toNatClampNeg).2.2.1) + x2) - (8 : Int32), (v_now_rotorsF x1.toNatClampNeg).2.2.2)) x1.toNatClampNeg).2.2.1, (0 : Int32))) 2, rcell a_now_rotors_e (up (up v_now_rotorsF x1.toNatClampNeg ((v_now_rotorsF x1.toNatClampNeg).1, (v_now_rotorsF x1.toNatClampNeg).2.1, (((v_now_rotorsF x1.toNatClampNeg).2.2.1) + x2) - (8 : Int32), (v_now_rotorsF x1.toNatClampNeg).2.2.2)) x1.toNatClampNeg (((up v_now_rotorsF x1.toNatClampNeg ((v_now_rotorsF x1.toNatClampNeg).1, (v_now_rotorsF x1.toNatClampNeg).2.1, (((v_now_rotorsF x1.toNatClampNeg).2.2.1) + x2) - (8 : Int32), (v_now_rotorsF x1.toNatClampNeg).2.2.2)) x1.toNatClampNeg).1, ((up v_now_rotorsF x1.toNatClampNeg ((v_now_rotorsF x1.toNatClampNeg).1, (v_now_rotorsF x1.toNatClampNeg).2.1, (((v_now_rotorsF x1.toNatClampNeg).2.2.1) + x2) - (8 : Int32), (v_now_rotorsF x1.toNatClampNeg).2.2.2)) x1.toNatClampNeg).2.1, ((up v_now_rotorsF x1.toNatClampNeg ((v_now_rotorsF x1.toNatClampNeg).1, (v_now_rotorsF x1.toNatClampNeg).2.1, (((v_now_rotorsF x1.toNatClampNeg).2.2.1) + x2) - (8 : Int32), (v_now_rotorsF x1.toNatClampNeg).2.2.2)) x1.toNatClampNeg).2.2.1, (0 : Int32))) 3] H := hP
          have hD : va_D A [(a_this, .inr (6, [.ref a_tape, .ref a_now, .ref a_trial, .ref a_sights, .ref a_images, .ref a_sheets, .int v_readFault])), (a_now, .inr (0, [.int v_now_field, .int v_now_tick, .int v_now_pace, .int v_now_signNumber, .int v_now_rotorNumber, .ref a_now_signs, .ref a_now_rotors])), (a_now_rotors, rfn cR 4 a_now_rotors_e), rcell a_now_rotors_e (up (up v_now_rotorsF x1.toNatClampNeg ((v_now_rotorsF x1.toNatClampNeg).1, (v_now_rotorsF x1.toNatClampNeg).2.1, (((v_now_rotorsF x1.toNatClampNeg).2.2.1) + x2) - (8 : Int32), (v_now_rotorsF x1.toNatClampNeg).2.2.2)) x1.toNatClampNeg (((up v_now_rotorsF x1.toNatClampNeg ((v_now_rotorsF x1.toNatClampNeg).1, (v_now_rotorsF x1.toNatClampNeg).2.1, (((v_now_rotorsF x1.toNatClampNeg).2.2.1) + x2) - (8 : Int32), (v_now_rotorsF x1.toNatClampNeg).2.2.2)) x1.toNatClampNeg).1, ((up v_now_rotorsF x1.toNatClampNeg ((v_now_rotorsF x1.toNatClampNeg).1, (v_now_rotorsF x1.toNatClampNeg).2.1, (((v_now_rotorsF x1.toNatClampNeg).2.2.1) + x2) - (8 : Int32), (v_now_rotorsF x1.toNatClampNeg).2.2.2)) x1.toNatClampNeg).2.1, ((up v_now_rotorsF x1.toNatClampNeg ((v_now_rotorsF x1.toNatClampNeg).1, (v_now_rotorsF x1.toNatClampNeg).2.1, (((v_now_rotorsF x1.toNatClampNeg).2.2.1) + x2) - (8 : Int32), (v_now_rotorsF x1.toNatClampNeg).2.2.2)) x1.toNatClampNeg).2.2.1, (0 : Int32))) 0, rcell a_now_rotors_e (up (up v_now_rotorsF x1.toNatClampNeg ((v_now_rotorsF x1.toNatClampNeg).1, (v_now_rotorsF x1.toNatClampNeg).2.1, (((v_now_rotorsF x1.toNatClampNeg).2.2.1) + x2) - (8 : Int32), (v_now_rotorsF x1.toNatClampNeg).2.2.2)) x1.toNatClampNeg (((up v_now_rotorsF x1.toNatClampNeg ((v_now_rotorsF x1.toNatClampNeg).1, (v_now_rotorsF x1.toNatClampNeg).2.1, (((v_now_rotorsF x1.toNatClampNeg).2.2.1) + x2) - (8 : Int32), (v_now_rotorsF x1.toNatClampNeg).2.2.2)) x1.toNatClampNeg).1, ((up v_now_rotorsF x1.toNatClampNeg ((v_now_rotorsF x1.toNatClampNeg).1, (v_now_rotorsF x1.toNatClampNeg).2.1, (((v_now_rotorsF x1.toNatClampNeg).2.2.1) + x2) - (8 : Int32), (v_now_rotorsF x1.toNatClampNeg).2.2.2)) x1.toNatClampNeg).2.1, ((up v_now_rotorsF x1.toNatClampNeg ((v_now_rotorsF x1.toNatClampNeg).1, (v_now_rotorsF x1.toNatClampNeg).2.1, (((v_now_rotorsF x1.toNatClampNeg).2.2.1) + x2) - (8 : Int32), (v_now_rotorsF x1.toNatClampNeg).2.2.2)) x1.toNatClampNeg).2.2.1, (0 : Int32))) 1, rcell a_now_rotors_e (up (up v_now_rotorsF x1.toNatClampNeg ((v_now_rotorsF x1.toNatClampNeg).1, (v_now_rotorsF x1.toNatClampNeg).2.1, (((v_now_rotorsF x1.toNatClampNeg).2.2.1) + x2) - (8 : Int32), (v_now_rotorsF x1.toNatClampNeg).2.2.2)) x1.toNatClampNeg (((up v_now_rotorsF x1.toNatClampNeg ((v_now_rotorsF x1.toNatClampNeg).1, (v_now_rotorsF x1.toNatClampNeg).2.1, (((v_now_rotorsF x1.toNatClampNeg).2.2.1) + x2) - (8 : Int32), (v_now_rotorsF x1.toNatClampNeg).2.2.2)) x1.toNatClampNeg).1, ((up v_now_rotorsF x1.toNatClampNeg ((v_now_rotorsF x1.toNatClampNeg).1, (v_now_rotorsF x1.toNatClampNeg).2.1, (((v_now_rotorsF x1.toNatClampNeg).2.2.1) + x2) - (8 : Int32), (v_now_rotorsF x1.toNatClampNeg).2.2.2)) x1.toNatClampNeg).2.1, ((up v_now_rotorsF x1.toNatClampNeg ((v_now_rotorsF x1.toNatClampNeg).1, (v_now_rotorsF x1.toNatClampNeg).2.1, (((v_now_rotorsF x1.toNatClampNeg).2.2.1) + x2) - (8 : Int32), (v_now_rotorsF x1.toNatClampNeg).2.2.2)) x1.toNatClampNeg).2.2.1, (0 : Int32))) 2, rcell a_now_rotors_e (up (up v_now_rotorsF x1.toNatClampNeg ((v_now_rotorsF x1.toNatClampNeg).1, (v_now_rotorsF x1.toNatClampNeg).2.1, (((v_now_rotorsF x1.toNatClampNeg).2.2.1) + x2) - (8 : Int32), (v_now_rotorsF x1.toNatClampNeg).2.2.2)) x1.toNatClampNeg (((up v_now_rotorsF x1.toNatClampNeg ((v_now_rotorsF x1.toNatClampNeg).1, (v_now_rotorsF x1.toNatClampNeg).2.1, (((v_now_rotorsF x1.toNatClampNeg).2.2.1) + x2) - (8 : Int32), (v_now_rotorsF x1.toNatClampNeg).2.2.2)) x1.toNatClampNeg).1, ((up v_now_rotorsF x1.toNatClampNeg ((v_now_rotorsF x1.toNatClampNeg).1, (v_now_rotorsF x1.toNatClampNeg).2.1, (((v_now_rotorsF x1.toNatClampNeg).2.2.1) + x2) - (8 : Int32), (v_now_rotorsF x1.toNatClampNeg).2.2.2)) x1.toNatClampNeg).2.1, ((up v_now_rotorsF x1.toNatClampNeg ((v_now_rotorsF x1.toNatClampNeg).1, (v_now_rotorsF x1.toNatClampNeg).2.1, (((v_now_rotorsF x1.toNatClampNeg).2.2.1) + x2) - (8 : Int32), (v_now_rotorsF x1.toNatClampNeg).2.2.2)) x1.toNatClampNeg).2.2.1, (0 : Int32))) 3] := hD
          refine lv_ldc (v := 100000) C.1 C.2.1 C.2.2.2.1 (C.2.2.2.2 _ kw2_143) dX6_turn_65 ?_
          refine lv_iload C.1 C.2.1 dX6_turn_67 (lv_at hl 0 rfl) ?_
          refine lv_iadd C.1 C.2.1 dX6_turn_69 ?_
          have hF := Option.some.inj hF
          subst hF
          exact retI C hr hlk hP hD hS dX6_turn_70
        · have hF := fn hF c9
          refine lv_bipush (v := (-3)) C.1 C.2.1 dX6_turn_51 (by decide) ?_
          have hF := Option.some.inj hF
          subst hF
          exact retI C hr hlk hP hD hS dX6_turn_53
      · have hF := fp hF c6
        refine lv_iconst (v := (-1)) C.1 C.2.1 dX6_turn_17 (by decide) ?_
        have hF := Option.some.inj hF
        subst hF
        exact retI C hr hlk hP hD hS dX6_turn_18)
theorem c_X6_turn {l : Launch} {D : va_G} {cI cB cZ cR cM cS : ClassId} {a_this : Nat} {a_tape : Nat} {a_now : Nat} {a_trial : Nat} {a_sights : Nat} {a_images : Nat} {a_sheets : Nat} {a_now_signs : Nat} {a_now_rotors : Nat} {a_now_rotors_e : Nat → Nat} {v_readFault : Int32} {v_now_field : Int32} {v_now_tick : Int32} {v_now_pace : Int32} {v_now_signNumber : Int32} {v_now_rotorNumber : Int32} {v_now_rotorsF : Nat → Rot} {x1 : Int32} {x2 : Int32} {r_ : Int32} {v_now_rotorsF' : Nat → Rot} (hF : F_X6_turn v_now_rotorNumber v_now_rotorsF x1 x2 = some (r_, v_now_rotorsF')) : MI l yX6_turn cX6_turn 5 .int rm_X6_turn D (TS cI cB cZ cR cM cS) [.ref a_this, .int x1, .int x2] [(a_this, .inr (6, [.ref a_tape, .ref a_now, .ref a_trial, .ref a_sights, .ref a_images, .ref a_sheets, .int v_readFault])), (a_now, .inr (0, [.int v_now_field, .int v_now_tick, .int v_now_pace, .int v_now_signNumber, .int v_now_rotorNumber, .ref a_now_signs, .ref a_now_rotors])), (a_now_rotors, rfn cR 4 a_now_rotors_e), rcell a_now_rotors_e v_now_rotorsF 0, rcell a_now_rotors_e v_now_rotorsF 1, rcell a_now_rotors_e v_now_rotorsF 2, rcell a_now_rotors_e v_now_rotorsF 3] [(a_this, .inr (6, [.ref a_tape, .ref a_now, .ref a_trial, .ref a_sights, .ref a_images, .ref a_sheets, .int v_readFault])), (a_now, .inr (0, [.int v_now_field, .int v_now_tick, .int v_now_pace, .int v_now_signNumber, .int v_now_rotorNumber, .ref a_now_signs, .ref a_now_rotors])), (a_now_rotors, rfn cR 4 a_now_rotors_e), rcell a_now_rotors_e v_now_rotorsF' 0, rcell a_now_rotors_e v_now_rotorsF' 1, rcell a_now_rotors_e v_now_rotorsF' 2, rcell a_now_rotors_e v_now_rotorsF' 3] r_ :=
  c0_X6_turn (res := (r_, v_now_rotorsF')) hF
def rm_X6_canSet : Room := { frames := 1, cells := 0, slots := 0, locals := 21 }
theorem cv_X6_canSet : CV yX6_canSet cX6_canSet 3 (some .boolean) rm_X6_canSet RX6 2 := ⟨kw2_201, kwp_15, kw1_1, kw2_202, by decide +kernel, rfl, rfl⟩
set_option maxHeartbeats 4000000 in
set_option maxRecDepth 100000 in
theorem c_X6_canSet {l : Launch} {D : va_G} {cI cB cZ cR cM cS : ClassId} {a_this : Nat} {a_tape : Nat} {a_now : Nat} {a_trial : Nat} {a_sights : Nat} {a_images : Nat} {a_sheets : Nat} {a_now_signs : Nat} {a_now_rotors : Nat} {v_readFault : Int32} {v_now_field : Int32} {v_now_tick : Int32} {v_now_pace : Int32} {v_now_signNumber : Int32} {v_now_rotorNumber : Int32} {x1 : Int32} {x2 : Int32} {res : Int32} (hF : F_X6_canSet v_now_signNumber x1 x2 = some res) : MI l yX6_canSet cX6_canSet 3 .boolean rm_X6_canSet D (TS cI cB cZ cR cM cS) [.ref a_this, .int x1, .int x2] [(a_this, .inr (6, [.ref a_tape, .ref a_now, .ref a_trial, .ref a_sights, .ref a_images, .ref a_sheets, .int v_readFault])), (a_now, .inr (0, [.int v_now_field, .int v_now_tick, .int v_now_pace, .int v_now_signNumber, .int v_now_rotorNumber, .ref a_now_signs, .ref a_now_rotors]))] [(a_this, .inr (6, [.ref a_tape, .ref a_now, .ref a_trial, .ref a_sights, .ref a_images, .ref a_sheets, .int v_readFault])), (a_now, .inr (0, [.int v_now_field, .int v_now_tick, .int v_now_pace, .int v_now_signNumber, .int v_now_rotorNumber, .ref a_now_signs, .ref a_now_rotors]))] res :=
  MI_of (by decide) (Nat.le_of_ble_eq_true rfl) (fun p e s m args below meth c A ls C hr hlk hK hA hP hD hS hl => by
    have C : CX p m c cX6_canSet 3 s args RX6 := C
    have hl : lv_has ls 3 [(0, .ref a_this), (1, .int x1), (2, .int x2)] := hl
    unfold F_X6_canSet at hF
    refine lv_aload_n C.1 C.2.1 dX6_canSet_0 rfl (lv_at hl 0 rfl) ?_
    refine lv_iload_n C.1 C.2.1 dX6_canSet_1 rfl (lv_at hl 1 rfl) ?_
    obtain ⟨r1, h2, hF⟩ := fb hF
    refine callVI C hK hA hP hD hS [0, 1] (c_X6_hasSign (a_this := a_this) (a_tape := a_tape) (a_now := a_now) (a_trial := a_trial) (a_sights := a_sights) (a_images := a_images) (a_sheets := a_sheets) (a_now_signs := a_now_signs) (a_now_rotors := a_now_rotors) (v_readFault := v_readFault) (v_now_field := v_now_field) (v_now_tick := v_now_tick) (v_now_pace := v_now_pace) (v_now_signNumber := v_now_signNumber) (v_now_rotorNumber := v_now_rotorNumber) h2) cv_X6_hasSign kw2_182 rfl (by decide) rfl rfl rfl ⟨Nat.le_of_ble_eq_true rfl, Nat.le_of_ble_eq_true rfl⟩ ⟨Nat.zero_le _, Nat.zero_le _⟩ hl.1 rfl (Nat.le_of_ble_eq_true rfl) dX6_canSet_2 (fun H locs hP hD hS => ?_)
    have hP : va_P D vwCl [(a_this, .inr (6, [.ref a_tape, .ref a_now, .ref a_trial, .ref a_sights, .ref a_images, .ref a_sheets, .int v_readFault])), (a_now, .inr (0, [.int v_now_field, .int v_now_tick, .int v_now_pace, .int v_now_signNumber, .int v_now_rotorNumber, .ref a_now_signs, .ref a_now_rotors]))] H := hP
    have hD : va_D A [(a_this, .inr (6, [.ref a_tape, .ref a_now, .ref a_trial, .ref a_sights, .ref a_images, .ref a_sheets, .int v_readFault])), (a_now, .inr (0, [.int v_now_field, .int v_now_tick, .int v_now_pace, .int v_now_signNumber, .int v_now_rotorNumber, .ref a_now_signs, .ref a_now_rotors]))] := hD
    refine lv_if_eq (tgt := 20) C.1 C.2.1 dX6_canSet_5 (by decide) (fun c3 => ?_) (fun c3 => ?_)
    · have hF := fp hF c3
      refine lv_iconst (v := 0) C.1 C.2.1 dX6_canSet_20 (by decide) ?_
      have hF := Option.some.inj hF
      subst hF
      exact retZ (v := 0) C hr hlk (by decide) hP hD hS dX6_canSet_21
    · have hF := fn hF c3
      refine lv_iload_n C.1 C.2.1 dX6_canSet_8 rfl (lv_at hl 2 rfl) ?_
      refine lv_iconst (v := 3) C.1 C.2.1 dX6_canSet_9 (by decide) ?_
      obtain ⟨r4, h5, hF⟩ := fb hF
      refine callSI C hK hA hP hD hS (c_X6_within  h5) cs_X6_within kw1_227 ⟨Nat.le_of_ble_eq_true rfl, Nat.le_of_ble_eq_true rfl⟩ ⟨Nat.zero_le _, Nat.zero_le _⟩ hl.1 rfl (Nat.le_of_ble_eq_true rfl) dX6_canSet_10 (fun H locs hP hD hS => ?_)
      refine lv_if_eq (tgt := 20) C.1 C.2.1 dX6_canSet_13 (by decide) (fun c6 => ?_) (fun c6 => ?_)
      · have hF := fp hF c6
        refine lv_iconst (v := 0) C.1 C.2.1 dX6_canSet_20 (by decide) ?_
        have hF := Option.some.inj hF
        subst hF
        exact retZ (v := 0) C hr hlk (by decide) hP hD hS dX6_canSet_21
      · have hF := fn hF c6
        refine lv_iconst (v := 1) C.1 C.2.1 dX6_canSet_16 (by decide) ?_
        refine lv_goto (tgt := 21) C.1 C.2.1 dX6_canSet_17 (by decide) ?_
        have hF := Option.some.inj hF
        subst hF
        exact retZ (v := 1) C hr hlk (by decide) hP hD hS dX6_canSet_21)
def rm_X6_set : Room := { frames := 2, cells := 0, slots := 0, locals := 43 }
theorem cv_X6_set : CV yX6_set cX6_set 4 (some .int) rm_X6_set RX6 2 := ⟨kw2_196, kw2_197, kw1_1, kw2_198, by decide +kernel, rfl, rfl⟩
set_option maxHeartbeats 4000000 in
set_option maxRecDepth 100000 in
theorem c0_X6_set {l : Launch} {D : va_G} {cI cB cZ cR cM cS : ClassId} {a_this : Nat} {a_tape : Nat} {a_now : Nat} {a_trial : Nat} {a_sights : Nat} {a_images : Nat} {a_sheets : Nat} {a_now_signs : Nat} {a_now_rotors : Nat} {v_readFault : Int32} {v_now_field : Int32} {v_now_tick : Int32} {v_now_pace : Int32} {v_now_signNumber : Int32} {v_now_rotorNumber : Int32} {v_now_signs : Nat → Int32} {x1 : Int32} {x2 : Int32} {res : Int32 × (Nat → Int32)} (hF : F_X6_set v_now_signNumber v_now_signs x1 x2 = some res) : MI l yX6_set cX6_set 4 .int rm_X6_set D (TS cI cB cZ cR cM cS) [.ref a_this, .int x1, .int x2] [(a_this, .inr (6, [.ref a_tape, .ref a_now, .ref a_trial, .ref a_sights, .ref a_images, .ref a_sheets, .int v_readFault])), (a_now, .inr (0, [.int v_now_field, .int v_now_tick, .int v_now_pace, .int v_now_signNumber, .int v_now_rotorNumber, .ref a_now_signs, .ref a_now_rotors])), (a_now_signs, .inl (cI, 16, .inl v_now_signs))] [(a_this, .inr (6, [.ref a_tape, .ref a_now, .ref a_trial, .ref a_sights, .ref a_images, .ref a_sheets, .int v_readFault])), (a_now, .inr (0, [.int v_now_field, .int v_now_tick, .int v_now_pace, .int v_now_signNumber, .int v_now_rotorNumber, .ref a_now_signs, .ref a_now_rotors])), (a_now_signs, .inl (cI, 16, .inl res.2))] res.1 :=
  MI_of (by decide) (Nat.le_of_ble_eq_true rfl) (fun p e s m args below meth c A ls C hr hlk hK hA hP hD hS hl => by
    have C : CX p m c cX6_set 4 s args RX6 := C
    have hl : lv_has ls 4 [(0, .ref a_this), (1, .int x1), (2, .int x2)] := hl
    unfold F_X6_set at hF
    refine lv_aload_n C.1 C.2.1 dX6_set_0 rfl (lv_at hl 0 rfl) ?_
    refine lv_iload_n C.1 C.2.1 dX6_set_1 rfl (lv_at hl 1 rfl) ?_
    refine lv_iload_n C.1 C.2.1 dX6_set_2 rfl (lv_at hl 2 rfl) ?_
    obtain ⟨r1, h2, hF⟩ := fb hF
    refine callVI C hK hA hP hD hS [0, 1] (c_X6_canSet (a_this := a_this) (a_tape := a_tape) (a_now := a_now) (a_trial := a_trial) (a_sights := a_sights) (a_images := a_images) (a_sheets := a_sheets) (a_now_signs := a_now_signs) (a_now_rotors := a_now_rotors) (v_readFault := v_readFault) (v_now_field := v_now_field) (v_now_tick := v_now_tick) (v_now_pace := v_now_pace) (v_now_signNumber := v_now_signNumber) (v_now_rotorNumber := v_now_rotorNumber) h2) cv_X6_canSet kw2_199 rfl (by decide) rfl rfl rfl ⟨Nat.le_of_ble_eq_true rfl, Nat.le_of_ble_eq_true rfl⟩ ⟨Nat.zero_le _, Nat.zero_le _⟩ hl.1 rfl (Nat.le_of_ble_eq_true rfl) dX6_set_3 (fun H locs hP hD hS => ?_)
    have hP : va_P D vwCl [(a_this, .inr (6, [.ref a_tape, .ref a_now, .ref a_trial, .ref a_sights, .ref a_images, .ref a_sheets, .int v_readFault])), (a_now, .inr (0, [.int v_now_field, .int v_now_tick, .int v_now_pace, .int v_now_signNumber, .int v_now_rotorNumber, .ref a_now_signs, .ref a_now_rotors])), (a_now_signs, .inl (cI, 16, .inl v_now_signs))] H := hP
    have hD : va_D A [(a_this, .inr (6, [.ref a_tape, .ref a_now, .ref a_trial, .ref a_sights, .ref a_images, .ref a_sheets, .int v_readFault])), (a_now, .inr (0, [.int v_now_field, .int v_now_tick, .int v_now_pace, .int v_now_signNumber, .int v_now_rotorNumber, .ref a_now_signs, .ref a_now_rotors])), (a_now_signs, .inl (cI, 16, .inl v_now_signs))] := hD
    refine lv_if_ne (tgt := 11) C.1 C.2.1 dX6_set_6 (by decide) (fun c3 => ?_) (fun c3 => ?_)
    · have hF := fn hF c3
      refine lv_aload_n C.1 C.2.1 dX6_set_11 rfl (lv_at hl 0 rfl) ?_
      refine gf_6_6_now C hK hP 0 rfl rfl dX6_set_12 ?_
      refine gf_6_0_signs C hK hP 1 rfl rfl dX6_set_15 ?_
      refine lv_iload_n C.1 C.2.1 dX6_set_18 rfl (lv_at hl 1 rfl) ?_
      obtain ⟨h4, hF⟩ := fk hF
      refine va_iald C.1 C.2.1 hK.1 hP 2 0 rfl rfl h4 dX6_set_19 ?_
      refine lv_istore_n (lv' := [(3, .int (v_now_signs x1.toNatClampNeg)), (0, .ref a_this), (1, .int x1), (2, .int x2)]) C.1 C.2.1 dX6_set_20 rfl hl (by decide) rfl (fun ls hl => ?_)
      refine lv_aload_n C.1 C.2.1 dX6_set_21 rfl (lv_at hl 1 rfl) ?_
      refine gf_6_6_now C hK hP 0 rfl rfl dX6_set_22 ?_
      refine gf_6_0_signs C hK hP 1 rfl rfl dX6_set_25 ?_
      refine lv_iload_n C.1 C.2.1 dX6_set_28 rfl (lv_at hl 2 rfl) ?_
      refine lv_iload_n C.1 C.2.1 dX6_set_29 rfl (lv_at hl 3 rfl) ?_
      obtain ⟨h5, hF⟩ := fk hF
      refine va_iast C.1 C.2.1 hK.1 hP hD hS 2 0 rfl rfl h5 dX6_set_30 (fun H locs hP hD hS => ?_)
      have hP : va_P D vwCl [(a_this, .inr (6, [.ref a_tape, .ref a_now, .ref a_trial, .ref a_sights, .ref a_images, .ref a_sheets, .int v_readFault])), (a_now, .inr (0, [.int v_now_field, .int v_now_tick, .int v_now_pace, .int v_now_signNumber, .int v_now_rotorNumber, .ref a_now_signs, .ref a_now_rotors])), (a_now_signs, .inl (cI, 16, .inl (upd v_now_signs x1.toNatClampNeg x2)))] H := hP
      have hD : va_D A [(a_this, .inr (6, [.ref a_tape, .ref a_now, .ref a_trial, .ref a_sights, .ref a_images, .ref a_sheets, .int v_readFault])), (a_now, .inr (0, [.int v_now_field, .int v_now_tick, .int v_now_pace, .int v_now_signNumber, .int v_now_rotorNumber, .ref a_now_signs, .ref a_now_rotors])), (a_now_signs, .inl (cI, 16, .inl (upd v_now_signs x1.toNatClampNeg x2)))] := hD
      refine lv_iload_n C.1 C.2.1 dX6_set_31 rfl (lv_at hl 0 rfl) ?_
      have hF := Option.some.inj hF
      subst hF
      exact retI C hr hlk hP hD hS dX6_set_32
    · have hF := fp hF c3
      refine lv_iconst (v := (-1)) C.1 C.2.1 dX6_set_9 (by decide) ?_
      have hF := Option.some.inj hF
      subst hF
      exact retI C hr hlk hP hD hS dX6_set_10)
theorem c_X6_set {l : Launch} {D : va_G} {cI cB cZ cR cM cS : ClassId} {a_this : Nat} {a_tape : Nat} {a_now : Nat} {a_trial : Nat} {a_sights : Nat} {a_images : Nat} {a_sheets : Nat} {a_now_signs : Nat} {a_now_rotors : Nat} {v_readFault : Int32} {v_now_field : Int32} {v_now_tick : Int32} {v_now_pace : Int32} {v_now_signNumber : Int32} {v_now_rotorNumber : Int32} {v_now_signs : Nat → Int32} {x1 : Int32} {x2 : Int32} {r_ : Int32} {v_now_signs' : Nat → Int32} (hF : F_X6_set v_now_signNumber v_now_signs x1 x2 = some (r_, v_now_signs')) : MI l yX6_set cX6_set 4 .int rm_X6_set D (TS cI cB cZ cR cM cS) [.ref a_this, .int x1, .int x2] [(a_this, .inr (6, [.ref a_tape, .ref a_now, .ref a_trial, .ref a_sights, .ref a_images, .ref a_sheets, .int v_readFault])), (a_now, .inr (0, [.int v_now_field, .int v_now_tick, .int v_now_pace, .int v_now_signNumber, .int v_now_rotorNumber, .ref a_now_signs, .ref a_now_rotors])), (a_now_signs, .inl (cI, 16, .inl v_now_signs))] [(a_this, .inr (6, [.ref a_tape, .ref a_now, .ref a_trial, .ref a_sights, .ref a_images, .ref a_sheets, .int v_readFault])), (a_now, .inr (0, [.int v_now_field, .int v_now_tick, .int v_now_pace, .int v_now_signNumber, .int v_now_rotorNumber, .ref a_now_signs, .ref a_now_rotors])), (a_now_signs, .inl (cI, 16, .inl v_now_signs'))] r_ :=
  c0_X6_set (res := (r_, v_now_signs')) hF
def rm_X6_every : Room := { frames := 0, cells := 0, slots := 0, locals := 0 }
theorem cv_X6_every : CV yX6_every cX6_every 3 (some .int) rm_X6_every RX6 1 := ⟨kw2_204, kw2_205, kw1_1, kw2_206, by decide +kernel, rfl, rfl⟩
set_option maxHeartbeats 4000000 in
set_option maxRecDepth 100000 in
theorem c0_X6_every {l : Launch} {D : va_G} {cI cB cZ cR cM cS : ClassId} {a_this : Nat} {a_tape : Nat} {a_now : Nat} {a_trial : Nat} {a_sights : Nat} {a_images : Nat} {a_sheets : Nat} {a_now_signs : Nat} {a_now_rotors : Nat} {v_readFault : Int32} {v_now_field : Int32} {v_now_tick : Int32} {v_now_pace : Int32} {v_now_signNumber : Int32} {v_now_rotorNumber : Int32} {x1 : Int32} {res : Int32 × Int32} (hF : F_X6_every v_now_pace x1 = some res) : MI l yX6_every cX6_every 3 .int rm_X6_every D (TS cI cB cZ cR cM cS) [.ref a_this, .int x1] [(a_this, .inr (6, [.ref a_tape, .ref a_now, .ref a_trial, .ref a_sights, .ref a_images, .ref a_sheets, .int v_readFault])), (a_now, .inr (0, [.int v_now_field, .int v_now_tick, .int v_now_pace, .int v_now_signNumber, .int v_now_rotorNumber, .ref a_now_signs, .ref a_now_rotors]))] [(a_this, .inr (6, [.ref a_tape, .ref a_now, .ref a_trial, .ref a_sights, .ref a_images, .ref a_sheets, .int v_readFault])), (a_now, .inr (0, [.int v_now_field, .int v_now_tick, .int res.2, .int v_now_signNumber, .int v_now_rotorNumber, .ref a_now_signs, .ref a_now_rotors]))] res.1 :=
  MI_of (by decide) (Nat.le_of_ble_eq_true rfl) (fun p e s m args below meth c A ls C hr hlk hK hA hP hD hS hl => by
    have C : CX p m c cX6_every 3 s args RX6 := C
    have hl : lv_has ls 3 [(0, .ref a_this), (1, .int x1)] := hl
    unfold F_X6_every at hF
    refine lv_iload_n C.1 C.2.1 dX6_every_0 rfl (lv_at hl 1 rfl) ?_
    refine lv_iconst (v := 1) C.1 C.2.1 dX6_every_1 (by decide) ?_
    refine lv_icmp_lt (tgt := 11) C.1 C.2.1 dX6_every_2 (by decide) (fun c1 => ?_) (fun c1 => ?_)
    · have hF := fp hF c1
      refine lv_iconst (v := (-1)) C.1 C.2.1 dX6_every_11 (by decide) ?_
      have hF := Option.some.inj hF
      subst hF
      exact retI C hr hlk hP hD hS dX6_every_12
    · have hF := fn hF c1
      refine lv_iload_n C.1 C.2.1 dX6_every_5 rfl (lv_at hl 1 rfl) ?_
      refine lv_bipush (v := 9) C.1 C.2.1 dX6_every_6 (by decide) ?_
      refine lv_icmp_le (tgt := 13) C.1 C.2.1 dX6_every_8 (by decide) (fun c2 => ?_) (fun c2 => ?_)
      · have hF := fp hF c2
        refine lv_aload_n C.1 C.2.1 dX6_every_13 rfl (lv_at hl 0 rfl) ?_
        refine gf_6_6_now C hK hP 0 rfl rfl dX6_every_14 ?_
        refine gf_6_0_pace C hK hP 1 rfl rfl dX6_every_17 ?_
        refine lv_istore_n (lv' := [(2, .int v_now_pace), (0, .ref a_this), (1, .int x1)]) C.1 C.2.1 dX6_every_20 rfl hl (by decide) rfl (fun ls hl => ?_)
        refine lv_aload_n C.1 C.2.1 dX6_every_21 rfl (lv_at hl 1 rfl) ?_
        refine gf_6_6_now C hK hP 0 rfl rfl dX6_every_22 ?_
        refine lv_iload_n C.1 C.2.1 dX6_every_25 rfl (lv_at hl 2 rfl) ?_
        refine pf_6_0_pace C hK hP hD hS 1 rfl rfl dX6_every_26 (fun H locs hP hD hS => ?_)
        have hP : va_P D vwCl [(a_this, .inr (6, [.ref a_tape, .ref a_now, .ref a_trial, .ref a_sights, .ref a_images, .ref a_sheets, .int v_readFault])), (a_now, .inr (0, [.int v_now_field, .int v_now_tick, .int x1, .int v_now_signNumber, .int v_now_rotorNumber, .ref a_now_signs, .ref a_now_rotors]))] H := hP
        have hD : va_D A [(a_this, .inr (6, [.ref a_tape, .ref a_now, .ref a_trial, .ref a_sights, .ref a_images, .ref a_sheets, .int v_readFault])), (a_now, .inr (0, [.int v_now_field, .int v_now_tick, .int x1, .int v_now_signNumber, .int v_now_rotorNumber, .ref a_now_signs, .ref a_now_rotors]))] := hD
        refine lv_iload_n C.1 C.2.1 dX6_every_29 rfl (lv_at hl 0 rfl) ?_
        have hF := Option.some.inj hF
        subst hF
        exact retI C hr hlk hP hD hS dX6_every_30
      · have hF := fn hF c2
        refine lv_iconst (v := (-1)) C.1 C.2.1 dX6_every_11 (by decide) ?_
        have hF := Option.some.inj hF
        subst hF
        exact retI C hr hlk hP hD hS dX6_every_12)
theorem c_X6_every {l : Launch} {D : va_G} {cI cB cZ cR cM cS : ClassId} {a_this : Nat} {a_tape : Nat} {a_now : Nat} {a_trial : Nat} {a_sights : Nat} {a_images : Nat} {a_sheets : Nat} {a_now_signs : Nat} {a_now_rotors : Nat} {v_readFault : Int32} {v_now_field : Int32} {v_now_tick : Int32} {v_now_pace : Int32} {v_now_signNumber : Int32} {v_now_rotorNumber : Int32} {x1 : Int32} {r_ : Int32} {v_now_pace' : Int32} (hF : F_X6_every v_now_pace x1 = some (r_, v_now_pace')) : MI l yX6_every cX6_every 3 .int rm_X6_every D (TS cI cB cZ cR cM cS) [.ref a_this, .int x1] [(a_this, .inr (6, [.ref a_tape, .ref a_now, .ref a_trial, .ref a_sights, .ref a_images, .ref a_sheets, .int v_readFault])), (a_now, .inr (0, [.int v_now_field, .int v_now_tick, .int v_now_pace, .int v_now_signNumber, .int v_now_rotorNumber, .ref a_now_signs, .ref a_now_rotors]))] [(a_this, .inr (6, [.ref a_tape, .ref a_now, .ref a_trial, .ref a_sights, .ref a_images, .ref a_sheets, .int v_readFault])), (a_now, .inr (0, [.int v_now_field, .int v_now_tick, .int v_now_pace', .int v_now_signNumber, .int v_now_rotorNumber, .ref a_now_signs, .ref a_now_rotors]))] r_ :=
  c0_X6_every (res := (r_, v_now_pace')) hF
def rm_X6_add : Room := { frames := 1, cells := 0, slots := 0, locals := 21 }
theorem cv_X6_add : CV yX6_add cX6_add 2 (some .int) rm_X6_add RX6 1 := ⟨kw2_208, kw2_209, kw1_1, kw2_210, by decide +kernel, rfl, rfl⟩
set_option maxHeartbeats 4000000 in
set_option maxRecDepth 100000 in
theorem c0_X6_add {l : Launch} {D : va_G} {cI cB cZ cR cM cS : ClassId} {a_this : Nat} {a_tape : Nat} {a_now : Nat} {a_trial : Nat} {a_sights : Nat} {a_images : Nat} {a_sheets : Nat} {a_now_signs : Nat} {a_now_rotors : Nat} {v_readFault : Int32} {v_now_field : Int32} {v_now_tick : Int32} {v_now_pace : Int32} {v_now_signNumber : Int32} {v_now_rotorNumber : Int32} {v_now_signs : Nat → Int32} {x1 : Int32} {res : Int32 × Int32 × (Nat → Int32)} (hF : F_X6_add v_now_signNumber v_now_signs x1 = some res) : MI l yX6_add cX6_add 2 .int rm_X6_add D (TS cI cB cZ cR cM cS) [.ref a_this, .int x1] [(a_this, .inr (6, [.ref a_tape, .ref a_now, .ref a_trial, .ref a_sights, .ref a_images, .ref a_sheets, .int v_readFault])), (a_now, .inr (0, [.int v_now_field, .int v_now_tick, .int v_now_pace, .int v_now_signNumber, .int v_now_rotorNumber, .ref a_now_signs, .ref a_now_rotors])), (a_now_signs, .inl (cI, 16, .inl v_now_signs))] [(a_this, .inr (6, [.ref a_tape, .ref a_now, .ref a_trial, .ref a_sights, .ref a_images, .ref a_sheets, .int v_readFault])), (a_now, .inr (0, [.int v_now_field, .int v_now_tick, .int v_now_pace, .int res.2.1, .int v_now_rotorNumber, .ref a_now_signs, .ref a_now_rotors])), (a_now_signs, .inl (cI, 16, .inl res.2.2))] res.1 :=
  MI_of (by decide) (Nat.le_of_ble_eq_true rfl) (fun p e s m args below meth c A ls C hr hlk hK hA hP hD hS hl => by
    have C : CX p m c cX6_add 2 s args RX6 := C
    have hl : lv_has ls 2 [(0, .ref a_this), (1, .int x1)] := hl
    unfold F_X6_add at hF
    refine lv_iload_n C.1 C.2.1 dX6_add_0 rfl (lv_at hl 1 rfl) ?_
    refine lv_iconst (v := 3) C.1 C.2.1 dX6_add_1 (by decide) ?_
    obtain ⟨r1, h2, hF⟩ := fb hF
    refine callSI C hK hA hP hD hS (c_X6_within  h2) cs_X6_within kw1_227 ⟨Nat.le_of_ble_eq_true rfl, Nat.le_of_ble_eq_true rfl⟩ ⟨Nat.zero_le _, Nat.zero_le _⟩ hl.1 rfl (Nat.le_of_ble_eq_true rfl) dX6_add_2 (fun H locs hP hD hS => ?_)
    refine lv_if_ne (tgt := 10) C.1 C.2.1 dX6_add_5 (by decide) (fun c3 => ?_) (fun c3 => ?_)
    · have hF := fn hF c3
      refine lv_aload_n C.1 C.2.1 dX6_add_10 rfl (lv_at hl 0 rfl) ?_
      refine gf_6_6_now C hK hP 0 rfl rfl dX6_add_11 ?_
      refine lv_iload_n C.1 C.2.1 dX6_add_14 rfl (lv_at hl 1 rfl) ?_
      obtain ⟨⟨r4, w5, w6⟩, h7, hF⟩ := fb hF
      refine callVI C hK hA hP hD hS [1, 2] (c_X0_addSign (a_this := a_now) (a_signs := a_now_signs) (a_rotors := a_now_rotors) (v_field := v_now_field) (v_tick := v_now_tick) (v_pace := v_now_pace) (v_signNumber := v_now_signNumber) (v_rotorNumber := v_now_rotorNumber) (v_signs := v_now_signs) h7) cv_X0_addSign kw2_211 rfl (by decide) rfl rfl rfl ⟨Nat.le_of_ble_eq_true rfl, Nat.le_of_ble_eq_true rfl⟩ ⟨Nat.zero_le _, Nat.zero_le _⟩ hl.1 rfl (Nat.le_of_ble_eq_true rfl) dX6_add_15 (fun H locs hP hD hS => ?_)
      have hP : va_P D vwCl [(a_this, .inr (6, [.ref a_tape, .ref a_now, .ref a_trial, .ref a_sights, .ref a_images, .ref a_sheets, .int v_readFault])), (a_now, .inr (0, [.int v_now_field, .int v_now_tick, .int v_now_pace, .int w5, .int v_now_rotorNumber, .ref a_now_signs, .ref a_now_rotors])), (a_now_signs, .inl (cI, 16, .inl w6))] H := hP
      have hD : va_D A [(a_this, .inr (6, [.ref a_tape, .ref a_now, .ref a_trial, .ref a_sights, .ref a_images, .ref a_sheets, .int v_readFault])), (a_now, .inr (0, [.int v_now_field, .int v_now_tick, .int v_now_pace, .int w5, .int v_now_rotorNumber, .ref a_now_signs, .ref a_now_rotors])), (a_now_signs, .inl (cI, 16, .inl w6))] := hD
      refine lv_if_eq (tgt := 31) C.1 C.2.1 dX6_add_18 (by decide) (fun c8 => ?_) (fun c8 => ?_)
      · have hF := fp hF c8
        refine lv_bipush (v := (-3)) C.1 C.2.1 dX6_add_31 (by decide) ?_
        have hF := Option.some.inj hF
        subst hF
        exact retI C hr hlk hP hD hS dX6_add_33
      · have hF := fn hF c8
        refine lv_aload_n C.1 C.2.1 dX6_add_21 rfl (lv_at hl 0 rfl) ?_
        refine gf_6_6_now C hK hP 0 rfl rfl dX6_add_22 ?_
        refine gf_6_0_signNumber C hK hP 1 rfl rfl dX6_add_25 ?_
        refine lv_goto (tgt := 33) C.1 C.2.1 dX6_add_28 (by decide) ?_
        have hF := Option.some.inj hF
        subst hF
        exact retI C hr hlk hP hD hS dX6_add_33
    · have hF := fp hF c3
      refine lv_iconst (v := (-1)) C.1 C.2.1 dX6_add_8 (by decide) ?_
      have hF := Option.some.inj hF
      subst hF
      exact retI C hr hlk hP hD hS dX6_add_9)
theorem c_X6_add {l : Launch} {D : va_G} {cI cB cZ cR cM cS : ClassId} {a_this : Nat} {a_tape : Nat} {a_now : Nat} {a_trial : Nat} {a_sights : Nat} {a_images : Nat} {a_sheets : Nat} {a_now_signs : Nat} {a_now_rotors : Nat} {v_readFault : Int32} {v_now_field : Int32} {v_now_tick : Int32} {v_now_pace : Int32} {v_now_signNumber : Int32} {v_now_rotorNumber : Int32} {v_now_signs : Nat → Int32} {x1 : Int32} {r_ : Int32} {v_now_signNumber' : Int32} {v_now_signs' : Nat → Int32} (hF : F_X6_add v_now_signNumber v_now_signs x1 = some (r_, v_now_signNumber', v_now_signs')) : MI l yX6_add cX6_add 2 .int rm_X6_add D (TS cI cB cZ cR cM cS) [.ref a_this, .int x1] [(a_this, .inr (6, [.ref a_tape, .ref a_now, .ref a_trial, .ref a_sights, .ref a_images, .ref a_sheets, .int v_readFault])), (a_now, .inr (0, [.int v_now_field, .int v_now_tick, .int v_now_pace, .int v_now_signNumber, .int v_now_rotorNumber, .ref a_now_signs, .ref a_now_rotors])), (a_now_signs, .inl (cI, 16, .inl v_now_signs))] [(a_this, .inr (6, [.ref a_tape, .ref a_now, .ref a_trial, .ref a_sights, .ref a_images, .ref a_sheets, .int v_readFault])), (a_now, .inr (0, [.int v_now_field, .int v_now_tick, .int v_now_pace, .int v_now_signNumber', .int v_now_rotorNumber, .ref a_now_signs, .ref a_now_rotors])), (a_now_signs, .inl (cI, 16, .inl v_now_signs'))] r_ :=
  c0_X6_add (res := (r_, v_now_signNumber', v_now_signs')) hF
def rm_X6_cut : Room := { frames := 1, cells := 0, slots := 0, locals := 21 }
theorem cv_X6_cut : CV yX6_cut cX6_cut 3 (some .int) rm_X6_cut RX6 1 := ⟨kw2_213, kw2_214, kw1_1, kw2_215, by decide +kernel, rfl, rfl⟩
set_option maxHeartbeats 4000000 in
set_option maxRecDepth 100000 in
theorem c0_X6_cut {l : Launch} {D : va_G} {cI cB cZ cR cM cS : ClassId} {a_this : Nat} {a_tape : Nat} {a_now : Nat} {a_trial : Nat} {a_sights : Nat} {a_images : Nat} {a_sheets : Nat} {a_now_signs : Nat} {a_now_rotors : Nat} {v_readFault : Int32} {v_now_field : Int32} {v_now_tick : Int32} {v_now_pace : Int32} {v_now_signNumber : Int32} {v_now_rotorNumber : Int32} {x1 : Int32} {res : Int32 × Int32} (hF : F_X6_cut v_now_signNumber x1 = some res) : MI l yX6_cut cX6_cut 3 .int rm_X6_cut D (TS cI cB cZ cR cM cS) [.ref a_this, .int x1] [(a_this, .inr (6, [.ref a_tape, .ref a_now, .ref a_trial, .ref a_sights, .ref a_images, .ref a_sheets, .int v_readFault])), (a_now, .inr (0, [.int v_now_field, .int v_now_tick, .int v_now_pace, .int v_now_signNumber, .int v_now_rotorNumber, .ref a_now_signs, .ref a_now_rotors]))] [(a_this, .inr (6, [.ref a_tape, .ref a_now, .ref a_trial, .ref a_sights, .ref a_images, .ref a_sheets, .int v_readFault])), (a_now, .inr (0, [.int v_now_field, .int v_now_tick, .int v_now_pace, .int res.2, .int v_now_rotorNumber, .ref a_now_signs, .ref a_now_rotors]))] res.1 :=
  MI_of (by decide) (Nat.le_of_ble_eq_true rfl) (fun p e s m args below meth c A ls C hr hlk hK hA hP hD hS hl => by
    have C : CX p m c cX6_cut 3 s args RX6 := C
    have hl : lv_has ls 3 [(0, .ref a_this), (1, .int x1)] := hl
    unfold F_X6_cut at hF
    refine lv_iload_n C.1 C.2.1 dX6_cut_0 rfl (lv_at hl 1 rfl) ?_
    refine lv_aload_n C.1 C.2.1 dX6_cut_1 rfl (lv_at hl 0 rfl) ?_
    refine gf_6_6_now C hK hP 0 rfl rfl dX6_cut_2 ?_
    refine gf_6_0_signNumber C hK hP 1 rfl rfl dX6_cut_5 ?_
    obtain ⟨r1, h2, hF⟩ := fb hF
    refine callSI C hK hA hP hD hS (c_X6_within  h2) cs_X6_within kw1_227 ⟨Nat.le_of_ble_eq_true rfl, Nat.le_of_ble_eq_true rfl⟩ ⟨Nat.zero_le _, Nat.zero_le _⟩ hl.1 rfl (Nat.le_of_ble_eq_true rfl) dX6_cut_8 (fun H locs hP hD hS => ?_)
    refine lv_if_ne (tgt := 16) C.1 C.2.1 dX6_cut_11 (by decide) (fun c3 => ?_) (fun c3 => ?_)
    · have hF := fn hF c3
      refine lv_aload_n C.1 C.2.1 dX6_cut_16 rfl (lv_at hl 0 rfl) ?_
      refine gf_6_6_now C hK hP 0 rfl rfl dX6_cut_17 ?_
      refine gf_6_0_signNumber C hK hP 1 rfl rfl dX6_cut_20 ?_
      refine lv_istore_n (lv' := [(2, .int v_now_signNumber), (0, .ref a_this), (1, .int x1)]) C.1 C.2.1 dX6_cut_23 rfl hl (by decide) rfl (fun ls hl => ?_)
      refine lv_aload_n C.1 C.2.1 dX6_cut_24 rfl (lv_at hl 1 rfl) ?_
      refine gf_6_6_now C hK hP 0 rfl rfl dX6_cut_25 ?_
      refine lv_iload_n C.1 C.2.1 dX6_cut_28 rfl (lv_at hl 2 rfl) ?_
      refine pf_6_0_signNumber C hK hP hD hS 1 rfl rfl dX6_cut_29 (fun H locs hP hD hS => ?_)
      have hP : va_P D vwCl [(a_this, .inr (6, [.ref a_tape, .ref a_now, .ref a_trial, .ref a_sights, .ref a_images, .ref a_sheets, .int v_readFault])), (a_now, .inr (0, [.int v_now_field, .int v_now_tick, .int v_now_pace, .int x1, .int v_now_rotorNumber, .ref a_now_signs, .ref a_now_rotors]))] H := hP
      have hD : va_D A [(a_this, .inr (6, [.ref a_tape, .ref a_now, .ref a_trial, .ref a_sights, .ref a_images, .ref a_sheets, .int v_readFault])), (a_now, .inr (0, [.int v_now_field, .int v_now_tick, .int v_now_pace, .int x1, .int v_now_rotorNumber, .ref a_now_signs, .ref a_now_rotors]))] := hD
      refine lv_iload_n C.1 C.2.1 dX6_cut_32 rfl (lv_at hl 0 rfl) ?_
      have hF := Option.some.inj hF
      subst hF
      exact retI C hr hlk hP hD hS dX6_cut_33
    · have hF := fp hF c3
      refine lv_iconst (v := (-1)) C.1 C.2.1 dX6_cut_14 (by decide) ?_
      have hF := Option.some.inj hF
      subst hF
      exact retI C hr hlk hP hD hS dX6_cut_15)
theorem c_X6_cut {l : Launch} {D : va_G} {cI cB cZ cR cM cS : ClassId} {a_this : Nat} {a_tape : Nat} {a_now : Nat} {a_trial : Nat} {a_sights : Nat} {a_images : Nat} {a_sheets : Nat} {a_now_signs : Nat} {a_now_rotors : Nat} {v_readFault : Int32} {v_now_field : Int32} {v_now_tick : Int32} {v_now_pace : Int32} {v_now_signNumber : Int32} {v_now_rotorNumber : Int32} {x1 : Int32} {r_ : Int32} {v_now_signNumber' : Int32} (hF : F_X6_cut v_now_signNumber x1 = some (r_, v_now_signNumber')) : MI l yX6_cut cX6_cut 3 .int rm_X6_cut D (TS cI cB cZ cR cM cS) [.ref a_this, .int x1] [(a_this, .inr (6, [.ref a_tape, .ref a_now, .ref a_trial, .ref a_sights, .ref a_images, .ref a_sheets, .int v_readFault])), (a_now, .inr (0, [.int v_now_field, .int v_now_tick, .int v_now_pace, .int v_now_signNumber, .int v_now_rotorNumber, .ref a_now_signs, .ref a_now_rotors]))] [(a_this, .inr (6, [.ref a_tape, .ref a_now, .ref a_trial, .ref a_sights, .ref a_images, .ref a_sheets, .int v_readFault])), (a_now, .inr (0, [.int v_now_field, .int v_now_tick, .int v_now_pace, .int v_now_signNumber', .int v_now_rotorNumber, .ref a_now_signs, .ref a_now_rotors]))] r_ :=
  c0_X6_cut (res := (r_, v_now_signNumber')) hF
def rm_X6_ticks : Room := { frames := 4, cells := 0, slots := 0, locals := 93 }
theorem cv_X6_ticks : CV yX6_ticks cX6_ticks 2 (some .int) rm_X6_ticks RX6 1 := ⟨kw2_217, kw2_218, kw1_1, kw2_219, by decide +kernel, rfl, rfl⟩
set_option maxHeartbeats 4000000 in
set_option maxRecDepth 100000 in
theorem c0_X6_ticks {l : Launch} {D : va_G} {cI cB cZ cR cM cS : ClassId} {a_this : Nat} {a_tape : Nat} {a_now : Nat} {a_trial : Nat} {a_sights : Nat} {a_images : Nat} {a_sheets : Nat} {a_now_signs : Nat} {a_now_rotors : Nat} {a_now_rotors_e : Nat → Nat} {v_readFault : Int32} {v_now_field : Int32} {v_now_tick : Int32} {v_now_pace : Int32} {v_now_signNumber : Int32} {v_now_rotorNumber : Int32} {v_now_signs : Nat → Int32} {v_now_rotorsF : Nat → Rot} {x1 : Int32} {res : Int32 × Int32 × Int32 × (Nat → Rot)} (hF : F_X6_ticks v_now_field v_now_tick v_now_pace v_now_signNumber v_now_rotorNumber v_now_signs v_now_rotorsF x1 = some res) : MI l yX6_ticks cX6_ticks 2 .int rm_X6_ticks D (TS cI cB cZ cR cM cS) [.ref a_this, .int x1] [(a_this, .inr (6, [.ref a_tape, .ref a_now, .ref a_trial, .ref a_sights, .ref a_images, .ref a_sheets, .int v_readFault])), (a_now, .inr (0, [.int v_now_field, .int v_now_tick, .int v_now_pace, .int v_now_signNumber, .int v_now_rotorNumber, .ref a_now_signs, .ref a_now_rotors])), (a_now_signs, .inl (cI, 16, .inl v_now_signs)), (a_now_rotors, rfn cR 4 a_now_rotors_e), rcell a_now_rotors_e v_now_rotorsF 0, rcell a_now_rotors_e v_now_rotorsF 1, rcell a_now_rotors_e v_now_rotorsF 2, rcell a_now_rotors_e v_now_rotorsF 3] [(a_this, .inr (6, [.ref a_tape, .ref a_now, .ref a_trial, .ref a_sights, .ref a_images, .ref a_sheets, .int v_readFault])), (a_now, .inr (0, [.int res.2.1, .int res.2.2.1, .int v_now_pace, .int v_now_signNumber, .int v_now_rotorNumber, .ref a_now_signs, .ref a_now_rotors])), (a_now_signs, .inl (cI, 16, .inl v_now_signs)), (a_now_rotors, rfn cR 4 a_now_rotors_e), rcell a_now_rotors_e res.2.2.2 0, rcell a_now_rotors_e res.2.2.2 1, rcell a_now_rotors_e res.2.2.2 2, rcell a_now_rotors_e res.2.2.2 3] res.1 :=
  MI_of (by decide) (Nat.le_of_ble_eq_true rfl) (fun p e s m args below meth c A ls C hr hlk hK hA hP hD hS hl => by
    have C : CX p m c cX6_ticks 2 s args RX6 := C
    have hl : lv_has ls 2 [(0, .ref a_this), (1, .int x1)] := hl
    unfold F_X6_ticks at hF
    refine lv_iload_n C.1 C.2.1 dX6_ticks_0 rfl (lv_at hl 1 rfl) ?_
    refine lv_bipush (v := 100) C.1 C.2.1 dX6_ticks_1 (by decide) ?_
    obtain ⟨r1, h2, hF⟩ := fb hF
    refine callSI C hK hA hP hD hS (c_X6_within  h2) cs_X6_within kw1_227 ⟨Nat.le_of_ble_eq_true rfl, Nat.le_of_ble_eq_true rfl⟩ ⟨Nat.zero_le _, Nat.zero_le _⟩ hl.1 rfl (Nat.le_of_ble_eq_true rfl) dX6_ticks_3 (fun H locs hP hD hS => ?_)
    refine lv_if_ne (tgt := 11) C.1 C.2.1 dX6_ticks_6 (by decide) (fun c3 => ?_) (fun c3 => ?_)
    · have hF := fn hF c3
      refine lv_aload_n C.1 C.2.1 dX6_ticks_11 rfl (lv_at hl 0 rfl) ?_
      refine gf_6_6_now C hK hP 0 rfl rfl dX6_ticks_12 ?_
      refine gf_6_0_tick C hK hP 1 rfl rfl dX6_ticks_15 ?_
      refine lv_iload_n C.1 C.2.1 dX6_ticks_18 rfl (lv_at hl 1 rfl) ?_
      refine lv_iadd C.1 C.2.1 dX6_ticks_19 ?_
      refine lv_sipush (v := 10000) C.1 C.2.1 dX6_ticks_20 (by decide) ?_
      refine lv_icmp_lt (tgt := 29) C.1 C.2.1 dX6_ticks_23 (by decide) (fun c4 => ?_) (fun c4 => ?_)
      · have hF := fp hF c4
        refine lv_aload_n C.1 C.2.1 dX6_ticks_29 rfl (lv_at hl 0 rfl) ?_
        refine gf_6_6_now C hK hP 0 rfl rfl dX6_ticks_30 ?_
        refine lv_iload_n C.1 C.2.1 dX6_ticks_33 rfl (lv_at hl 1 rfl) ?_
        obtain ⟨⟨r5, w6, w7, w8⟩, h9, hF⟩ := fb hF
        refine callVI C hK hA hP hD hS [1, 2, 3, 4, 5, 6, 7] (c_X0_go (a_this := a_now) (a_signs := a_now_signs) (a_rotors := a_now_rotors) (a_rotors_e := a_now_rotors_e) (v_field := v_now_field) (v_tick := v_now_tick) (v_pace := v_now_pace) (v_signNumber := v_now_signNumber) (v_rotorNumber := v_now_rotorNumber) (v_signs := v_now_signs) (v_rotorsF := v_now_rotorsF) h9) cv_X0_go kw2_220 rfl (by decide) rfl rfl rfl ⟨Nat.le_of_ble_eq_true rfl, Nat.le_of_ble_eq_true rfl⟩ ⟨Nat.zero_le _, Nat.zero_le _⟩ hl.1 rfl (Nat.le_of_ble_eq_true rfl) dX6_ticks_34 (fun H locs hP hD hS => ?_)
        have hP : va_P D vwCl [(a_this, .inr (6, [.ref a_tape, .ref a_now, .ref a_trial, .ref a_sights, .ref a_images, .ref a_sheets, .int v_readFault])), (a_now, .inr (0, [.int w6, .int w7, .int v_now_pace, .int v_now_signNumber, .int v_now_rotorNumber, .ref a_now_signs, .ref a_now_rotors])), (a_now_signs, .inl (cI, 16, .inl v_now_signs)), (a_now_rotors, rfn cR 4 a_now_rotors_e), rcell a_now_rotors_e w8 0, rcell a_now_rotors_e w8 1, rcell a_now_rotors_e w8 2, rcell a_now_rotors_e w8 3] H := hP
        have hD : va_D A [(a_this, .inr (6, [.ref a_tape, .ref a_now, .ref a_trial, .ref a_sights, .ref a_images, .ref a_sheets, .int v_readFault])), (a_now, .inr (0, [.int w6, .int w7, .int v_now_pace, .int v_now_signNumber, .int v_now_rotorNumber, .ref a_now_signs, .ref a_now_rotors])), (a_now_signs, .inl (cI, 16, .inl v_now_signs)), (a_now_rotors, rfn cR 4 a_now_rotors_e), rcell a_now_rotors_e w8 0, rcell a_now_rotors_e w8 1, rcell a_now_rotors_e w8 2, rcell a_now_rotors_e w8 3] := hD
        have hF := Option.some.inj hF
        subst hF
        exact retI C hr hlk hP hD hS dX6_ticks_37
      · have hF := fn hF c4
        refine lv_bipush (v := (-3)) C.1 C.2.1 dX6_ticks_26 (by decide) ?_
        have hF := Option.some.inj hF
        subst hF
        exact retI C hr hlk hP hD hS dX6_ticks_28
    · have hF := fp hF c3
      refine lv_iconst (v := (-1)) C.1 C.2.1 dX6_ticks_9 (by decide) ?_
      have hF := Option.some.inj hF
      subst hF
      exact retI C hr hlk hP hD hS dX6_ticks_10)
theorem c_X6_ticks {l : Launch} {D : va_G} {cI cB cZ cR cM cS : ClassId} {a_this : Nat} {a_tape : Nat} {a_now : Nat} {a_trial : Nat} {a_sights : Nat} {a_images : Nat} {a_sheets : Nat} {a_now_signs : Nat} {a_now_rotors : Nat} {a_now_rotors_e : Nat → Nat} {v_readFault : Int32} {v_now_field : Int32} {v_now_tick : Int32} {v_now_pace : Int32} {v_now_signNumber : Int32} {v_now_rotorNumber : Int32} {v_now_signs : Nat → Int32} {v_now_rotorsF : Nat → Rot} {x1 : Int32} {r_ : Int32} {v_now_field' : Int32} {v_now_tick' : Int32} {v_now_rotorsF' : Nat → Rot} (hF : F_X6_ticks v_now_field v_now_tick v_now_pace v_now_signNumber v_now_rotorNumber v_now_signs v_now_rotorsF x1 = some (r_, v_now_field', v_now_tick', v_now_rotorsF')) : MI l yX6_ticks cX6_ticks 2 .int rm_X6_ticks D (TS cI cB cZ cR cM cS) [.ref a_this, .int x1] [(a_this, .inr (6, [.ref a_tape, .ref a_now, .ref a_trial, .ref a_sights, .ref a_images, .ref a_sheets, .int v_readFault])), (a_now, .inr (0, [.int v_now_field, .int v_now_tick, .int v_now_pace, .int v_now_signNumber, .int v_now_rotorNumber, .ref a_now_signs, .ref a_now_rotors])), (a_now_signs, .inl (cI, 16, .inl v_now_signs)), (a_now_rotors, rfn cR 4 a_now_rotors_e), rcell a_now_rotors_e v_now_rotorsF 0, rcell a_now_rotors_e v_now_rotorsF 1, rcell a_now_rotors_e v_now_rotorsF 2, rcell a_now_rotors_e v_now_rotorsF 3] [(a_this, .inr (6, [.ref a_tape, .ref a_now, .ref a_trial, .ref a_sights, .ref a_images, .ref a_sheets, .int v_readFault])), (a_now, .inr (0, [.int v_now_field', .int v_now_tick', .int v_now_pace, .int v_now_signNumber, .int v_now_rotorNumber, .ref a_now_signs, .ref a_now_rotors])), (a_now_signs, .inl (cI, 16, .inl v_now_signs)), (a_now_rotors, rfn cR 4 a_now_rotors_e), rcell a_now_rotors_e v_now_rotorsF' 0, rcell a_now_rotors_e v_now_rotorsF' 1, rcell a_now_rotors_e v_now_rotorsF' 2, rcell a_now_rotors_e v_now_rotorsF' 3] r_ :=
  c0_X6_ticks (res := (r_, v_now_field', v_now_tick', v_now_rotorsF')) hF
