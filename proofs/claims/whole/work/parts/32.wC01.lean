def rm_X6_rotor : Room := { frames := 2, cells := 0, slots := 0, locals := 42 }
theorem cv_X6_rotor : CV yX6_rotor cX6_rotor 4 (some .int) rm_X6_rotor RX6 2 := ⟨kw2_169, kw2_170, kw1_1, kw2_171, by decide +kernel, rfl, rfl⟩
set_option maxHeartbeats 4000000 in
set_option maxRecDepth 100000 in
theorem c_X6_rotor {l : Launch} {D : va_G} {cI cB cZ cR cM cS : ClassId} {a_this : Nat} {a_tape : Nat} {a_now : Nat} {a_trial : Nat} {a_sights : Nat} {a_images : Nat} {a_sheets : Nat} {a_now_signs : Nat} {a_now_rotors : Nat} {a_now_rotors_e : Nat → Nat} {v_readFault : Int32} {v_now_field : Int32} {v_now_tick : Int32} {v_now_pace : Int32} {v_now_signNumber : Int32} {v_now_rotorNumber : Int32} {v_now_rotorsF : Nat → Rot} {x1 : Int32} {x2 : Int32} {res : Int32} (hF : F_X6_rotor v_now_field v_now_rotorNumber v_now_rotorsF x1 x2 = some res) : MI l yX6_rotor cX6_rotor 4 .int rm_X6_rotor D (TS cI cB cZ cR cM cS) [.ref a_this, .int x1, .int x2] [(a_this, .inr (6, [.ref a_tape, .ref a_now, .ref a_trial, .ref a_sights, .ref a_images, .ref a_sheets, .int v_readFault])), (a_now, .inr (0, [.int v_now_field, .int v_now_tick, .int v_now_pace, .int v_now_signNumber, .int v_now_rotorNumber, .ref a_now_signs, .ref a_now_rotors])), (a_now_rotors, rfn cR 4 a_now_rotors_e), rcell a_now_rotors_e v_now_rotorsF 0, rcell a_now_rotors_e v_now_rotorsF 1, rcell a_now_rotors_e v_now_rotorsF 2, rcell a_now_rotors_e v_now_rotorsF 3] [(a_this, .inr (6, [.ref a_tape, .ref a_now, .ref a_trial, .ref a_sights, .ref a_images, .ref a_sheets, .int v_readFault])), (a_now, .inr (0, [.int v_now_field, .int v_now_tick, .int v_now_pace, .int v_now_signNumber, .int v_now_rotorNumber, .ref a_now_signs, .ref a_now_rotors])), (a_now_rotors, rfn cR 4 a_now_rotors_e), rcell a_now_rotors_e v_now_rotorsF 0, rcell a_now_rotors_e v_now_rotorsF 1, rcell a_now_rotors_e v_now_rotorsF 2, rcell a_now_rotors_e v_now_rotorsF 3] res :=
  MI_of (by decide) (Nat.le_of_ble_eq_true rfl) (fun p e s m args below meth c A ls C hr hlk hK hA hP hD hS hl => by
    have C : CX p m c cX6_rotor 4 s args RX6 := C
    have hl : lv_has ls 4 [(0, .ref a_this), (1, .int x1), (2, .int x2)] := hl
    unfold F_X6_rotor at hF
    refine lv_aload_n C.1 C.2.1 dX6_rotor_0 rfl (lv_at hl 0 rfl) ?_
    refine lv_iload_n C.1 C.2.1 dX6_rotor_1 rfl (lv_at hl 1 rfl) ?_
    obtain ⟨r1, h2, hF⟩ := fb hF
    refine callVI C hK hA hP hD hS [0, 1] (c_X6_hasRotor (a_this := a_this) (a_tape := a_tape) (a_now := a_now) (a_trial := a_trial) (a_sights := a_sights) (a_images := a_images) (a_sheets := a_sheets) (a_now_signs := a_now_signs) (a_now_rotors := a_now_rotors) (v_readFault := v_readFault) (v_now_field := v_now_field) (v_now_tick := v_now_tick) (v_now_pace := v_now_pace) (v_now_signNumber := v_now_signNumber) (v_now_rotorNumber := v_now_rotorNumber) h2) cv_X6_hasRotor kw2_172 rfl (by decide) rfl rfl rfl ⟨Nat.le_of_ble_eq_true rfl, Nat.le_of_ble_eq_true rfl⟩ ⟨Nat.zero_le _, Nat.zero_le _⟩ hl.1 rfl (Nat.le_of_ble_eq_true rfl) dX6_rotor_2 (fun H locs hP hD hS => ?_)
    have hP : va_P D vwCl [(a_this, .inr (6, [.ref a_tape, .ref a_now, .ref a_trial, .ref a_sights, .ref a_images, .ref a_sheets, .int v_readFault])), (a_now, .inr (0, [.int v_now_field, .int v_now_tick, .int v_now_pace, .int v_now_signNumber, .int v_now_rotorNumber, .ref a_now_signs, .ref a_now_rotors])), (a_now_rotors, rfn cR 4 a_now_rotors_e), rcell a_now_rotors_e v_now_rotorsF 0, rcell a_now_rotors_e v_now_rotorsF 1, rcell a_now_rotors_e v_now_rotorsF 2, rcell a_now_rotors_e v_now_rotorsF 3] H := hP
    have hD : va_D A [(a_this, .inr (6, [.ref a_tape, .ref a_now, .ref a_trial, .ref a_sights, .ref a_images, .ref a_sheets, .int v_readFault])), (a_now, .inr (0, [.int v_now_field, .int v_now_tick, .int v_now_pace, .int v_now_signNumber, .int v_now_rotorNumber, .ref a_now_signs, .ref a_now_rotors])), (a_now_rotors, rfn cR 4 a_now_rotors_e), rcell a_now_rotors_e v_now_rotorsF 0, rcell a_now_rotors_e v_now_rotorsF 1, rcell a_now_rotors_e v_now_rotorsF 2, rcell a_now_rotors_e v_now_rotorsF 3] := hD
    refine lv_if_ne (tgt := 10) C.1 C.2.1 dX6_rotor_5 (by decide) (fun c3 => ?_) (fun c3 => ?_)
    · have hF := fn hF c3
      refine lv_aload_n C.1 C.2.1 dX6_rotor_10 rfl (lv_at hl 0 rfl) ?_
      refine gf_6_6_now C hK hP 0 rfl rfl dX6_rotor_11 ?_
      refine gf_6_0_rotors C hK hP 1 rfl rfl dX6_rotor_14 ?_
      refine lv_iload_n C.1 C.2.1 dX6_rotor_17 rfl (lv_at hl 1 rfl) ?_
      obtain ⟨h4, hF⟩ := fk hF
      refine aldR C hK hP 2 3 rfl rfl h4 dX6_rotor_18 ?_
      have hk5 : x1.toNatClampNeg < 4 := Nat.not_le.mp (fun q => h4 (Or.inr q))
      refine lv_astore_n (lv' := [(3, .ref (a_now_rotors_e x1.toNatClampNeg)), (0, .ref a_this), (1, .int x1), (2, .int x2)]) C.1 C.2.1 dX6_rotor_19 rfl hl (by decide) rfl (fun ls hl => ?_)
      refine lv_iload_n C.1 C.2.1 dX6_rotor_20 rfl (lv_at hl 3 rfl) ?_
      by_cases c6 : x2 = (0 : Int32)
      · have hF := fp hF c6
        refine lv_tableIn (tgt := 60) C.1 C.2.1 dX6_rotor_21 (by rw [c6]; decide) (by rw [c6]; decide) (by rw [c6]; rfl) (by decide) ?_
        refine lv_aload_n C.1 C.2.1 dX6_rotor_60 rfl (lv_at hl 0 rfl) ?_
        refine gf_6_2_sort C hK hP (3 + x1.toNatClampNeg) (famget 3 (rcell a_now_rotors_e v_now_rotorsF) rfl rfl rfl rfl hk5) rfl dX6_rotor_61 ?_
        have hF := Option.some.inj hF
        subst hF
        exact retI C hr hlk hP hD hS dX6_rotor_64
      · have hF := fn hF c6
        by_cases c7 : x2 = (1 : Int32)
        · have hF := fp hF c7
          refine lv_tableIn (tgt := 65) C.1 C.2.1 dX6_rotor_21 (by rw [c7]; decide) (by rw [c7]; decide) (by rw [c7]; rfl) (by decide) ?_
          refine lv_aload_n C.1 C.2.1 dX6_rotor_65 rfl (lv_at hl 0 rfl) ?_
          refine gf_6_2_grip C hK hP (3 + x1.toNatClampNeg) (famget 3 (rcell a_now_rotors_e v_now_rotorsF) rfl rfl rfl rfl hk5) rfl dX6_rotor_66 ?_
          have hF := Option.some.inj hF
          subst hF
          exact retI C hr hlk hP hD hS dX6_rotor_69
        · have hF := fn hF c7
          by_cases c8 : x2 = (2 : Int32)
          · have hF := fp hF c8
            refine lv_tableIn (tgt := 70) C.1 C.2.1 dX6_rotor_21 (by rw [c8]; decide) (by rw [c8]; decide) (by rw [c8]; rfl) (by decide) ?_
            refine lv_ldc (v := 100000) C.1 C.2.1 C.2.2.2.1 (C.2.2.2.2 _ kw2_143) dX6_rotor_70 ?_
            refine lv_aload_n C.1 C.2.1 dX6_rotor_72 rfl (lv_at hl 0 rfl) ?_
            refine gf_6_2_place C hK hP (3 + x1.toNatClampNeg) (famget 3 (rcell a_now_rotors_e v_now_rotorsF) rfl rfl rfl rfl hk5) rfl dX6_rotor_73 ?_
            refine lv_iadd C.1 C.2.1 dX6_rotor_76 ?_
            have hF := Option.some.inj hF
            subst hF
            exact retI C hr hlk hP hD hS dX6_rotor_77
          · have hF := fn hF c8
            by_cases c9 : x2 = (3 : Int32)
            · have hF := fp hF c9
              refine lv_tableIn (tgt := 78) C.1 C.2.1 dX6_rotor_21 (by rw [c9]; decide) (by rw [c9]; decide) (by rw [c9]; rfl) (by decide) ?_
              refine lv_bipush (v := 10) C.1 C.2.1 dX6_rotor_78 (by decide) ?_
              refine lv_aload_n C.1 C.2.1 dX6_rotor_80 rfl (lv_at hl 0 rfl) ?_
              refine gf_6_2_way C hK hP (3 + x1.toNatClampNeg) (famget 3 (rcell a_now_rotors_e v_now_rotorsF) rfl rfl rfl rfl hk5) rfl dX6_rotor_81 ?_
              refine lv_iadd C.1 C.2.1 dX6_rotor_84 ?_
              have hF := Option.some.inj hF
              subst hF
              exact retI C hr hlk hP hD hS dX6_rotor_85
            · have hF := fn hF c9
              by_cases c10 : x2 = (4 : Int32)
              · have hF := fp hF c10
                refine lv_tableIn (tgt := 86) C.1 C.2.1 dX6_rotor_21 (by rw [c10]; decide) (by rw [c10]; decide) (by rw [c10]; rfl) (by decide) ?_
                refine lv_bipush (v := 10) C.1 C.2.1 dX6_rotor_86 (by decide) ?_
                refine lv_aload_n C.1 C.2.1 dX6_rotor_88 rfl (lv_at hl 0 rfl) ?_
                refine lv_aload_n C.1 C.2.1 dX6_rotor_89 rfl (lv_at hl 1 rfl) ?_
                refine gf_6_6_now C hK hP 0 rfl rfl dX6_rotor_90 ?_
                refine gf_6_0_field C hK hP 1 rfl rfl dX6_rotor_93 ?_
                obtain ⟨r11, h12, hF⟩ := fb hF
                refine callVI C hK hA hP hD hS [3 + x1.toNatClampNeg] (c_X2_off (a_this := a_now_rotors_e x1.toNatClampNeg) (v_sort := (v_now_rotorsF x1.toNatClampNeg).1) (v_grip := (v_now_rotorsF x1.toNatClampNeg).2.1) (v_place := (v_now_rotorsF x1.toNatClampNeg).2.2.1) (v_way := (v_now_rotorsF x1.toNatClampNeg).2.2.2) h12) cv_X2_off kw2_176 (congrArg (fun z => [z]) (famget 3 (rcell a_now_rotors_e v_now_rotorsF) rfl rfl rfl rfl hk5)) rfl rfl rfl rfl ⟨Nat.le_of_ble_eq_true rfl, Nat.le_of_ble_eq_true rfl⟩ ⟨Nat.zero_le _, Nat.zero_le _⟩ hl.1 rfl (Nat.le_of_ble_eq_true rfl) dX6_rotor_96 (fun H locs hP hD hS => ?_)
                have hP := va_Pe (setL1.trans (setsame (famget 3 (rcell a_now_rotors_e v_now_rotorsF) rfl rfl rfl rfl hk5))) hP
                have hD := va_De (setL1.trans (setsame (famget 3 (rcell a_now_rotors_e v_now_rotorsF) rfl rfl rfl rfl hk5))) hD
                have hP : va_P D vwCl [(a_this, .inr (6, [.ref a_tape, .ref a_now, .ref a_trial, .ref a_sights, .ref a_images, .ref a_sheets, .int v_readFault])), (a_now, .inr (0, [.int v_now_field, .int v_now_tick, .int v_now_pace, .int v_now_signNumber, .int v_now_rotorNumber, .ref a_now_signs, .ref a_now_rotors])), (a_now_rotors, rfn cR 4 a_now_rotors_e), rcell a_now_rotors_e v_now_rotorsF 0, rcell a_now_rotors_e v_now_rotorsF 1, rcell a_now_rotors_e v_now_rotorsF 2, rcell a_now_rotors_e v_now_rotorsF 3] H := hP
                have hD : va_D A [(a_this, .inr (6, [.ref a_tape, .ref a_now, .ref a_trial, .ref a_sights, .ref a_images, .ref a_sheets, .int v_readFault])), (a_now, .inr (0, [.int v_now_field, .int v_now_tick, .int v_now_pace, .int v_now_signNumber, .int v_now_rotorNumber, .ref a_now_signs, .ref a_now_rotors])), (a_now_rotors, rfn cR 4 a_now_rotors_e), rcell a_now_rotors_e v_now_rotorsF 0, rcell a_now_rotors_e v_now_rotorsF 1, rcell a_now_rotors_e v_now_rotorsF 2, rcell a_now_rotors_e v_now_rotorsF 3] := hD
                refine lv_iadd C.1 C.2.1 dX6_rotor_99 ?_
                have hF := Option.some.inj hF
                subst hF
                exact retI C hr hlk hP hD hS dX6_rotor_100
              · have hF := fn hF c10
                by_cases c13 : x2 = (5 : Int32)
                · have hF := fp hF c13
                  refine lv_tableIn (tgt := 101) C.1 C.2.1 dX6_rotor_21 (by rw [c13]; decide) (by rw [c13]; decide) (by rw [c13]; rfl) (by decide) ?_
                  refine lv_ldc (v := 100000) C.1 C.2.1 C.2.2.2.1 (C.2.2.2.2 _ kw2_143) dX6_rotor_101 ?_
                  refine lv_aload_n C.1 C.2.1 dX6_rotor_103 rfl (lv_at hl 0 rfl) ?_
                  refine lv_aload_n C.1 C.2.1 dX6_rotor_104 rfl (lv_at hl 1 rfl) ?_
                  refine gf_6_6_now C hK hP 0 rfl rfl dX6_rotor_105 ?_
                  refine gf_6_0_field C hK hP 1 rfl rfl dX6_rotor_108 ?_
                  obtain ⟨r14, h15, hF⟩ := fb hF
                  refine callVI C hK hA hP hD hS [3 + x1.toNatClampNeg] (c_X2_lost (a_this := a_now_rotors_e x1.toNatClampNeg) (v_sort := (v_now_rotorsF x1.toNatClampNeg).1) (v_grip := (v_now_rotorsF x1.toNatClampNeg).2.1) (v_place := (v_now_rotorsF x1.toNatClampNeg).2.2.1) (v_way := (v_now_rotorsF x1.toNatClampNeg).2.2.2) h15) cv_X2_lost kw2_177 (congrArg (fun z => [z]) (famget 3 (rcell a_now_rotors_e v_now_rotorsF) rfl rfl rfl rfl hk5)) rfl rfl rfl rfl ⟨Nat.le_of_ble_eq_true rfl, Nat.le_of_ble_eq_true rfl⟩ ⟨Nat.zero_le _, Nat.zero_le _⟩ hl.1 rfl (Nat.le_of_ble_eq_true rfl) dX6_rotor_111 (fun H locs hP hD hS => ?_)
                  have hP := va_Pe (setL1.trans (setsame (famget 3 (rcell a_now_rotors_e v_now_rotorsF) rfl rfl rfl rfl hk5))) hP
                  have hD := va_De (setL1.trans (setsame (famget 3 (rcell a_now_rotors_e v_now_rotorsF) rfl rfl rfl rfl hk5))) hD
                  have hP : va_P D vwCl [(a_this, .inr (6, [.ref a_tape, .ref a_now, .ref a_trial, .ref a_sights, .ref a_images, .ref a_sheets, .int v_readFault])), (a_now, .inr (0, [.int v_now_field, .int v_now_tick, .int v_now_pace, .int v_now_signNumber, .int v_now_rotorNumber, .ref a_now_signs, .ref a_now_rotors])), (a_now_rotors, rfn cR 4 a_now_rotors_e), rcell a_now_rotors_e v_now_rotorsF 0, rcell a_now_rotors_e v_now_rotorsF 1, rcell a_now_rotors_e v_now_rotorsF 2, rcell a_now_rotors_e v_now_rotorsF 3] H := hP
                  have hD : va_D A [(a_this, .inr (6, [.ref a_tape, .ref a_now, .ref a_trial, .ref a_sights, .ref a_images, .ref a_sheets, .int v_readFault])), (a_now, .inr (0, [.int v_now_field, .int v_now_tick, .int v_now_pace, .int v_now_signNumber, .int v_now_rotorNumber, .ref a_now_signs, .ref a_now_rotors])), (a_now_rotors, rfn cR 4 a_now_rotors_e), rcell a_now_rotors_e v_now_rotorsF 0, rcell a_now_rotors_e v_now_rotorsF 1, rcell a_now_rotors_e v_now_rotorsF 2, rcell a_now_rotors_e v_now_rotorsF 3] := hD
                  refine lv_iadd C.1 C.2.1 dX6_rotor_114 ?_
                  have hF := Option.some.inj hF
                  subst hF
                  exact retI C hr hlk hP hD hS dX6_rotor_115
                · have hF := fn hF c13
                  refine lv_tableOut (tgt := 116) C.1 C.2.1 dX6_rotor_21 (by have q0 := lv_neT (k := 0) (a := 0) c6 (by decide); have q1 := lv_neT (k := 1) (a := 1) c7 (by decide); have q2 := lv_neT (k := 2) (a := 2) c8 (by decide); have q3 := lv_neT (k := 3) (a := 3) c9 (by decide); have q4 := lv_neT (k := 4) (a := 4) c10 (by decide); have q5 := lv_neT (k := 5) (a := 5) c13 (by decide); omega) (by decide) ?_
                  refine lv_iconst (v := (-1)) C.1 C.2.1 dX6_rotor_116 (by decide) ?_
                  have hF := Option.some.inj hF
                  subst hF
                  exact retI C hr hlk hP hD hS dX6_rotor_117
    · have hF := fp hF c3
      refine lv_iconst (v := (-1)) C.1 C.2.1 dX6_rotor_8 (by decide) ?_
      have hF := Option.some.inj hF
      subst hF
      exact retI C hr hlk hP hD hS dX6_rotor_9)
def rm_X6_hasSign : Room := { frames := 0, cells := 0, slots := 0, locals := 0 }
theorem cv_X6_hasSign : CV yX6_hasSign cX6_hasSign 2 (some .boolean) rm_X6_hasSign RX6 1 := ⟨kw2_184, kwp_14, kw1_1, kw2_185, by decide +kernel, rfl, rfl⟩
set_option maxHeartbeats 4000000 in
set_option maxRecDepth 100000 in
theorem c_X6_hasSign {l : Launch} {D : va_G} {cI cB cZ cR cM cS : ClassId} {a_this : Nat} {a_tape : Nat} {a_now : Nat} {a_trial : Nat} {a_sights : Nat} {a_images : Nat} {a_sheets : Nat} {a_now_signs : Nat} {a_now_rotors : Nat} {v_readFault : Int32} {v_now_field : Int32} {v_now_tick : Int32} {v_now_pace : Int32} {v_now_signNumber : Int32} {v_now_rotorNumber : Int32} {x1 : Int32} {res : Int32} (hF : F_X6_hasSign v_now_signNumber x1 = some res) : MI l yX6_hasSign cX6_hasSign 2 .boolean rm_X6_hasSign D (TS cI cB cZ cR cM cS) [.ref a_this, .int x1] [(a_this, .inr (6, [.ref a_tape, .ref a_now, .ref a_trial, .ref a_sights, .ref a_images, .ref a_sheets, .int v_readFault])), (a_now, .inr (0, [.int v_now_field, .int v_now_tick, .int v_now_pace, .int v_now_signNumber, .int v_now_rotorNumber, .ref a_now_signs, .ref a_now_rotors]))] [(a_this, .inr (6, [.ref a_tape, .ref a_now, .ref a_trial, .ref a_sights, .ref a_images, .ref a_sheets, .int v_readFault])), (a_now, .inr (0, [.int v_now_field, .int v_now_tick, .int v_now_pace, .int v_now_signNumber, .int v_now_rotorNumber, .ref a_now_signs, .ref a_now_rotors]))] res :=
  MI_of (by decide) (Nat.le_of_ble_eq_true rfl) (fun p e s m args below meth c A ls C hr hlk hK hA hP hD hS hl => by
    have C : CX p m c cX6_hasSign 2 s args RX6 := C
    have hl : lv_has ls 2 [(0, .ref a_this), (1, .int x1)] := hl
    unfold F_X6_hasSign at hF
    refine lv_iload_n C.1 C.2.1 dX6_hasSign_0 rfl (lv_at hl 1 rfl) ?_
    refine lv_if_lt (tgt := 19) C.1 C.2.1 dX6_hasSign_1 (by decide) (fun c1 => ?_) (fun c1 => ?_)
    · have hF := fp hF c1
      refine lv_iconst (v := 0) C.1 C.2.1 dX6_hasSign_19 (by decide) ?_
      have hF := Option.some.inj hF
      subst hF
      exact retZ (v := 0) C hr hlk (by decide) hP hD hS dX6_hasSign_20
    · have hF := fn hF c1
      refine lv_iload_n C.1 C.2.1 dX6_hasSign_4 rfl (lv_at hl 1 rfl) ?_
      refine lv_aload_n C.1 C.2.1 dX6_hasSign_5 rfl (lv_at hl 0 rfl) ?_
      refine gf_6_6_now C hK hP 0 rfl rfl dX6_hasSign_6 ?_
      refine gf_6_0_signNumber C hK hP 1 rfl rfl dX6_hasSign_9 ?_
      refine lv_icmp_ge (tgt := 19) C.1 C.2.1 dX6_hasSign_12 (by decide) (fun c2 => ?_) (fun c2 => ?_)
      · have hF := fp hF c2
        refine lv_iconst (v := 0) C.1 C.2.1 dX6_hasSign_19 (by decide) ?_
        have hF := Option.some.inj hF
        subst hF
        exact retZ (v := 0) C hr hlk (by decide) hP hD hS dX6_hasSign_20
      · have hF := fn hF c2
        refine lv_iconst (v := 1) C.1 C.2.1 dX6_hasSign_15 (by decide) ?_
        refine lv_goto (tgt := 20) C.1 C.2.1 dX6_hasSign_16 (by decide) ?_
        have hF := Option.some.inj hF
        subst hF
        exact retZ (v := 1) C hr hlk (by decide) hP hD hS dX6_hasSign_20)
def rm_X6_sign : Room := { frames := 1, cells := 0, slots := 0, locals := 21 }
theorem cv_X6_sign : CV yX6_sign cX6_sign 2 (some .int) rm_X6_sign RX6 1 := ⟨kw2_179, kw2_180, kw1_1, kw2_181, by decide +kernel, rfl, rfl⟩
set_option maxHeartbeats 4000000 in
set_option maxRecDepth 100000 in
theorem c_X6_sign {l : Launch} {D : va_G} {cI cB cZ cR cM cS : ClassId} {a_this : Nat} {a_tape : Nat} {a_now : Nat} {a_trial : Nat} {a_sights : Nat} {a_images : Nat} {a_sheets : Nat} {a_now_signs : Nat} {a_now_rotors : Nat} {v_readFault : Int32} {v_now_field : Int32} {v_now_tick : Int32} {v_now_pace : Int32} {v_now_signNumber : Int32} {v_now_rotorNumber : Int32} {v_now_signs : Nat → Int32} {x1 : Int32} {res : Int32} (hF : F_X6_sign v_now_signNumber v_now_signs x1 = some res) : MI l yX6_sign cX6_sign 2 .int rm_X6_sign D (TS cI cB cZ cR cM cS) [.ref a_this, .int x1] [(a_this, .inr (6, [.ref a_tape, .ref a_now, .ref a_trial, .ref a_sights, .ref a_images, .ref a_sheets, .int v_readFault])), (a_now, .inr (0, [.int v_now_field, .int v_now_tick, .int v_now_pace, .int v_now_signNumber, .int v_now_rotorNumber, .ref a_now_signs, .ref a_now_rotors])), (a_now_signs, .inl (cI, 16, .inl v_now_signs))] [(a_this, .inr (6, [.ref a_tape, .ref a_now, .ref a_trial, .ref a_sights, .ref a_images, .ref a_sheets, .int v_readFault])), (a_now, .inr (0, [.int v_now_field, .int v_now_tick, .int v_now_pace, .int v_now_signNumber, .int v_now_rotorNumber, .ref a_now_signs, .ref a_now_rotors])), (a_now_signs, .inl (cI, 16, .inl v_now_signs))] res :=
  MI_of (by decide) (Nat.le_of_ble_eq_true rfl) (fun p e s m args below meth c A ls C hr hlk hK hA hP hD hS hl => by
    have C : CX p m c cX6_sign 2 s args RX6 := C
    have hl : lv_has ls 2 [(0, .ref a_this), (1, .int x1)] := hl
    unfold F_X6_sign at hF
    refine lv_aload_n C.1 C.2.1 dX6_sign_0 rfl (lv_at hl 0 rfl) ?_
    refine lv_iload_n C.1 C.2.1 dX6_sign_1 rfl (lv_at hl 1 rfl) ?_
    obtain ⟨r1, h2, hF⟩ := fb hF
    refine callVI C hK hA hP hD hS [0, 1] (c_X6_hasSign (a_this := a_this) (a_tape := a_tape) (a_now := a_now) (a_trial := a_trial) (a_sights := a_sights) (a_images := a_images) (a_sheets := a_sheets) (a_now_signs := a_now_signs) (a_now_rotors := a_now_rotors) (v_readFault := v_readFault) (v_now_field := v_now_field) (v_now_tick := v_now_tick) (v_now_pace := v_now_pace) (v_now_signNumber := v_now_signNumber) (v_now_rotorNumber := v_now_rotorNumber) h2) cv_X6_hasSign kw2_182 rfl (by decide) rfl rfl rfl ⟨Nat.le_of_ble_eq_true rfl, Nat.le_of_ble_eq_true rfl⟩ ⟨Nat.zero_le _, Nat.zero_le _⟩ hl.1 rfl (Nat.le_of_ble_eq_true rfl) dX6_sign_2 (fun H locs hP hD hS => ?_)
    have hP : va_P D vwCl [(a_this, .inr (6, [.ref a_tape, .ref a_now, .ref a_trial, .ref a_sights, .ref a_images, .ref a_sheets, .int v_readFault])), (a_now, .inr (0, [.int v_now_field, .int v_now_tick, .int v_now_pace, .int v_now_signNumber, .int v_now_rotorNumber, .ref a_now_signs, .ref a_now_rotors])), (a_now_signs, .inl (cI, 16, .inl v_now_signs))] H := hP
    have hD : va_D A [(a_this, .inr (6, [.ref a_tape, .ref a_now, .ref a_trial, .ref a_sights, .ref a_images, .ref a_sheets, .int v_readFault])), (a_now, .inr (0, [.int v_now_field, .int v_now_tick, .int v_now_pace, .int v_now_signNumber, .int v_now_rotorNumber, .ref a_now_signs, .ref a_now_rotors])), (a_now_signs, .inl (cI, 16, .inl v_now_signs))] := hD
    refine lv_if_eq (tgt := 20) C.1 C.2.1 dX6_sign_5 (by decide) (fun c3 => ?_) (fun c3 => ?_)
    · have hF := fp hF c3
      refine lv_iconst (v := (-1)) C.1 C.2.1 dX6_sign_20 (by decide) ?_
      have hF := Option.some.inj hF
      subst hF
      exact retI C hr hlk hP hD hS dX6_sign_21
    · have hF := fn hF c3
      refine lv_aload_n C.1 C.2.1 dX6_sign_8 rfl (lv_at hl 0 rfl) ?_
      refine gf_6_6_now C hK hP 0 rfl rfl dX6_sign_9 ?_
      refine gf_6_0_signs C hK hP 1 rfl rfl dX6_sign_12 ?_
      refine lv_iload_n C.1 C.2.1 dX6_sign_15 rfl (lv_at hl 1 rfl) ?_
      obtain ⟨h4, hF⟩ := fk hF
      refine va_iald C.1 C.2.1 hK.1 hP 2 0 rfl rfl h4 dX6_sign_16 ?_
      refine lv_goto (tgt := 21) C.1 C.2.1 dX6_sign_17 (by decide) ?_
      have hF := Option.some.inj hF
      subst hF
      exact retI C hr hlk hP hD hS dX6_sign_21)
def rm_X6_alter : Room := { frames := 1, cells := 0, slots := 0, locals := 21 }
theorem cv_X6_alter : CV yX6_alter cX6_alter 6 (some .int) rm_X6_alter RX6 3 := ⟨kw2_187, kw2_188, kw1_1, kw2_189, by decide +kernel, rfl, rfl⟩
set_option maxHeartbeats 4000000 in
set_option maxRecDepth 100000 in
theorem b_X6_alter_26 {l : Launch} {D : va_G} {cI cB cZ cR cM cS : ClassId} {a_this : Nat} {a_tape : Nat} {a_now : Nat} {a_trial : Nat} {a_sights : Nat} {a_images : Nat} {a_sheets : Nat} {a_now_signs : Nat} {a_now_rotors : Nat} {a_now_rotors_e : Nat → Nat} {v_readFault : Int32} {v_now_field : Int32} {v_now_tick : Int32} {v_now_pace : Int32} {v_now_signNumber : Int32} {p : Program} {e : Env} {s : State} {m : MethodId} {args : Array Value} {below : List Frame} {meth : Method} {c : Code} {A : Nat → Prop} {res : Int32 × (Nat → Rot)} (C : CX p m c cX6_alter 6 s args RX6) (hr : meth.sig.returnType = (some .int)) (hlk : meth.locks = false) (hK : KK D (TS cI cB cZ cR cM cS) s) (hA : ∀ q, s.heap.size ≤ q → A q) : ∀ (v_now_rotorNumber : Int32) (v_now_rotorsF : Nat → Rot) (x1 : Int32) (x2 : Int32) (x3 : Int32) (s0 : Int32) (s1 : Int32) (H : Heap) (locs : List Loc) (ls : Array Slot), F_X6_alter_26 v_now_rotorNumber v_now_rotorsF x1 x2 x3 s0 s1 = some res → va_P D vwCl [(a_this, .inr (6, [.ref a_tape, .ref a_now, .ref a_trial, .ref a_sights, .ref a_images, .ref a_sheets, .int v_readFault])), (a_now, .inr (0, [.int v_now_field, .int v_now_tick, .int v_now_pace, .int v_now_signNumber, .int v_now_rotorNumber, .ref a_now_signs, .ref a_now_rotors])), (a_now_rotors, rfn cR 4 a_now_rotors_e), rcell a_now_rotors_e v_now_rotorsF 0, rcell a_now_rotors_e v_now_rotorsF 1, rcell a_now_rotors_e v_now_rotorsF 2, rcell a_now_rotors_e v_now_rotorsF 3] H → va_D A [(a_this, .inr (6, [.ref a_tape, .ref a_now, .ref a_trial, .ref a_sights, .ref a_images, .ref a_sheets, .int v_readFault])), (a_now, .inr (0, [.int v_now_field, .int v_now_tick, .int v_now_pace, .int v_now_signNumber, .int v_now_rotorNumber, .ref a_now_signs, .ref a_now_rotors])), (a_now_rotors, rfn cR 4 a_now_rotors_e), rcell a_now_rotors_e v_now_rotorsF 0, rcell a_now_rotors_e v_now_rotorsF 1, rcell a_now_rotors_e v_now_rotorsF 2, rcell a_now_rotors_e v_now_rotorsF 3] → va_S A s.heap H locs → lv_has ls 6 [(0, .ref a_this), (1, .int x1), (2, .int x2), (3, .int x3)] → W p l e rm_X6_alter s m args below meth c H locs 0 0 (MQ below (va_Qi (fun x (_ : Unit) => x = res.1) (BW D A [(a_this, .inr (6, [.ref a_tape, .ref a_now, .ref a_trial, .ref a_sights, .ref a_images, .ref a_sheets, .int v_readFault])), (a_now, .inr (0, [.int v_now_field, .int v_now_tick, .int v_now_pace, .int v_now_signNumber, .int v_now_rotorNumber, .ref a_now_signs, .ref a_now_rotors])), (a_now_rotors, rfn cR 4 a_now_rotors_e), rcell a_now_rotors_e res.2 0, rcell a_now_rotors_e res.2 1, rcell a_now_rotors_e res.2 2, rcell a_now_rotors_e res.2 3]) A) args s 0 0 A) (F0 m 26 ls [.int s0, .int s1]) := by
  intro v_now_rotorNumber v_now_rotorsF x1 x2 x3 s0 s1 H locs ls hF  hP hD hS hl
  unfold F_X6_alter_26 at hF
  obtain ⟨r1, h2, hF⟩ := fb hF
  refine callSI C hK hA hP hD hS (c_X6_within  h2) cs_X6_within kw1_227 ⟨Nat.le_of_ble_eq_true rfl, Nat.le_of_ble_eq_true rfl⟩ ⟨Nat.zero_le _, Nat.zero_le _⟩ hl.1 rfl (Nat.le_of_ble_eq_true rfl) dX6_alter_26 (fun H locs hP hD hS => ?_)
  refine lv_if_ne (tgt := 34) C.1 C.2.1 dX6_alter_29 (by decide) (fun c3 => ?_) (fun c3 => ?_)
  · have hF := fn hF c3
    refine lv_aload_n C.1 C.2.1 dX6_alter_34 rfl (lv_at hl 0 rfl) ?_
    refine gf_6_6_now C hK hP 0 rfl rfl dX6_alter_35 ?_
    refine gf_6_0_rotors C hK hP 1 rfl rfl dX6_alter_38 ?_
    refine lv_iload_n C.1 C.2.1 dX6_alter_41 rfl (lv_at hl 1 rfl) ?_
    obtain ⟨h4, hF⟩ := fk hF
    refine aldR C hK hP 2 3 rfl rfl h4 dX6_alter_42 ?_
    have hk5 : x1.toNatClampNeg < 4 := Nat.not_le.mp (fun q => h4 (Or.inr q))
    refine lv_astore (lv' := [(4, .ref (a_now_rotors_e x1.toNatClampNeg)), (0, .ref a_this), (1, .int x1), (2, .int x2), (3, .int x3)]) C.1 C.2.1 dX6_alter_43 hl (by decide) rfl (fun ls hl => ?_)
    refine lv_iload_n C.1 C.2.1 dX6_alter_45 rfl (lv_at hl 3 rfl) ?_
    refine lv_if_ne (tgt := 65) C.1 C.2.1 dX6_alter_46 (by decide) (fun c6 => ?_) (fun c6 => ?_)
    · have hF := fn hF c6
      refine lv_aload C.1 C.2.1 dX6_alter_65 (lv_at hl 0 rfl) ?_
      refine gf_6_2_grip C hK hP (3 + x1.toNatClampNeg) (famget 3 (rcell a_now_rotors_e v_now_rotorsF) rfl rfl rfl rfl hk5) rfl dX6_alter_67 ?_
      refine lv_istore (lv' := [(5, .int ((v_now_rotorsF x1.toNatClampNeg).2.1)), (4, .ref (a_now_rotors_e x1.toNatClampNeg)), (0, .ref a_this), (1, .int x1), (2, .int x2), (3, .int x3)]) C.1 C.2.1 dX6_alter_70 hl (by decide) rfl (fun ls hl => ?_)
      refine lv_aload C.1 C.2.1 dX6_alter_72 (lv_at hl 1 rfl) ?_
      refine lv_iload_n C.1 C.2.1 dX6_alter_74 rfl (lv_at hl 5 rfl) ?_
      refine pf_6_2_grip C hK hP hD hS (3 + x1.toNatClampNeg) (famget 3 (rcell a_now_rotors_e v_now_rotorsF) rfl rfl rfl rfl hk5) rfl dX6_alter_75 (fun H locs hP hD hS => ?_)
      have hP := va_Pe (famsetR (a := a_now_rotors_e) (ρ := v_now_rotorsF) 3 rfl rfl rfl rfl hk5 ((v_now_rotorsF x1.toNatClampNeg).1) x3 ((v_now_rotorsF x1.toNatClampNeg).2.2.1) ((v_now_rotorsF x1.toNatClampNeg).2.2.2)) hP
      have hD := va_De (famsetR (a := a_now_rotors_e) (ρ := v_now_rotorsF) 3 rfl rfl rfl rfl hk5 ((v_now_rotorsF x1.toNatClampNeg).1) x3 ((v_now_rotorsF x1.toNatClampNeg).2.2.1) ((v_now_rotorsF x1.toNatClampNeg).2.2.2)) hD
      have hP : va_P D vwCl [(a_this, .inr (6, [.ref a_tape, .ref a_now, .ref a_trial, .ref a_sights, .ref a_images, .ref a_sheets, .int v_readFault])), (a_now, .inr (0, [.int v_now_field, .int v_now_tick, .int v_now_pace, .int v_now_signNumber, .int v_now_rotorNumber, .ref a_now_signs, .ref a_now_rotors])), (a_now_rotors, rfn cR 4 a_now_rotors_e), rcell a_now_rotors_e (up v_now_rotorsF x1.toNatClampNeg ((v_now_rotorsF x1.toNatClampNeg).1, x3, (v_now_rotorsF x1.toNatClampNeg).2.2.1, (v_now_rotorsF x1.toNatClampNeg).2.2.2)) 0, rcell a_now_rotors_e (up v_now_rotorsF x1.toNatClampNeg ((v_now_rotorsF x1.toNatClampNeg).1, x3, (v_now_rotorsF x1.toNatClampNeg).2.2.1, (v_now_rotorsF x1.toNatClampNeg).2.2.2)) 1, rcell a_now_rotors_e (up v_now_rotorsF x1.toNatClampNeg ((v_now_rotorsF x1.toNatClampNeg).1, x3, (v_now_rotorsF x1.toNatClampNeg).2.2.1, (v_now_rotorsF x1.toNatClampNeg).2.2.2)) 2, rcell a_now_rotors_e (up v_now_rotorsF x1.toNatClampNeg ((v_now_rotorsF x1.toNatClampNeg).1, x3, (v_now_rotorsF x1.toNatClampNeg).2.2.1, (v_now_rotorsF x1.toNatClampNeg).2.2.2)) 3] H := hP
      have hD : va_D A [(a_this, .inr (6, [.ref a_tape, .ref a_now, .ref a_trial, .ref a_sights, .ref a_images, .ref a_sheets, .int v_readFault])), (a_now, .inr (0, [.int v_now_field, .int v_now_tick, .int v_now_pace, .int v_now_signNumber, .int v_now_rotorNumber, .ref a_now_signs, .ref a_now_rotors])), (a_now_rotors, rfn cR 4 a_now_rotors_e), rcell a_now_rotors_e (up v_now_rotorsF x1.toNatClampNeg ((v_now_rotorsF x1.toNatClampNeg).1, x3, (v_now_rotorsF x1.toNatClampNeg).2.2.1, (v_now_rotorsF x1.toNatClampNeg).2.2.2)) 0, rcell a_now_rotors_e (up v_now_rotorsF x1.toNatClampNeg ((v_now_rotorsF x1.toNatClampNeg).1, x3, (v_now_rotorsF x1.toNatClampNeg).2.2.1, (v_now_rotorsF x1.toNatClampNeg).2.2.2)) 1, rcell a_now_rotors_e (up v_now_rotorsF x1.toNatClampNeg ((v_now_rotorsF x1.toNatClampNeg).1, x3, (v_now_rotorsF x1.toNatClampNeg).2.2.1, (v_now_rotorsF x1.toNatClampNeg).2.2.2)) 2, rcell a_now_rotors_e (up v_now_rotorsF x1.toNatClampNeg ((v_now_rotorsF x1.toNatClampNeg).1, x3, (v_now_rotorsF x1.toNatClampNeg).2.2.1, (v_now_rotorsF x1.toNatClampNeg).2.2.2)) 3] := hD
      refine lv_iload C.1 C.2.1 dX6_alter_78 (lv_at hl 0 rfl) ?_
      have hF := Option.some.inj hF
      subst hF
      exact retI C hr hlk hP hD hS dX6_alter_80
    · have hF := fp hF c6
      refine lv_aload C.1 C.2.1 dX6_alter_49 (lv_at hl 0 rfl) ?_
      refine gf_6_2_sort C hK hP (3 + x1.toNatClampNeg) (famget 3 (rcell a_now_rotors_e v_now_rotorsF) rfl rfl rfl rfl hk5) rfl dX6_alter_51 ?_
      refine lv_istore (lv' := [(5, .int ((v_now_rotorsF x1.toNatClampNeg).1)), (4, .ref (a_now_rotors_e x1.toNatClampNeg)), (0, .ref a_this), (1, .int x1), (2, .int x2), (3, .int x3)]) C.1 C.2.1 dX6_alter_54 hl (by decide) rfl (fun ls hl => ?_)
      refine lv_aload C.1 C.2.1 dX6_alter_56 (lv_at hl 1 rfl) ?_
      refine lv_iload_n C.1 C.2.1 dX6_alter_58 rfl (lv_at hl 5 rfl) ?_
      refine pf_6_2_sort C hK hP hD hS (3 + x1.toNatClampNeg) (famget 3 (rcell a_now_rotors_e v_now_rotorsF) rfl rfl rfl rfl hk5) rfl dX6_alter_59 (fun H locs hP hD hS => ?_)
      have hP := va_Pe (famsetR (a := a_now_rotors_e) (ρ := v_now_rotorsF) 3 rfl rfl rfl rfl hk5 x3 ((v_now_rotorsF x1.toNatClampNeg).2.1) ((v_now_rotorsF x1.toNatClampNeg).2.2.1) ((v_now_rotorsF x1.toNatClampNeg).2.2.2)) hP
      have hD := va_De (famsetR (a := a_now_rotors_e) (ρ := v_now_rotorsF) 3 rfl rfl rfl rfl hk5 x3 ((v_now_rotorsF x1.toNatClampNeg).2.1) ((v_now_rotorsF x1.toNatClampNeg).2.2.1) ((v_now_rotorsF x1.toNatClampNeg).2.2.2)) hD
      have hP : va_P D vwCl [(a_this, .inr (6, [.ref a_tape, .ref a_now, .ref a_trial, .ref a_sights, .ref a_images, .ref a_sheets, .int v_readFault])), (a_now, .inr (0, [.int v_now_field, .int v_now_tick, .int v_now_pace, .int v_now_signNumber, .int v_now_rotorNumber, .ref a_now_signs, .ref a_now_rotors])), (a_now_rotors, rfn cR 4 a_now_rotors_e), rcell a_now_rotors_e (up v_now_rotorsF x1.toNatClampNeg (x3, (v_now_rotorsF x1.toNatClampNeg).2.1, (v_now_rotorsF x1.toNatClampNeg).2.2.1, (v_now_rotorsF x1.toNatClampNeg).2.2.2)) 0, rcell a_now_rotors_e (up v_now_rotorsF x1.toNatClampNeg (x3, (v_now_rotorsF x1.toNatClampNeg).2.1, (v_now_rotorsF x1.toNatClampNeg).2.2.1, (v_now_rotorsF x1.toNatClampNeg).2.2.2)) 1, rcell a_now_rotors_e (up v_now_rotorsF x1.toNatClampNeg (x3, (v_now_rotorsF x1.toNatClampNeg).2.1, (v_now_rotorsF x1.toNatClampNeg).2.2.1, (v_now_rotorsF x1.toNatClampNeg).2.2.2)) 2, rcell a_now_rotors_e (up v_now_rotorsF x1.toNatClampNeg (x3, (v_now_rotorsF x1.toNatClampNeg).2.1, (v_now_rotorsF x1.toNatClampNeg).2.2.1, (v_now_rotorsF x1.toNatClampNeg).2.2.2)) 3] H := hP
      have hD : va_D A [(a_this, .inr (6, [.ref a_tape, .ref a_now, .ref a_trial, .ref a_sights, .ref a_images, .ref a_sheets, .int v_readFault])), (a_now, .inr (0, [.int v_now_field, .int v_now_tick, .int v_now_pace, .int v_now_signNumber, .int v_now_rotorNumber, .ref a_now_signs, .ref a_now_rotors])), (a_now_rotors, rfn cR 4 a_now_rotors_e), rcell a_now_rotors_e (up v_now_rotorsF x1.toNatClampNeg (x3, (v_now_rotorsF x1.toNatClampNeg).2.1, (v_now_rotorsF x1.toNatClampNeg).2.2.1, (v_now_rotorsF x1.toNatClampNeg).2.2.2)) 0, rcell a_now_rotors_e (up v_now_rotorsF x1.toNatClampNeg (x3, (v_now_rotorsF x1.toNatClampNeg).2.1, (v_now_rotorsF x1.toNatClampNeg).2.2.1, (v_now_rotorsF x1.toNatClampNeg).2.2.2)) 1, rcell a_now_rotors_e (up v_now_rotorsF x1.toNatClampNeg (x3, (v_now_rotorsF x1.toNatClampNeg).2.1, (v_now_rotorsF x1.toNatClampNeg).2.2.1, (v_now_rotorsF x1.toNatClampNeg).2.2.2)) 2, rcell a_now_rotors_e (up v_now_rotorsF x1.toNatClampNeg (x3, (v_now_rotorsF x1.toNatClampNeg).2.1, (v_now_rotorsF x1.toNatClampNeg).2.2.1, (v_now_rotorsF x1.toNatClampNeg).2.2.2)) 3] := hD
      refine lv_goto (tgt := 78) C.1 C.2.1 dX6_alter_62 (by decide) ?_
      refine lv_iload C.1 C.2.1 dX6_alter_78 (lv_at hl 0 rfl) ?_
      have hF := Option.some.inj hF
      subst hF
      exact retI C hr hlk hP hD hS dX6_alter_80
  · have hF := fp hF c3
    refine lv_iconst (v := (-1)) C.1 C.2.1 dX6_alter_32 (by decide) ?_
    have hF := Option.some.inj hF
    subst hF
    exact retI C hr hlk hP hD hS dX6_alter_33
set_option maxHeartbeats 4000000 in
set_option maxRecDepth 100000 in
theorem c0_X6_alter {l : Launch} {D : va_G} {cI cB cZ cR cM cS : ClassId} {a_this : Nat} {a_tape : Nat} {a_now : Nat} {a_trial : Nat} {a_sights : Nat} {a_images : Nat} {a_sheets : Nat} {a_now_signs : Nat} {a_now_rotors : Nat} {a_now_rotors_e : Nat → Nat} {v_readFault : Int32} {v_now_field : Int32} {v_now_tick : Int32} {v_now_pace : Int32} {v_now_signNumber : Int32} {v_now_rotorNumber : Int32} {v_now_rotorsF : Nat → Rot} {x1 : Int32} {x2 : Int32} {x3 : Int32} {res : Int32 × (Nat → Rot)} (hF : F_X6_alter v_now_rotorNumber v_now_rotorsF x1 x2 x3 = some res) : MI l yX6_alter cX6_alter 6 .int rm_X6_alter D (TS cI cB cZ cR cM cS) [.ref a_this, .int x1, .int x2, .int x3] [(a_this, .inr (6, [.ref a_tape, .ref a_now, .ref a_trial, .ref a_sights, .ref a_images, .ref a_sheets, .int v_readFault])), (a_now, .inr (0, [.int v_now_field, .int v_now_tick, .int v_now_pace, .int v_now_signNumber, .int v_now_rotorNumber, .ref a_now_signs, .ref a_now_rotors])), (a_now_rotors, rfn cR 4 a_now_rotors_e), rcell a_now_rotors_e v_now_rotorsF 0, rcell a_now_rotors_e v_now_rotorsF 1, rcell a_now_rotors_e v_now_rotorsF 2, rcell a_now_rotors_e v_now_rotorsF 3] [(a_this, .inr (6, [.ref a_tape, .ref a_now, .ref a_trial, .ref a_sights, .ref a_images, .ref a_sheets, .int v_readFault])), (a_now, .inr (0, [.int v_now_field, .int v_now_tick, .int v_now_pace, .int v_now_signNumber, .int v_now_rotorNumber, .ref a_now_signs, .ref a_now_rotors])), (a_now_rotors, rfn cR 4 a_now_rotors_e), rcell a_now_rotors_e res.2 0, rcell a_now_rotors_e res.2 1, rcell a_now_rotors_e res.2 2, rcell a_now_rotors_e res.2 3] res.1 :=
  MI_of (by decide) (Nat.le_of_ble_eq_true rfl) (fun p e s m args below meth c A ls C hr hlk hK hA hP hD hS hl => by
    have C : CX p m c cX6_alter 6 s args RX6 := C
    have hl : lv_has ls 6 [(0, .ref a_this), (1, .int x1), (2, .int x2), (3, .int x3)] := hl
    unfold F_X6_alter at hF
    refine lv_aload_n C.1 C.2.1 dX6_alter_0 rfl (lv_at hl 0 rfl) ?_
    refine lv_iload_n C.1 C.2.1 dX6_alter_1 rfl (lv_at hl 1 rfl) ?_
    obtain ⟨r1, h2, hF⟩ := fb hF
    refine callVI C hK hA hP hD hS [0, 1] (c_X6_hasRotor (a_this := a_this) (a_tape := a_tape) (a_now := a_now) (a_trial := a_trial) (a_sights := a_sights) (a_images := a_images) (a_sheets := a_sheets) (a_now_signs := a_now_signs) (a_now_rotors := a_now_rotors) (v_readFault := v_readFault) (v_now_field := v_now_field) (v_now_tick := v_now_tick) (v_now_pace := v_now_pace) (v_now_signNumber := v_now_signNumber) (v_now_rotorNumber := v_now_rotorNumber) h2) cv_X6_hasRotor kw2_172 rfl (by decide) rfl rfl rfl ⟨Nat.le_of_ble_eq_true rfl, Nat.le_of_ble_eq_true rfl⟩ ⟨Nat.zero_le _, Nat.zero_le _⟩ hl.1 rfl (Nat.le_of_ble_eq_true rfl) dX6_alter_2 (fun H locs hP hD hS => ?_)
    have hP : va_P D vwCl [(a_this, .inr (6, [.ref a_tape, .ref a_now, .ref a_trial, .ref a_sights, .ref a_images, .ref a_sheets, .int v_readFault])), (a_now, .inr (0, [.int v_now_field, .int v_now_tick, .int v_now_pace, .int v_now_signNumber, .int v_now_rotorNumber, .ref a_now_signs, .ref a_now_rotors])), (a_now_rotors, rfn cR 4 a_now_rotors_e), rcell a_now_rotors_e v_now_rotorsF 0, rcell a_now_rotors_e v_now_rotorsF 1, rcell a_now_rotors_e v_now_rotorsF 2, rcell a_now_rotors_e v_now_rotorsF 3] H := hP
    have hD : va_D A [(a_this, .inr (6, [.ref a_tape, .ref a_now, .ref a_trial, .ref a_sights, .ref a_images, .ref a_sheets, .int v_readFault])), (a_now, .inr (0, [.int v_now_field, .int v_now_tick, .int v_now_pace, .int v_now_signNumber, .int v_now_rotorNumber, .ref a_now_signs, .ref a_now_rotors])), (a_now_rotors, rfn cR 4 a_now_rotors_e), rcell a_now_rotors_e v_now_rotorsF 0, rcell a_now_rotors_e v_now_rotorsF 1, rcell a_now_rotors_e v_now_rotorsF 2, rcell a_now_rotors_e v_now_rotorsF 3] := hD
    refine lv_if_eq (tgt := 32) C.1 C.2.1 dX6_alter_5 (by decide) (fun c3 => ?_) (fun c3 => ?_)
    · have hF := fp hF c3
      refine lv_iconst (v := (-1)) C.1 C.2.1 dX6_alter_32 (by decide) ?_
      have hF := Option.some.inj hF
      subst hF
      exact retI C hr hlk hP hD hS dX6_alter_33
    · have hF := fn hF c3
      refine lv_iload_n C.1 C.2.1 dX6_alter_8 rfl (lv_at hl 2 rfl) ?_
      refine lv_iconst (v := 1) C.1 C.2.1 dX6_alter_9 (by decide) ?_
      obtain ⟨r4, h5, hF⟩ := fb hF
      refine callSI C hK hA hP hD hS (c_X6_within  h5) cs_X6_within kw1_227 ⟨Nat.le_of_ble_eq_true rfl, Nat.le_of_ble_eq_true rfl⟩ ⟨Nat.zero_le _, Nat.zero_le _⟩ hl.1 rfl (Nat.le_of_ble_eq_true rfl) dX6_alter_10 (fun H locs hP hD hS => ?_)
      refine lv_if_eq (tgt := 32) C.1 C.2.1 dX6_alter_13 (by decide) (fun c6 => ?_) (fun c6 => ?_)
      · have hF := fp hF c6
        refine lv_iconst (v := (-1)) C.1 C.2.1 dX6_alter_32 (by decide) ?_
        have hF := Option.some.inj hF
        subst hF
        exact retI C hr hlk hP hD hS dX6_alter_33
      · have hF := fn hF c6
        refine lv_iload_n C.1 C.2.1 dX6_alter_16 rfl (lv_at hl 3 rfl) ?_
        refine lv_iload_n C.1 C.2.1 dX6_alter_17 rfl (lv_at hl 2 rfl) ?_
        refine lv_if_ne (tgt := 25) C.1 C.2.1 dX6_alter_18 (by decide) (fun c7 => ?_) (fun c7 => ?_)
        · have hF := fn hF c7
          refine lv_iconst (v := 3) C.1 C.2.1 dX6_alter_25 (by decide) ?_
          exact b_X6_alter_26 C hr hlk hK hA v_now_rotorNumber v_now_rotorsF x1 x2 x3 (3 : Int32) x3 _ _ _ hF hP hD hS (lv_sub hl [0, 1, 2, 3] rfl)
        · have hF := fp hF c7
          refine lv_iconst (v := 3) C.1 C.2.1 dX6_alter_21 (by decide) ?_
          refine lv_goto (tgt := 26) C.1 C.2.1 dX6_alter_22 (by decide) ?_
          exact b_X6_alter_26 C hr hlk hK hA v_now_rotorNumber v_now_rotorsF x1 x2 x3 (3 : Int32) x3 _ _ _ hF hP hD hS (lv_sub hl [0, 1, 2, 3] rfl))
theorem c_X6_alter {l : Launch} {D : va_G} {cI cB cZ cR cM cS : ClassId} {a_this : Nat} {a_tape : Nat} {a_now : Nat} {a_trial : Nat} {a_sights : Nat} {a_images : Nat} {a_sheets : Nat} {a_now_signs : Nat} {a_now_rotors : Nat} {a_now_rotors_e : Nat → Nat} {v_readFault : Int32} {v_now_field : Int32} {v_now_tick : Int32} {v_now_pace : Int32} {v_now_signNumber : Int32} {v_now_rotorNumber : Int32} {v_now_rotorsF : Nat → Rot} {x1 : Int32} {x2 : Int32} {x3 : Int32} {r_ : Int32} {v_now_rotorsF' : Nat → Rot} (hF : F_X6_alter v_now_rotorNumber v_now_rotorsF x1 x2 x3 = some (r_, v_now_rotorsF')) : MI l yX6_alter cX6_alter 6 .int rm_X6_alter D (TS cI cB cZ cR cM cS) [.ref a_this, .int x1, .int x2, .int x3] [(a_this, .inr (6, [.ref a_tape, .ref a_now, .ref a_trial, .ref a_sights, .ref a_images, .ref a_sheets, .int v_readFault])), (a_now, .inr (0, [.int v_now_field, .int v_now_tick, .int v_now_pace, .int v_now_signNumber, .int v_now_rotorNumber, .ref a_now_signs, .ref a_now_rotors])), (a_now_rotors, rfn cR 4 a_now_rotors_e), rcell a_now_rotors_e v_now_rotorsF 0, rcell a_now_rotors_e v_now_rotorsF 1, rcell a_now_rotors_e v_now_rotorsF 2, rcell a_now_rotors_e v_now_rotorsF 3] [(a_this, .inr (6, [.ref a_tape, .ref a_now, .ref a_trial, .ref a_sights, .ref a_images, .ref a_sheets, .int v_readFault])), (a_now, .inr (0, [.int v_now_field, .int v_now_tick, .int v_now_pace, .int v_now_signNumber, .int v_now_rotorNumber, .ref a_now_signs, .ref a_now_rotors])), (a_now_rotors, rfn cR 4 a_now_rotors_e), rcell a_now_rotors_e v_now_rotorsF' 0, rcell a_now_rotors_e v_now_rotorsF' 1, rcell a_now_rotors_e v_now_rotorsF' 2, rcell a_now_rotors_e v_now_rotorsF' 3] r_ :=
  c0_X6_alter (res := (r_, v_now_rotorsF')) hF
def rm_X6_turn : Room := { frames := 1, cells := 0, slots := 0, locals := 23 }
theorem cv_X6_turn : CV yX6_turn cX6_turn 5 (some .int) rm_X6_turn RX6 2 := ⟨kw2_191, kw2_192, kw1_1, kw2_193, by decide +kernel, rfl, rfl⟩
set_option maxHeartbeats 4000000 in
set_option maxRecDepth 100000 in
theorem c0_X6_turn {l : Launch} {D : va_G} {cI cB cZ cR cM cS : ClassId} {a_this : Nat} {a_tape : Nat} {a_now : Nat} {a_trial : Nat} {a_sights : Nat} {a_images : Nat} {a_sheets : Nat} {a_now_signs : Nat} {a_now_rotors : Nat} {a_now_rotors_e : Nat → Nat} {v_readFault : Int32} {v_now_field : Int32} {v_now_tick : Int32} {v_now_pace : Int32} {v_now_signNumber : Int32} {v_now_rotorNumber : Int32} {v_now_rotorsF : Nat → Rot} {x1 : Int32} {x2 : Int32} {res : Int32 × (Nat → Rot)} (hF : F_X6_turn v_now_rotorNumber v_now_rotorsF x1 x2 = some res) : MI l yX6_turn cX6_turn 5 .int rm_X6_turn D (TS cI cB cZ cR cM cS) [.ref a_this, .int x1, .int x2] [(a_this, .inr (6, [.ref a_tape, .ref a_now, .ref a_trial, .ref a_sights, .ref a_images, .ref a_sheets, .int v_readFault])), (a_now, .inr (0, [.int v_now_field, .int v_now_tick, .int v_now_pace, .int v_now_signNumber, .int v_now_rotorNumber, .ref a_now_signs, .ref a_now_rotors])), (a_now_rotors, rfn cR 4 a_now_rotors_e), rcell a_now_rotors_e v_now_rotorsF 0, rcell a_now_rotors_e v_now_rotorsF 1, rcell a_now_rotors_e v_now_rotorsF 2, rcell a_now_rotors_e v_now_rotorsF 3] [(a_this, .inr (6, [.ref a_tape, .ref a_now, .ref a_trial, .ref a_sights, .ref a_images, .ref a_sheets, .int v_readFault])), (a_now, .inr (0, [.int v_now_field, .int v_now_tick, .int v_now_pace, .int v_now_signNumber, .int v_now_rotorNumber, .ref a_now_signs, .ref a_now_rotors])), (a_now_rotors, rfn cR 4 a_now_rotors_e), rcell a_now_rotors_e res.2 0, rcell a_now_rotors_e res.2 1, rcell a_now_rotors_e res.2 2, rcell a_now_rotors_e res.2 3] res.1 :=
  MI_of (by decide) (Nat.le_of_ble_eq_true rfl) (fun p e s m args below meth c A ls C hr hlk hK hA hP hD hS hl => by
    have C : CX p m c cX6_turn 5 s args RX6 := C
    have hl : lv_has ls 5 [(0, .ref a_this), (1, .int x1), (2, .int x2)] := hl
    unfold F_X6_turn at hF
    refine lv_aload_n C.1 C.2.1 dX6_turn_0 rfl (lv_at hl 0 rfl) ?_
    refine lv_iload_n C.1 C.2.1 dX6_turn_1 rfl (lv_at hl 1 rfl) ?_
    obtain ⟨r1, h2, hF⟩ := fb hF
    refine callVI C hK hA hP hD hS [0, 1] (c_X6_hasRotor (a_this := a_this) (a_tape := a_tape) (a_now := a_now) (a_trial := a_trial) (a_sights := a_sights) (a_images := a_images) (a_sheets := a_sheets) (a_now_signs := a_now_signs) (a_now_rotors := a_now_rotors) (v_readFault := v_readFault) (v_now_field := v_now_field) (v_now_tick := v_now_tick) (v_now_pace := v_now_pace) (v_now_signNumber := v_now_signNumber) (v_now_rotorNumber := v_now_rotorNumber) h2) cv_X6_hasRotor kw2_172 rfl (by decide) rfl rfl rfl ⟨Nat.le_of_ble_eq_true rfl, Nat.le_of_ble_eq_true rfl⟩ ⟨Nat.zero_le _, Nat.zero_le _⟩ hl.1 rfl (Nat.le_of_ble_eq_true rfl) dX6_turn_2 (fun H locs hP hD hS => ?_)
    have hP : va_P D vwCl [(a_this, .inr (6, [.ref a_tape, .ref a_now, .ref a_trial, .ref a_sights, .ref a_images, .ref a_sheets, .int v_readFault])), (a_now, .inr (0, [.int v_now_field, .int v_now_tick, .int v_now_pace, .int v_now_signNumber, .int v_now_rotorNumber, .ref a_now_signs, .ref a_now_rotors])), (a_now_rotors, rfn cR 4 a_now_rotors_e), rcell a_now_rotors_e v_now_rotorsF 0, rcell a_now_rotors_e v_now_rotorsF 1, rcell a_now_rotors_e v_now_rotorsF 2, rcell a_now_rotors_e v_now_rotorsF 3] H := hP
    have hD : va_D A [(a_this, .inr (6, [.ref a_tape, .ref a_now, .ref a_trial, .ref a_sights, .ref a_images, .ref a_sheets, .int v_readFault])), (a_now, .inr (0, [.int v_now_field, .int v_now_tick, .int v_now_pace, .int v_now_signNumber, .int v_now_rotorNumber, .ref a_now_signs, .ref a_now_rotors])), (a_now_rotors, rfn cR 4 a_now_rotors_e), rcell a_now_rotors_e v_now_rotorsF 0, rcell a_now_rotors_e v_now_rotorsF 1, rcell a_now_rotors_e v_now_rotorsF 2, rcell a_now_rotors_e v_now_rotorsF 3] := hD
    refine lv_if_eq (tgt := 17) C.1 C.2.1 dX6_turn_5 (by decide) (fun c3 => ?_) (fun c3 => ?_)
    · have hF := fp hF c3
      refine lv_iconst (v := (-1)) C.1 C.2.1 dX6_turn_17 (by decide) ?_
      have hF := Option.some.inj hF
      subst hF
      exact retI C hr hlk hP hD hS dX6_turn_18
    · have hF := fn hF c3
      refine lv_iload_n C.1 C.2.1 dX6_turn_8 rfl (lv_at hl 2 rfl) ?_
      refine lv_bipush (v := 16) C.1 C.2.1 dX6_turn_9 (by decide) ?_
      obtain ⟨r4, h5, hF⟩ := fb hF
      refine callSI C hK hA hP hD hS (c_X6_within  h5) cs_X6_within kw1_227 ⟨Nat.le_of_ble_eq_true rfl, Nat.le_of_ble_eq_true rfl⟩ ⟨Nat.zero_le _, Nat.zero_le _⟩ hl.1 rfl (Nat.le_of_ble_eq_true rfl) dX6_turn_11 (fun H locs hP hD hS => ?_)
      refine lv_if_ne (tgt := 19) C.1 C.2.1 dX6_turn_14 (by decide) (fun c6 => ?_) (fun c6 => ?_)
      · have hF := fn hF c6
        refine lv_aload_n C.1 C.2.1 dX6_turn_19 rfl (lv_at hl 0 rfl) ?_
        refine gf_6_6_now C hK hP 0 rfl rfl dX6_turn_20 ?_
        refine gf_6_0_rotors C hK hP 1 rfl rfl dX6_turn_23 ?_
        refine lv_iload_n C.1 C.2.1 dX6_turn_26 rfl (lv_at hl 1 rfl) ?_
        obtain ⟨h7, hF⟩ := fk hF
        refine aldR C hK hP 2 3 rfl rfl h7 dX6_turn_27 ?_
        have hk8 : x1.toNatClampNeg < 4 := Nat.not_le.mp (fun q => h7 (Or.inr q))
        refine lv_astore_n (lv' := [(3, .ref (a_now_rotors_e x1.toNatClampNeg)), (0, .ref a_this), (1, .int x1), (2, .int x2)]) C.1 C.2.1 dX6_turn_28 rfl hl (by decide) rfl (fun ls hl => ?_)
        refine lv_aload_n C.1 C.2.1 dX6_turn_29 rfl (lv_at hl 0 rfl) ?_
        refine gf_6_2_place C hK hP (3 + x1.toNatClampNeg) (famget 3 (rcell a_now_rotors_e v_now_rotorsF) rfl rfl rfl rfl hk8) rfl dX6_turn_30 ?_
        refine lv_iload_n C.1 C.2.1 dX6_turn_33 rfl (lv_at hl 3 rfl) ?_
        refine lv_iadd C.1 C.2.1 dX6_turn_34 ?_
        refine lv_bipush (v := 8) C.1 C.2.1 dX6_turn_35 (by decide) ?_
        refine lv_isub C.1 C.2.1 dX6_turn_37 ?_
        refine lv_istore (lv' := [(4, .int ((((v_now_rotorsF x1.toNatClampNeg).2.2.1) + x2) - (8 : Int32))), (3, .ref (a_now_rotors_e x1.toNatClampNeg)), (0, .ref a_this), (1, .int x1), (2, .int x2)]) C.1 C.2.1 dX6_turn_38 hl (by decide) rfl (fun ls hl => ?_)
        refine lv_iload C.1 C.2.1 dX6_turn_40 (lv_at hl 0 rfl) ?_
        refine va_mabs C.1 C.2.1 (C.2.2.1.trans hl.1.symm) C.2.2.2.1 (C.2.2.2.2 _ kw2_194) (C.2.2.2.2 _ kw2_157) (C.2.2.2.2 _ kw1_14) (C.2.2.2.2 _ kw2_158) (Nat.le_of_ble_eq_true rfl) (Nat.le_of_ble_eq_true rfl) (Nat.zero_le _) (Nat.zero_le _) dX6_turn_42 ?_
        refine lv_sipush (v := 30000) C.1 C.2.1 dX6_turn_45 (by decide) ?_
        refine lv_icmp_le (tgt := 54) C.1 C.2.1 dX6_turn_48 (by decide) (fun c9 => ?_) (fun c9 => ?_)
        · have hF := fp hF c9
          refine lv_aload_n C.1 C.2.1 dX6_turn_54 rfl (lv_at hl 1 rfl) ?_
          refine lv_iload C.1 C.2.1 dX6_turn_55 (lv_at hl 0 rfl) ?_
          refine pf_6_2_place C hK hP hD hS (3 + x1.toNatClampNeg) (famget 3 (rcell a_now_rotors_e v_now_rotorsF) rfl rfl rfl rfl hk8) rfl dX6_turn_57 (fun H locs hP hD hS => ?_)
          have hP := va_Pe (famsetR (a := a_now_rotors_e) (ρ := v_now_rotorsF) 3 rfl rfl rfl rfl hk8 ((v_now_rotorsF x1.toNatClampNeg).1) ((v_now_rotorsF x1.toNatClampNeg).2.1) ((((v_now_rotorsF x1.toNatClampNeg).2.2.1) + x2) - (8 : Int32)) ((v_now_rotorsF x1.toNatClampNeg).2.2.2)) hP
          have hD := va_De (famsetR (a := a_now_rotors_e) (ρ := v_now_rotorsF) 3 rfl rfl rfl rfl hk8 ((v_now_rotorsF x1.toNatClampNeg).1) ((v_now_rotorsF x1.toNatClampNeg).2.1) ((((v_now_rotorsF x1.toNatClampNeg).2.2.1) + x2) - (8 : Int32)) ((v_now_rotorsF x1.toNatClampNeg).2.2.2)) hD
          have hP : va_P D vwCl [(a_this, .inr (6, [.ref a_tape, .ref a_now, .ref a_trial, .ref a_sights, .ref a_images, .ref a_sheets, .int v_readFault])), (a_now, .inr (0, [.int v_now_field, .int v_now_tick, .int v_now_pace, .int v_now_signNumber, .int v_now_rotorNumber, .ref a_now_signs, .ref a_now_rotors])), (a_now_rotors, rfn cR 4 a_now_rotors_e), rcell a_now_rotors_e (up v_now_rotorsF x1.toNatClampNeg ((v_now_rotorsF x1.toNatClampNeg).1, (v_now_rotorsF x1.toNatClampNeg).2.1, (((v_now_rotorsF x1.toNatClampNeg).2.2.1) + x2) - (8 : Int32), (v_now_rotorsF x1.toNatClampNeg).2.2.2)) 0, rcell a_now_rotors_e (up v_now_rotorsF x1.toNatClampNeg ((v_now_rotorsF x1.toNatClampNeg).1, (v_now_rotorsF x1.toNatClampNeg).2.1, (((v_now_rotorsF x1.toNatClampNeg).2.2.1) + x2) - (8 : Int32), (v_now_rotorsF x1.toNatClampNeg).2.2.2)) 1, rcell a_now_rotors_e (up v_now_rotorsF x1.toNatClampNeg ((v_now_rotorsF x1.toNatClampNeg).1, (v_now_rotorsF x1.toNatClampNeg).2.1, (((v_now_rotorsF x1.toNatClampNeg).2.2.1) + x2) - (8 : Int32), (v_now_rotorsF x1.toNatClampNeg).2.2.2)) 2, rcell a_now_rotors_e (up v_now_rotorsF x1.toNatClampNeg ((v_now_rotorsF x1.toNatClampNeg).1, (v_now_rotorsF x1.toNatClampNeg).2.1, (((v_now_rotorsF x1.toNatClampNeg).2.2.1) + x2) - (8 : Int32), (v_now_rotorsF x1.toNatClampNeg).2.2.2)) 3] H := hP
          have hD : va_D A [(a_this, .inr (6, [.ref a_tape, .ref a_now, .ref a_trial, .ref a_sights, .ref a_images, .ref a_sheets, .int v_readFault])), (a_now, .inr (0, [.int v_now_field, .int v_now_tick, .int v_now_pace, .int v_now_signNumber, .int v_now_rotorNumber, .ref a_now_signs, .ref a_now_rotors])), (a_now_rotors, rfn cR 4 a_now_rotors_e), rcell a_now_rotors_e (up v_now_rotorsF x1.toNatClampNeg ((v_now_rotorsF x1.toNatClampNeg).1, (v_now_rotorsF x1.toNatClampNeg).2.1, (((v_now_rotorsF x1.toNatClampNeg).2.2.1) + x2) - (8 : Int32), (v_now_rotorsF x1.toNatClampNeg).2.2.2)) 0, rcell a_now_rotors_e (up v_now_rotorsF x1.toNatClampNeg ((v_now_rotorsF x1.toNatClampNeg).1, (v_now_rotorsF x1.toNatClampNeg).2.1, (((v_now_rotorsF x1.toNatClampNeg).2.2.1) + x2) - (8 : Int32), (v_now_rotorsF x1.toNatClampNeg).2.2.2)) 1, rcell a_now_rotors_e (up v_now_rotorsF x1.toNatClampNeg ((v_now_rotorsF x1.toNatClampNeg).1, (v_now_rotorsF x1.toNatClampNeg).2.1, (((v_now_rotorsF x1.toNatClampNeg).2.2.1) + x2) - (8 : Int32), (v_now_rotorsF x1.toNatClampNeg).2.2.2)) 2, rcell a_now_rotors_e (up v_now_rotorsF x1.toNatClampNeg ((v_now_rotorsF x1.toNatClampNeg).1, (v_now_rotorsF x1.toNatClampNeg).2.1, (((v_now_rotorsF x1.toNatClampNeg).2.2.1) + x2) - (8 : Int32), (v_now_rotorsF x1.toNatClampNeg).2.2.2)) 3] := hD
          refine lv_aload_n C.1 C.2.1 dX6_turn_60 rfl (lv_at hl 1 rfl) ?_
          refine lv_iconst (v := 0) C.1 C.2.1 dX6_turn_61 (by decide) ?_
          refine pf_6_2_way C hK hP hD hS (3 + x1.toNatClampNeg) (famget 3 (rcell a_now_rotors_e (up v_now_rotorsF x1.toNatClampNeg ((v_now_rotorsF x1.toNatClampNeg).1, (v_now_rotorsF x1.toNatClampNeg).2.1, (((v_now_rotorsF x1.toNatClampNeg).2.2.1) + x2) - (8 : Int32), (v_now_rotorsF x1.toNatClampNeg).2.2.2))) rfl rfl rfl rfl hk8) rfl dX6_turn_62 (fun H locs hP hD hS => ?_)
          have hP := va_Pe (famsetR (a := a_now_rotors_e) (ρ := up v_now_rotorsF x1.toNatClampNeg ((v_now_rotorsF x1.toNatClampNeg).1, (v_now_rotorsF x1.toNatClampNeg).2.1, (((v_now_rotorsF x1.toNatClampNeg).2.2.1) + x2) - (8 : Int32), (v_now_rotorsF x1.toNatClampNeg).2.2.2)) 3 rfl rfl rfl rfl hk8 (((up v_now_rotorsF x1.toNatClampNeg ((v_now_rotorsF x1.toNatClampNeg).1, (v_now_rotorsF x1.toNatClampNeg).2.1, (((v_now_rotorsF x1.toNatClampNeg).2.2.1) + x2) - (8 : Int32), (v_now_rotorsF x1.toNatClampNeg).2.2.2)) x1.toNatClampNeg).1) (((up v_now_rotorsF x1.toNatClampNeg ((v_now_rotorsF x1.toNatClampNeg).1, (v_now_rotorsF x1.toNatClampNeg).2.1, (((v_now_rotorsF x1.toNatClampNeg).2.2.1) + x2) - (8 : Int32), (v_now_rotorsF x1.toNatClampNeg).2.2.2)) x1.toNatClampNeg).2.1) (((up v_now_rotorsF x1.toNatClampNeg ((v_now_rotorsF x1.toNatClampNeg).1, (v_now_rotorsF x1.toNatClampNeg).2.1, (((v_now_rotorsF x1.toNatClampNeg).2.2.1) + x2) - (8 : Int32), (v_now_rotorsF x1.toNatClampNeg).2.2.2)) x1.toNatClampNeg).2.2.1) (0 : Int32)) hP
          have hD := va_De (famsetR (a := a_now_rotors_e) (ρ := up v_now_rotorsF x1.toNatClampNeg ((v_now_rotorsF x1.toNatClampNeg).1, (v_now_rotorsF x1.toNatClampNeg).2.1, (((v_now_rotorsF x1.toNatClampNeg).2.2.1) + x2) - (8 : Int32), (v_now_rotorsF x1.toNatClampNeg).2.2.2)) 3 rfl rfl rfl rfl hk8 (((up v_now_rotorsF x1.toNatClampNeg ((v_now_rotorsF x1.toNatClampNeg).1, (v_now_rotorsF x1.toNatClampNeg).2.1, (((v_now_rotorsF x1.toNatClampNeg).2.2.1) + x2) - (8 : Int32), (v_now_rotorsF x1.toNatClampNeg).2.2.2)) x1.toNatClampNeg).1) (((up v_now_rotorsF x1.toNatClampNeg ((v_now_rotorsF x1.toNatClampNeg).1, (v_now_rotorsF x1.toNatClampNeg).2.1, (((v_now_rotorsF x1.toNatClampNeg).2.2.1) + x2) - (8 : Int32), (v_now_rotorsF x1.toNatClampNeg).2.2.2)) x1.toNatClampNeg).2.1) (((up v_now_rotorsF x1.toNatClampNeg ((v_now_rotorsF x1.toNatClampNeg).1, (v_now_rotorsF x1.toNatClampNeg).2.1, (((v_now_rotorsF x1.toNatClampNeg).2.2.1) + x2) - (8 : Int32), (v_now_rotorsF x1.toNatClampNeg).2.2.2)) x1.toNatClampNeg).2.2.1) (0 : Int32)) hD
          have hP : va_P D vwCl [(a_this, .inr (6, [.ref a_tape, .ref a_now, .ref a_trial, .ref a_sights, .ref a_images, .ref a_sheets, .int v_readFault])), (a_now, .inr (0, [.int v_now_field, .int v_now_tick, .int v_now_pace, .int v_now_signNumber, .int v_now_rotorNumber, .ref a_now_signs, .ref a_now_rotors])), (a_now_rotors, rfn cR 4 a_now_rotors_e), rcell a_now_rotors_e (up (up v_now_rotorsF x1.toNatClampNeg ((v_now_rotorsF x1.toNatClampNeg).1, (v_now_rotorsF x1.toNatClampNeg).2.1, (((v_now_rotorsF x1.toNatClampNeg).2.2.1) + x2) - (8 : Int32), (v_now_rotorsF x1.toNatClampNeg).2.2.2)) x1.toNatClampNeg (((up v_now_rotorsF x1.toNatClampNeg ((v_now_rotorsF x1.toNatClampNeg).1, (v_now_rotorsF x1.toNatClampNeg).2.1, (((v_now_rotorsF x1.toNatClampNeg).2.2.1) + x2) - (8 : Int32), (v_now_rotorsF x1.toNatClampNeg).2.2.2)) x1.toNatClampNeg).1, ((up v_now_rotorsF x1.toNatClampNeg ((v_now_rotorsF x1.toNatClampNeg).1, (v_now_rotorsF x1.toNatClampNeg).2.1, (((v_now_rotorsF x1.toNatClampNeg).2.2.1) + x2) - (8 : Int32), (v_now_rotorsF x1.toNatClampNeg).2.2.2)) x1.toNatClampNeg).2.1, ((up v_now_rotorsF x1.toNatClampNeg ((v_now_rotorsF x1.toNatClampNeg).1, (v_now_rotorsF x1.toNatClampNeg).2.1, (((v_now_rotorsF x1.toNatClampNeg).2.2.1) + x2) - (8 : Int32), (v_now_rotorsF x1.toNatClampNeg).2.2.2)) x1.toNatClampNeg).2.2.1, (0 : Int32))) 0, rcell a_now_rotors_e (up (up v_now_rotorsF x1.toNatClampNeg ((v_now_rotorsF x1.toNatClampNeg).1, (v_now_rotorsF x1.toNatClampNeg).2.1, (((v_now_rotorsF x1.toNatClampNeg).2.2.1) + x2) - (8 : Int32), (v_now_rotorsF x1.toNatClampNeg).2.2.2)) x1.toNatClampNeg (((up v_now_rotorsF x1.toNatClampNeg ((v_now_rotorsF x1.toNatClampNeg).1, (v_now_rotorsF x1.toNatClampNeg).2.1, (((v_now_rotorsF x1.toNatClampNeg).2.2.1) + x2) - (8 : Int32), (v_now_rotorsF x1.toNatClampNeg).2.2.2)) x1.toNatClampNeg).1, ((up v_now_rotorsF x1.toNatClampNeg ((v_now_rotorsF x1.toNatClampNeg).1, (v_now_rotorsF x1.toNatClampNeg).2.1, (((v_now_rotorsF x1.toNatClampNeg).2.2.1) + x2) - (8 : Int32), (v_now_rotorsF x1.toNatClampNeg).2.2.2)) x1.toNatClampNeg).2.1, ((up v_now_rotorsF x1.toNatClampNeg ((v_now_rotorsF x1.toNatClampNeg).1, (v_now_rotorsF x1.toNatClampNeg).2.1, (((v_now_rotorsF x1.toNatClampNeg).2.2.1) + x2) - (8 : Int32), (v_now_rotorsF x1.toNatClampNeg).2.2.2)) x1.toNatClampNeg).2.2.1, (0 : Int32))) 1, rcell a_now_rotors_e (up (up v_now_rotorsF x1.toNatClampNeg ((v_now_rotorsF x1.toNatClampNeg).1, (v_now_rotorsF x1.toNatClampNeg).2.1, (((v_now_rotorsF x1.toNatClampNeg).2.2.1) + x2) - (8 : Int32), (v_now_rotorsF x1.toNatClampNeg).2.2.2)) x1.toNatClampNeg (((up v_now_rotorsF x1.toNatClampNeg ((v_now_rotorsF x1.toNatClampNeg).1, (v_now_rotorsF x1.toNatClampNeg).2.1, (((v_now_rotorsF x1.toNatClampNeg).2.2.1) + x2) - (8 : Int32), (v_now_rotorsF x1.toNatClampNeg).2.2.2)) x1.toNatClampNeg).1, ((up v_now_rotorsF x1.toNatClampNeg ((v_now_rotorsF x1.toNatClampNeg).1, (v_now_rotorsF x1.toNatClampNeg).2.1, (((v_now_rotorsF x1.toNatClampNeg).2.2.1) + x2) - (8 : Int32), (v_now_rotorsF x1.toNatClampNeg).2.2.2)) x1.toNatClampNeg).2.1, ((up v_now_rotorsF x1.toNatClampNeg ((v_now_rotorsF x1.toNatClampNeg).1, (v_now_rotorsF x1.toNatClampNeg).2.1, (((v_now_rotorsF x1.toNatClampNeg).2.2.1) + x2) - (8 : Int32), (v_now_rotorsF x1.toNatClampNeg).2.2.2)) x1.toNatClampNeg).2.2.1, (0 : Int32))) 2, rcell a_now_rotors_e (up (up v_now_rotorsF x1.toNatClampNeg ((v_now_rotorsF x1.toNatClampNeg).1, (v_now_rotorsF x1.toNatClampNeg).2.1, (((v_now_rotorsF x1.toNatClampNeg).2.2.1) + x2) - (8 : Int32), (v_now_rotorsF x1.toNatClampNeg).2.2.2)) x1.toNatClampNeg (((up v_now_rotorsF x1.toNatClampNeg ((v_now_rotorsF x1.toNatClampNeg).1, (v_now_rotorsF x1.toNatClampNeg).2.1, (((v_now_rotorsF x1.toNatClampNeg).2.2.1) + x2) - (8 : Int32), (v_now_rotorsF x1.toNatClampNeg).2.2.2)) x1.toNatClampNeg).1, ((up v_now_rotorsF x1.toNatClampNeg ((v_now_rotorsF x1.toNatClampNeg).1, (v_now_rotorsF x1.toNatClampNeg).2.1, (((v_now_rotorsF x1.toNatClampNeg).2.2.1) + x2) - (8 : Int32), (v_now_rotorsF x1.toNatClampNeg).2.2.2)) x1.toNatClampNeg).2.1, ((up v_now_rotorsF x1.toNatClampNeg ((v_now_rotorsF x1.toNatClampNeg).1, (v_now_rotorsF x1.toNatClampNeg).2.1, (((v_now_rotorsF x1.toNatClampNeg).2.2.1) + x2) - (8 : Int32), (v_now_rotorsF x1.toNatClampNeg).2.2.2)) x1.toNatClampNeg).2.2.1, (0 : Int32))) 3] H := hP
          have hD : va_D A [(a_this, .inr (6, [.ref a_tape, .ref a_now, .ref a_trial, .ref a_sights, .ref a_images, .ref a_sheets, .int v_readFault])), (a_now, .inr (0, [.int v_now_field, .int v_now_tick, .int v_now_pace, .int v_now_signNumber, .int v_now_rotorNumber, .ref a_now_signs, .ref a_now_rotors])), (a_now_rotors, rfn cR 4 a_now_rotors_e), rcell a_now_rotors_e (up (up v_now_rotorsF x1.toNatClampNeg ((v_now_rotorsF x1.toNatClampNeg).1, (v_now_rotorsF x1.toNatClampNeg).2.1, (((v_now_rotorsF x1.toNatClampNeg).2.2.1) + x2) - (8 : Int32), (v_now_rotorsF x1.toNatClampNeg).2.2.2)) x1.toNatClampNeg (((up v_now_rotorsF x1.toNatClampNeg ((v_now_rotorsF x1.toNatClampNeg).1, (v_now_rotorsF x1.toNatClampNeg).2.1, (((v_now_rotorsF x1.toNatClampNeg).2.2.1) + x2) - (8 : Int32), (v_now_rotorsF x1.toNatClampNeg).2.2.2)) x1.toNatClampNeg).1, ((up v_now_rotorsF x1.toNatClampNeg ((v_now_rotorsF x1.toNatClampNeg).1, (v_now_rotorsF x1.toNatClampNeg).2.1, (((v_now_rotorsF x1.toNatClampNeg).2.2.1) + x2) - (8 : Int32), (v_now_rotorsF x1.toNatClampNeg).2.2.2)) x1.toNatClampNeg).2.1, ((up v_now_rotorsF x1.toNatClampNeg ((v_now_rotorsF x1.toNatClampNeg).1, (v_now_rotorsF x1.toNatClampNeg).2.1, (((v_now_rotorsF x1.toNatClampNeg).2.2.1) + x2) - (8 : Int32), (v_now_rotorsF x1.toNatClampNeg).2.2.2)) x1.toNatClampNeg).2.2.1, (0 : Int32))) 0, rcell a_now_rotors_e (up (up v_now_rotorsF x1.toNatClampNeg ((v_now_rotorsF x1.toNatClampNeg).1, (v_now_rotorsF x1.toNatClampNeg).2.1, (((v_now_rotorsF x1.toNatClampNeg).2.2.1) + x2) - (8 : Int32), (v_now_rotorsF x1.toNatClampNeg).2.2.2)) x1.toNatClampNeg (((up v_now_rotorsF x1.toNatClampNeg ((v_now_rotorsF x1.toNatClampNeg).1, (v_now_rotorsF x1.toNatClampNeg).2.1, (((v_now_rotorsF x1.toNatClampNeg).2.2.1) + x2) - (8 : Int32), (v_now_rotorsF x1.toNatClampNeg).2.2.2)) x1.toNatClampNeg).1, ((up v_now_rotorsF x1.toNatClampNeg ((v_now_rotorsF x1.toNatClampNeg).1, (v_now_rotorsF x1.toNatClampNeg).2.1, (((v_now_rotorsF x1.toNatClampNeg).2.2.1) + x2) - (8 : Int32), (v_now_rotorsF x1.toNatClampNeg).2.2.2)) x1.toNatClampNeg).2.1, ((up v_now_rotorsF x1.toNatClampNeg ((v_now_rotorsF x1.toNatClampNeg).1, (v_now_rotorsF x1.toNatClampNeg).2.1, (((v_now_rotorsF x1.toNatClampNeg).2.2.1) + x2) - (8 : Int32), (v_now_rotorsF x1.toNatClampNeg).2.2.2)) x1.toNatClampNeg).2.2.1, (0 : Int32))) 1, rcell a_now_rotors_e (up (up v_now_rotorsF x1.toNatClampNeg ((v_now_rotorsF x1.toNatClampNeg).1, (v_now_rotorsF x1.toNatClampNeg).2.1, (((v_now_rotorsF x1.toNatClampNeg).2.2.1) + x2) - (8 : Int32), (v_now_rotorsF x1.toNatClampNeg).2.2.2)) x1.toNatClampNeg (((up v_now_rotorsF x1.toNatClampNeg ((v_now_rotorsF x1.toNatClampNeg).1, (v_now_rotorsF x1.toNatClampNeg).2.1, (((v_now_rotorsF x1.toNatClampNeg).2.2.1) + x2) - (8 : Int32), (v_now_rotorsF x1.toNatClampNeg).2.2.2)) x1.toNatClampNeg).1, ((up v_now_rotorsF x1.toNatClampNeg ((v_now_rotorsF x1.toNatClampNeg).1, (v_now_rotorsF x1.toNatClampNeg).2.1, (((v_now_rotorsF x1.toNatClampNeg).2.2.1) + x2) - (8 : Int32), (v_now_rotorsF x1.toNatClampNeg).2.2.2)) x1.toNatClampNeg).2.1, ((up v_now_rotorsF x1.toNatClampNeg ((v_now_rotorsF x1.toNatClampNeg).1, (v_now_rotorsF x1.toNatClampNeg).2.1, (((v_now_rotorsF x1.toNatClampNeg).2.2.1) + x2) - (8 : Int32), (v_now_rotorsF x1.toNatClampNeg).2.2.2)) x1.toNatClampNeg).2.2.1, (0 : Int32))) 2, rcell a_now_rotors_e (up (up v_now_rotorsF x1.toNatClampNeg ((v_now_rotorsF x1.toNatClampNeg).1, (v_now_rotorsF x1.toNatClampNeg).2.1, (((v_now_rotorsF x1.toNatClampNeg).2.2.1) + x2) - (8 : Int32), (v_now_rotorsF x1.toNatClampNeg).2.2.2)) x1.toNatClampNeg (((up v_now_rotorsF x1.toNatClampNeg ((v_now_rotorsF x1.toNatClampNeg).1, (v_now_rotorsF x1.toNatClampNeg).2.1, (((v_now_rotorsF x1.toNatClampNeg).2.2.1) + x2) - (8 : Int32), (v_now_rotorsF x1.toNatClampNeg).2.2.2)) x1.toNatClampNeg).1, ((up v_now_rotorsF x1.toNatClampNeg ((v_now_rotorsF x1.toNatClampNeg).1, (v_now_rotorsF x1.toNatClampNeg).2.1, (((v_now_rotorsF x1.toNatClampNeg).2.2.1) + x2) - (8 : Int32), (v_now_rotorsF x1.toNatClampNeg).2.2.2)) x1.toNatClampNeg).2.1, ((up v_now_rotorsF x1.toNatClampNeg ((v_now_rotorsF x1.toNatClampNeg).1, (v_now_rotorsF x1.toNatClampNeg).2.1, (((v_now_rotorsF x1.toNatClampNeg).2.2.1) + x2) - (8 : Int32), (v_now_rotorsF x1.toNatClampNeg).2.2.2)) x1.toNatClampNeg).2.2.1, (0 : Int32))) 3] := hD
          refine lv_ldc (v := 100000) C.1 C.2.1 C.2.2.2.1 (C.2.2.2.2 _ kw2_143) dX6_turn_65 ?_
          refine lv_iload C.1 C.2.1 dX6_turn_67 (lv_at hl 0 rfl) ?_
          refine lv_iadd C.1 C.2.1 dX6_turn_69 ?_
          have hF := Option.some.inj hF
          subst hF
          exact retI C hr hlk hP hD hS dX6_turn_70
        · have hF := fn hF c9
          refine lv_bipush (v := (-3)) C.1 C.2.1 dX6_turn_51 (by decide) ?_
          have hF := Option.some.inj hF
          subst hF
          exact retI C hr hlk hP hD hS dX6_turn_53
      · have hF := fp hF c6
        refine lv_iconst (v := (-1)) C.1 C.2.1 dX6_turn_17 (by decide) ?_
        have hF := Option.some.inj hF
        subst hF
        exact retI C hr hlk hP hD hS dX6_turn_18)
theorem c_X6_turn {l : Launch} {D : va_G} {cI cB cZ cR cM cS : ClassId} {a_this : Nat} {a_tape : Nat} {a_now : Nat} {a_trial : Nat} {a_sights : Nat} {a_images : Nat} {a_sheets : Nat} {a_now_signs : Nat} {a_now_rotors : Nat} {a_now_rotors_e : Nat → Nat} {v_readFault : Int32} {v_now_field : Int32} {v_now_tick : Int32} {v_now_pace : Int32} {v_now_signNumber : Int32} {v_now_rotorNumber : Int32} {v_now_rotorsF : Nat → Rot} {x1 : Int32} {x2 : Int32} {r_ : Int32} {v_now_rotorsF' : Nat → Rot} (hF : F_X6_turn v_now_rotorNumber v_now_rotorsF x1 x2 = some (r_, v_now_rotorsF')) : MI l yX6_turn cX6_turn 5 .int rm_X6_turn D (TS cI cB cZ cR cM cS) [.ref a_this, .int x1, .int x2] [(a_this, .inr (6, [.ref a_tape, .ref a_now, .ref a_trial, .ref a_sights, .ref a_images, .ref a_sheets, .int v_readFault])), (a_now, .inr (0, [.int v_now_field, .int v_now_tick, .int v_now_pace, .int v_now_signNumber, .int v_now_rotorNumber, .ref a_now_signs, .ref a_now_rotors])), (a_now_rotors, rfn cR 4 a_now_rotors_e), rcell a_now_rotors_e v_now_rotorsF 0, rcell a_now_rotors_e v_now_rotorsF 1, rcell a_now_rotors_e v_now_rotorsF 2, rcell a_now_rotors_e v_now_rotorsF 3] [(a_this, .inr (6, [.ref a_tape, .ref a_now, .ref a_trial, .ref a_sights, .ref a_images, .ref a_sheets, .int v_readFault])), (a_now, .inr (0, [.int v_now_field, .int v_now_tick, .int v_now_pace, .int v_now_signNumber, .int v_now_rotorNumber, .ref a_now_signs, .ref a_now_rotors])), (a_now_rotors, rfn cR 4 a_now_rotors_e), rcell a_now_rotors_e v_now_rotorsF' 0, rcell a_now_rotors_e v_now_rotorsF' 1, rcell a_now_rotors_e v_now_rotorsF' 2, rcell a_now_rotors_e v_now_rotorsF' 3] r_ :=
  c0_X6_turn (res := (r_, v_now_rotorsF')) hF
def rm_X6_canSet : Room := { frames := 1, cells := 0, slots := 0, locals := 21 }
theorem cv_X6_canSet : CV yX6_canSet cX6_canSet 3 (some .boolean) rm_X6_canSet RX6 2 := ⟨kw2_201, kwp_15, kw1_1, kw2_202, by decide +kernel, rfl, rfl⟩
set_option maxHeartbeats 4000000 in
set_option maxRecDepth 100000 in
theorem c_X6_canSet {l : Launch} {D : va_G} {cI cB cZ cR cM cS : ClassId} {a_this : Nat} {a_tape : Nat} {a_now : Nat} {a_trial : Nat} {a_sights : Nat} {a_images : Nat} {a_sheets : Nat} {a_now_signs : Nat} {a_now_rotors : Nat} {v_readFault : Int32} {v_now_field : Int32} {v_now_tick : Int32} {v_now_pace : Int32} {v_now_signNumber : Int32} {v_now_rotorNumber : Int32} {x1 : Int32} {x2 : Int32} {res : Int32} (hF : F_X6_canSet v_now_signNumber x1 x2 = some res) : MI l yX6_canSet cX6_canSet 3 .boolean rm_X6_canSet D (TS cI cB cZ cR cM cS) [.ref a_this, .int x1, .int x2] [(a_this, .inr (6, [.ref a_tape, .ref a_now, .ref a_trial, .ref a_sights, .ref a_images, .ref a_sheets, .int v_readFault])), (a_now, .inr (0, [.int v_now_field, .int v_now_tick, .int v_now_pace, .int v_now_signNumber, .int v_now_rotorNumber, .ref a_now_signs, .ref a_now_rotors]))] [(a_this, .inr (6, [.ref a_tape, .ref a_now, .ref a_trial, .ref a_sights, .ref a_images, .ref a_sheets, .int v_readFault])), (a_now, .inr (0, [.int v_now_field, .int v_now_tick, .int v_now_pace, .int v_now_signNumber, .int v_now_rotorNumber, .ref a_now_signs, .ref a_now_rotors]))] res :=
  MI_of (by decide) (Nat.le_of_ble_eq_true rfl) (fun p e s m args below meth c A ls C hr hlk hK hA hP hD hS hl => by
    have C : CX p m c cX6_canSet 3 s args RX6 := C
    have hl : lv_has ls 3 [(0, .ref a_this), (1, .int x1), (2, .int x2)] := hl
    unfold F_X6_canSet at hF
    refine lv_aload_n C.1 C.2.1 dX6_canSet_0 rfl (lv_at hl 0 rfl) ?_
    refine lv_iload_n C.1 C.2.1 dX6_canSet_1 rfl (lv_at hl 1 rfl) ?_
    obtain ⟨r1, h2, hF⟩ := fb hF
    refine callVI C hK hA hP hD hS [0, 1] (c_X6_hasSign (a_this := a_this) (a_tape := a_tape) (a_now := a_now) (a_trial := a_trial) (a_sights := a_sights) (a_images := a_images) (a_sheets := a_sheets) (a_now_signs := a_now_signs) (a_now_rotors := a_now_rotors) (v_readFault := v_readFault) (v_now_field := v_now_field) (v_now_tick := v_now_tick) (v_now_pace := v_now_pace) (v_now_signNumber := v_now_signNumber) (v_now_rotorNumber := v_now_rotorNumber) h2) cv_X6_hasSign kw2_182 rfl (by decide) rfl rfl rfl ⟨Nat.le_of_ble_eq_true rfl, Nat.le_of_ble_eq_true rfl⟩ ⟨Nat.zero_le _, Nat.zero_le _⟩ hl.1 rfl (Nat.le_of_ble_eq_true rfl) dX6_canSet_2 (fun H locs hP hD hS => ?_)
    have hP : va_P D vwCl [(a_this, .inr (6, [.ref a_tape, .ref a_now, .ref a_trial, .ref a_sights, .ref a_images, .ref a_sheets, .int v_readFault])), (a_now, .inr (0, [.int v_now_field, .int v_now_tick, .int v_now_pace, .int v_now_signNumber, .int v_now_rotorNumber, .ref a_now_signs, .ref a_now_rotors]))] H := hP
    have hD : va_D A [(a_this, .inr (6, [.ref a_tape, .ref a_now, .ref a_trial, .ref a_sights, .ref a_images, .ref a_sheets, .int v_readFault])), (a_now, .inr (0, [.int v_now_field, .int v_now_tick, .int v_now_pace, .int v_now_signNumber, .int v_now_rotorNumber, .ref a_now_signs, .ref a_now_rotors]))] := hD
    refine lv_if_eq (tgt := 20) C.1 C.2.1 dX6_canSet_5 (by decide) (fun c3 => ?_) (fun c3 => ?_)
    · have hF := fp hF c3
      refine lv_iconst (v := 0) C.1 C.2.1 dX6_canSet_20 (by decide) ?_
      have hF := Option.some.inj hF
      subst hF
      exact retZ (v := 0) C hr hlk (by decide) hP hD hS dX6_canSet_21
    · have hF := fn hF c3
      refine lv_iload_n C.1 C.2.1 dX6_canSet_8 rfl (lv_at hl 2 rfl) ?_
      refine lv_iconst (v := 3) C.1 C.2.1 dX6_canSet_9 (by decide) ?_
      obtain ⟨r4, h5, hF⟩ := fb hF
      refine callSI C hK hA hP hD hS (c_X6_within  h5) cs_X6_within kw1_227 ⟨Nat.le_of_ble_eq_true rfl, Nat.le_of_ble_eq_true rfl⟩ ⟨Nat.zero_le _, Nat.zero_le _⟩ hl.1 rfl (Nat.le_of_ble_eq_true rfl) dX6_canSet_10 (fun H locs hP hD hS => ?_)
      refine lv_if_eq (tgt := 20) C.1 C.2.1 dX6_canSet_13 (by decide) (fun c6 => ?_) (fun c6 => ?_)
      · have hF := fp hF c6
        refine lv_iconst (v := 0) C.1 C.2.1 dX6_canSet_20 (by decide) ?_
        have hF := Option.some.inj hF
        subst hF
        exact retZ (v := 0) C hr hlk (by decide) hP hD hS dX6_canSet_21
      · have hF := fn hF c6
        refine lv_iconst (v := 1) C.1 C.2.1 dX6_canSet_16 (by decide) ?_
        refine lv_goto (tgt := 21) C.1 C.2.1 dX6_canSet_17 (by decide) ?_
        have hF := Option.some.inj hF
        subst hF
        exact retZ (v := 1) C hr hlk (by decide) hP hD hS dX6_canSet_21)
def rm_X6_set : Room := { frames := 2, cells := 0, slots := 0, locals := 43 }
theorem cv_X6_set : CV yX6_set cX6_set 4 (some .int) rm_X6_set RX6 2 := ⟨kw2_196, kw2_197, kw1_1, kw2_198, by decide +kernel, rfl, rfl⟩
set_option maxHeartbeats 4000000 in
set_option maxRecDepth 100000 in
theorem c0_X6_set {l : Launch} {D : va_G} {cI cB cZ cR cM cS : ClassId} {a_this : Nat} {a_tape : Nat} {a_now : Nat} {a_trial : Nat} {a_sights : Nat} {a_images : Nat} {a_sheets : Nat} {a_now_signs : Nat} {a_now_rotors : Nat} {v_readFault : Int32} {v_now_field : Int32} {v_now_tick : Int32} {v_now_pace : Int32} {v_now_signNumber : Int32} {v_now_rotorNumber : Int32} {v_now_signs : Nat → Int32} {x1 : Int32} {x2 : Int32} {res : Int32 × (Nat → Int32)} (hF : F_X6_set v_now_signNumber v_now_signs x1 x2 = some res) : MI l yX6_set cX6_set 4 .int rm_X6_set D (TS cI cB cZ cR cM cS) [.ref a_this, .int x1, .int x2] [(a_this, .inr (6, [.ref a_tape, .ref a_now, .ref a_trial, .ref a_sights, .ref a_images, .ref a_sheets, .int v_readFault])), (a_now, .inr (0, [.int v_now_field, .int v_now_tick, .int v_now_pace, .int v_now_signNumber, .int v_now_rotorNumber, .ref a_now_signs, .ref a_now_rotors])), (a_now_signs, .inl (cI, 16, .inl v_now_signs))] [(a_this, .inr (6, [.ref a_tape, .ref a_now, .ref a_trial, .ref a_sights, .ref a_images, .ref a_sheets, .int v_readFault])), (a_now, .inr (0, [.int v_now_field, .int v_now_tick, .int v_now_pace, .int v_now_signNumber, .int v_now_rotorNumber, .ref a_now_signs, .ref a_now_rotors])), (a_now_signs, .inl (cI, 16, .inl res.2))] res.1 :=
  MI_of (by decide) (Nat.le_of_ble_eq_true rfl) (fun p e s m args below meth c A ls C hr hlk hK hA hP hD hS hl => by
    have C : CX p m c cX6_set 4 s args RX6 := C
    have hl : lv_has ls 4 [(0, .ref a_this), (1, .int x1), (2, .int x2)] := hl
    unfold F_X6_set at hF
    refine lv_aload_n C.1 C.2.1 dX6_set_0 rfl (lv_at hl 0 rfl) ?_
    refine lv_iload_n C.1 C.2.1 dX6_set_1 rfl (lv_at hl 1 rfl) ?_
    refine lv_iload_n C.1 C.2.1 dX6_set_2 rfl (lv_at hl 2 rfl) ?_
    obtain ⟨r1, h2, hF⟩ := fb hF
    refine callVI C hK hA hP hD hS [0, 1] (c_X6_canSet (a_this := a_this) (a_tape := a_tape) (a_now := a_now) (a_trial := a_trial) (a_sights := a_sights) (a_images := a_images) (a_sheets := a_sheets) (a_now_signs := a_now_signs) (a_now_rotors := a_now_rotors) (v_readFault := v_readFault) (v_now_field := v_now_field) (v_now_tick := v_now_tick) (v_now_pace := v_now_pace) (v_now_signNumber := v_now_signNumber) (v_now_rotorNumber := v_now_rotorNumber) h2) cv_X6_canSet kw2_199 rfl (by decide) rfl rfl rfl ⟨Nat.le_of_ble_eq_true rfl, Nat.le_of_ble_eq_true rfl⟩ ⟨Nat.zero_le _, Nat.zero_le _⟩ hl.1 rfl (Nat.le_of_ble_eq_true rfl) dX6_set_3 (fun H locs hP hD hS => ?_)
    have hP : va_P D vwCl [(a_this, .inr (6, [.ref a_tape, .ref a_now, .ref a_trial, .ref a_sights, .ref a_images, .ref a_sheets, .int v_readFault])), (a_now, .inr (0, [.int v_now_field, .int v_now_tick, .int v_now_pace, .int v_now_signNumber, .int v_now_rotorNumber, .ref a_now_signs, .ref a_now_rotors])), (a_now_signs, .inl (cI, 16, .inl v_now_signs))] H := hP
    have hD : va_D A [(a_this, .inr (6, [.ref a_tape, .ref a_now, .ref a_trial, .ref a_sights, .ref a_images, .ref a_sheets, .int v_readFault])), (a_now, .inr (0, [.int v_now_field, .int v_now_tick, .int v_now_pace, .int v_now_signNumber, .int v_now_rotorNumber, .ref a_now_signs, .ref a_now_rotors])), (a_now_signs, .inl (cI, 16, .inl v_now_signs))] := hD
    refine lv_if_ne (tgt := 11) C.1 C.2.1 dX6_set_6 (by decide) (fun c3 => ?_) (fun c3 => ?_)
    · have hF := fn hF c3
      refine lv_aload_n C.1 C.2.1 dX6_set_11 rfl (lv_at hl 0 rfl) ?_
      refine gf_6_6_now C hK hP 0 rfl rfl dX6_set_12 ?_
      refine gf_6_0_signs C hK hP 1 rfl rfl dX6_set_15 ?_
      refine lv_iload_n C.1 C.2.1 dX6_set_18 rfl (lv_at hl 1 rfl) ?_
      obtain ⟨h4, hF⟩ := fk hF
      refine va_iald C.1 C.2.1 hK.1 hP 2 0 rfl rfl h4 dX6_set_19 ?_
      refine lv_istore_n (lv' := [(3, .int (v_now_signs x1.toNatClampNeg)), (0, .ref a_this), (1, .int x1), (2, .int x2)]) C.1 C.2.1 dX6_set_20 rfl hl (by decide) rfl (fun ls hl => ?_)
      refine lv_aload_n C.1 C.2.1 dX6_set_21 rfl (lv_at hl 1 rfl) ?_
      refine gf_6_6_now C hK hP 0 rfl rfl dX6_set_22 ?_
      refine gf_6_0_signs C hK hP 1 rfl rfl dX6_set_25 ?_
      refine lv_iload_n C.1 C.2.1 dX6_set_28 rfl (lv_at hl 2 rfl) ?_
      refine lv_iload_n C.1 C.2.1 dX6_set_29 rfl (lv_at hl 3 rfl) ?_
      obtain ⟨h5, hF⟩ := fk hF
      refine va_iast C.1 C.2.1 hK.1 hP hD hS 2 0 rfl rfl h5 dX6_set_30 (fun H locs hP hD hS => ?_)
      have hP : va_P D vwCl [(a_this, .inr (6, [.ref a_tape, .ref a_now, .ref a_trial, .ref a_sights, .ref a_images, .ref a_sheets, .int v_readFault])), (a_now, .inr (0, [.int v_now_field, .int v_now_tick, .int v_now_pace, .int v_now_signNumber, .int v_now_rotorNumber, .ref a_now_signs, .ref a_now_rotors])), (a_now_signs, .inl (cI, 16, .inl (upd v_now_signs x1.toNatClampNeg x2)))] H := hP
      have hD : va_D A [(a_this, .inr (6, [.ref a_tape, .ref a_now, .ref a_trial, .ref a_sights, .ref a_images, .ref a_sheets, .int v_readFault])), (a_now, .inr (0, [.int v_now_field, .int v_now_tick, .int v_now_pace, .int v_now_signNumber, .int v_now_rotorNumber, .ref a_now_signs, .ref a_now_rotors])), (a_now_signs, .inl (cI, 16, .inl (upd v_now_signs x1.toNatClampNeg x2)))] := hD
      refine lv_iload_n C.1 C.2.1 dX6_set_31 rfl (lv_at hl 0 rfl) ?_
      have hF := Option.some.inj hF
      subst hF
      exact retI C hr hlk hP hD hS dX6_set_32
    · have hF := fp hF c3
      refine lv_iconst (v := (-1)) C.1 C.2.1 dX6_set_9 (by decide) ?_
      have hF := Option.some.inj hF
      subst hF
      exact retI C hr hlk hP hD hS dX6_set_10)
theorem c_X6_set {l : Launch} {D : va_G} {cI cB cZ cR cM cS : ClassId} {a_this : Nat} {a_tape : Nat} {a_now : Nat} {a_trial : Nat} {a_sights : Nat} {a_images : Nat} {a_sheets : Nat} {a_now_signs : Nat} {a_now_rotors : Nat} {v_readFault : Int32} {v_now_field : Int32} {v_now_tick : Int32} {v_now_pace : Int32} {v_now_signNumber : Int32} {v_now_rotorNumber : Int32} {v_now_signs : Nat → Int32} {x1 : Int32} {x2 : Int32} {r_ : Int32} {v_now_signs' : Nat → Int32} (hF : F_X6_set v_now_signNumber v_now_signs x1 x2 = some (r_, v_now_signs')) : MI l yX6_set cX6_set 4 .int rm_X6_set D (TS cI cB cZ cR cM cS) [.ref a_this, .int x1, .int x2] [(a_this, .inr (6, [.ref a_tape, .ref a_now, .ref a_trial, .ref a_sights, .ref a_images, .ref a_sheets, .int v_readFault])), (a_now, .inr (0, [.int v_now_field, .int v_now_tick, .int v_now_pace, .int v_now_signNumber, .int v_now_rotorNumber, .ref a_now_signs, .ref a_now_rotors])), (a_now_signs, .inl (cI, 16, .inl v_now_signs))] [(a_this, .inr (6, [.ref a_tape, .ref a_now, .ref a_trial, .ref a_sights, .ref a_images, .ref a_sheets, .int v_readFault])), (a_now, .inr (0, [.int v_now_field, .int v_now_tick, .int v_now_pace, .int v_now_signNumber, .int v_now_rotorNumber, .ref a_now_signs, .ref a_now_rotors])), (a_now_signs, .inl (cI, 16, .inl v_now_signs'))] r_ :=
  c0_X6_set (res := (r_, v_now_signs')) hF
def rm_X6_every : Room := { frames := 0, cells := 0, slots := 0, locals := 0 }
theorem cv_X6_every : CV yX6_every cX6_every 3 (some .int) rm_X6_every RX6 1 := ⟨kw2_204, kw2_205, kw1_1, kw2_206, by decide +kernel, rfl, rfl⟩
set_option maxHeartbeats 4000000 in
set_option maxRecDepth 100000 in
theorem c0_X6_every {l : Launch} {D : va_G} {cI cB cZ cR cM cS : ClassId} {a_this : Nat} {a_tape : Nat} {a_now : Nat} {a_trial : Nat} {a_sights : Nat} {a_images : Nat} {a_sheets : Nat} {a_now_signs : Nat} {a_now_rotors : Nat} {v_readFault : Int32} {v_now_field : Int32} {v_now_tick : Int32} {v_now_pace : Int32} {v_now_signNumber : Int32} {v_now_rotorNumber : Int32} {x1 : Int32} {res : Int32 × Int32} (hF : F_X6_every v_now_pace x1 = some res) : MI l yX6_every cX6_every 3 .int rm_X6_every D (TS cI cB cZ cR cM cS) [.ref a_this, .int x1] [(a_this, .inr (6, [.ref a_tape, .ref a_now, .ref a_trial, .ref a_sights, .ref a_images, .ref a_sheets, .int v_readFault])), (a_now, .inr (0, [.int v_now_field, .int v_now_tick, .int v_now_pace, .int v_now_signNumber, .int v_now_rotorNumber, .ref a_now_signs, .ref a_now_rotors]))] [(a_this, .inr (6, [.ref a_tape, .ref a_now, .ref a_trial, .ref a_sights, .ref a_images, .ref a_sheets, .int v_readFault])), (a_now, .inr (0, [.int v_now_field, .int v_now_tick, .int res.2, .int v_now_signNumber, .int v_now_rotorNumber, .ref a_now_signs, .ref a_now_rotors]))] res.1 :=
  MI_of (by decide) (Nat.le_of_ble_eq_true rfl) (fun p e s m args below meth c A ls C hr hlk hK hA hP hD hS hl => by
    have C : CX p m c cX6_every 3 s args RX6 := C
    have hl : lv_has ls 3 [(0, .ref a_this), (1, .int x1)] := hl
    unfold F_X6_every at hF
    refine lv_iload_n C.1 C.2.1 dX6_every_0 rfl (lv_at hl 1 rfl) ?_
    refine lv_iconst (v := 1) C.1 C.2.1 dX6_every_1 (by decide) ?_
    refine lv_icmp_lt (tgt := 11) C.1 C.2.1 dX6_every_2 (by decide) (fun c1 => ?_) (fun c1 => ?_)
    · have hF := fp hF c1
      refine lv_iconst (v := (-1)) C.1 C.2.1 dX6_every_11 (by decide) ?_
      have hF := Option.some.inj hF
      subst hF
      exact retI C hr hlk hP hD hS dX6_every_12
    · have hF := fn hF c1
      refine lv_iload_n C.1 C.2.1 dX6_every_5 rfl (lv_at hl 1 rfl) ?_
      refine lv_bipush (v := 9) C.1 C.2.1 dX6_every_6 (by decide) ?_
      refine lv_icmp_le (tgt := 13) C.1 C.2.1 dX6_every_8 (by decide) (fun c2 => ?_) (fun c2 => ?_)
      · have hF := fp hF c2
        refine lv_aload_n C.1 C.2.1 dX6_every_13 rfl (lv_at hl 0 rfl) ?_
        refine gf_6_6_now C hK hP 0 rfl rfl dX6_every_14 ?_
        refine gf_6_0_pace C hK hP 1 rfl rfl dX6_every_17 ?_
        refine lv_istore_n (lv' := [(2, .int v_now_pace), (0, .ref a_this), (1, .int x1)]) C.1 C.2.1 dX6_every_20 rfl hl (by decide) rfl (fun ls hl => ?_)
        refine lv_aload_n C.1 C.2.1 dX6_every_21 rfl (lv_at hl 1 rfl) ?_
        refine gf_6_6_now C hK hP 0 rfl rfl dX6_every_22 ?_
        refine lv_iload_n C.1 C.2.1 dX6_every_25 rfl (lv_at hl 2 rfl) ?_
        refine pf_6_0_pace C hK hP hD hS 1 rfl rfl dX6_every_26 (fun H locs hP hD hS => ?_)
        have hP : va_P D vwCl [(a_this, .inr (6, [.ref a_tape, .ref a_now, .ref a_trial, .ref a_sights, .ref a_images, .ref a_sheets, .int v_readFault])), (a_now, .inr (0, [.int v_now_field, .int v_now_tick, .int x1, .int v_now_signNumber, .int v_now_rotorNumber, .ref a_now_signs, .ref a_now_rotors]))] H := hP
        have hD : va_D A [(a_this, .inr (6, [.ref a_tape, .ref a_now, .ref a_trial, .ref a_sights, .ref a_images, .ref a_sheets, .int v_readFault])), (a_now, .inr (0, [.int v_now_field, .int v_now_tick, .int x1, .int v_now_signNumber, .int v_now_rotorNumber, .ref a_now_signs, .ref a_now_rotors]))] := hD
        refine lv_iload_n C.1 C.2.1 dX6_every_29 rfl (lv_at hl 0 rfl) ?_
        have hF := Option.some.inj hF
        subst hF
        exact retI C hr hlk hP hD hS dX6_every_30
      · have hF := fn hF c2
        refine lv_iconst (v := (-1)) C.1 C.2.1 dX6_every_11 (by decide) ?_
        have hF := Option.some.inj hF
        subst hF
        exact retI C hr hlk hP hD hS dX6_every_12)
theorem c_X6_every {l : Launch} {D : va_G} {cI cB cZ cR cM cS : ClassId} {a_this : Nat} {a_tape : Nat} {a_now : Nat} {a_trial : Nat} {a_sights : Nat} {a_images : Nat} {a_sheets : Nat} {a_now_signs : Nat} {a_now_rotors : Nat} {v_readFault : Int32} {v_now_field : Int32} {v_now_tick : Int32} {v_now_pace : Int32} {v_now_signNumber : Int32} {v_now_rotorNumber : Int32} {x1 : Int32} {r_ : Int32} {v_now_pace' : Int32} (hF : F_X6_every v_now_pace x1 = some (r_, v_now_pace')) : MI l yX6_every cX6_every 3 .int rm_X6_every D (TS cI cB cZ cR cM cS) [.ref a_this, .int x1] [(a_this, .inr (6, [.ref a_tape, .ref a_now, .ref a_trial, .ref a_sights, .ref a_images, .ref a_sheets, .int v_readFault])), (a_now, .inr (0, [.int v_now_field, .int v_now_tick, .int v_now_pace, .int v_now_signNumber, .int v_now_rotorNumber, .ref a_now_signs, .ref a_now_rotors]))] [(a_this, .inr (6, [.ref a_tape, .ref a_now, .ref a_trial, .ref a_sights, .ref a_images, .ref a_sheets, .int v_readFault])), (a_now, .inr (0, [.int v_now_field, .int v_now_tick, .int v_now_pace', .int v_now_signNumber, .int v_now_rotorNumber, .ref a_now_signs, .ref a_now_rotors]))] r_ :=
  c0_X6_every (res := (r_, v_now_pace')) hF
def rm_X6_add : Room := { frames := 1, cells := 0, slots := 0, locals := 21 }
theorem cv_X6_add : CV yX6_add cX6_add 2 (some .int) rm_X6_add RX6 1 := ⟨kw2_208, kw2_209, kw1_1, kw2_210, by decide +kernel, rfl, rfl⟩
set_option maxHeartbeats 4000000 in
set_option maxRecDepth 100000 in
theorem c0_X6_add {l : Launch} {D : va_G} {cI cB cZ cR cM cS : ClassId} {a_this : Nat} {a_tape : Nat} {a_now : Nat} {a_trial : Nat} {a_sights : Nat} {a_images : Nat} {a_sheets : Nat} {a_now_signs : Nat} {a_now_rotors : Nat} {v_readFault : Int32} {v_now_field : Int32} {v_now_tick : Int32} {v_now_pace : Int32} {v_now_signNumber : Int32} {v_now_rotorNumber : Int32} {v_now_signs : Nat → Int32} {x1 : Int32} {res : Int32 × Int32 × (Nat → Int32)} (hF : F_X6_add v_now_signNumber v_now_signs x1 = some res) : MI l yX6_add cX6_add 2 .int rm_X6_add D (TS cI cB cZ cR cM cS) [.ref a_this, .int x1] [(a_this, .inr (6, [.ref a_tape, .ref a_now, .ref a_trial, .ref a_sights, .ref a_images, .ref a_sheets, .int v_readFault])), (a_now, .inr (0, [.int v_now_field, .int v_now_tick, .int v_now_pace, .int v_now_signNumber, .int v_now_rotorNumber, .ref a_now_signs, .ref a_now_rotors])), (a_now_signs, .inl (cI, 16, .inl v_now_signs))] [(a_this, .inr (6, [.ref a_tape, .ref a_now, .ref a_trial, .ref a_sights, .ref a_images, .ref a_sheets, .int v_readFault])), (a_now, .inr (0, [.int v_now_field, .int v_now_tick, .int v_now_pace, .int res.2.1, .int v_now_rotorNumber, .ref a_now_signs, .ref a_now_rotors])), (a_now_signs, .inl (cI, 16, .inl res.2.2))] res.1 :=
  MI_of (by decide) (Nat.le_of_ble_eq_true rfl) (fun p e s m args below meth c A ls C hr hlk hK hA hP hD hS hl => by
    have C : CX p m c cX6_add 2 s args RX6 := C
    have hl : lv_has ls 2 [(0, .ref a_this), (1, .int x1)] := hl
    unfold F_X6_add at hF
    refine lv_iload_n C.1 C.2.1 dX6_add_0 rfl (lv_at hl 1 rfl) ?_
    refine lv_iconst (v := 3) C.1 C.2.1 dX6_add_1 (by decide) ?_
    obtain ⟨r1, h2, hF⟩ := fb hF
    refine callSI C hK hA hP hD hS (c_X6_within  h2) cs_X6_within kw1_227 ⟨Nat.le_of_ble_eq_true rfl, Nat.le_of_ble_eq_true rfl⟩ ⟨Nat.zero_le _, Nat.zero_le _⟩ hl.1 rfl (Nat.le_of_ble_eq_true rfl) dX6_add_2 (fun H locs hP hD hS => ?_)
    refine lv_if_ne (tgt := 10) C.1 C.2.1 dX6_add_5 (by decide) (fun c3 => ?_) (fun c3 => ?_)
    · have hF := fn hF c3
      refine lv_aload_n C.1 C.2.1 dX6_add_10 rfl (lv_at hl 0 rfl) ?_
      refine gf_6_6_now C hK hP 0 rfl rfl dX6_add_11 ?_
      refine lv_iload_n C.1 C.2.1 dX6_add_14 rfl (lv_at hl 1 rfl) ?_
      obtain ⟨⟨r4, w5, w6⟩, h7, hF⟩ := fb hF
      refine callVI C hK hA hP hD hS [1, 2] (c_X0_addSign (a_this := a_now) (a_signs := a_now_signs) (a_rotors := a_now_rotors) (v_field := v_now_field) (v_tick := v_now_tick) (v_pace := v_now_pace) (v_signNumber := v_now_signNumber) (v_rotorNumber := v_now_rotorNumber) (v_signs := v_now_signs) h7) cv_X0_addSign kw2_211 rfl (by decide) rfl rfl rfl ⟨Nat.le_of_ble_eq_true rfl, Nat.le_of_ble_eq_true rfl⟩ ⟨Nat.zero_le _, Nat.zero_le _⟩ hl.1 rfl (Nat.le_of_ble_eq_true rfl) dX6_add_15 (fun H locs hP hD hS => ?_)
      have hP : va_P D vwCl [(a_this, .inr (6, [.ref a_tape, .ref a_now, .ref a_trial, .ref a_sights, .ref a_images, .ref a_sheets, .int v_readFault])), (a_now, .inr (0, [.int v_now_field, .int v_now_tick, .int v_now_pace, .int w5, .int v_now_rotorNumber, .ref a_now_signs, .ref a_now_rotors])), (a_now_signs, .inl (cI, 16, .inl w6))] H := hP
      have hD : va_D A [(a_this, .inr (6, [.ref a_tape, .ref a_now, .ref a_trial, .ref a_sights, .ref a_images, .ref a_sheets, .int v_readFault])), (a_now, .inr (0, [.int v_now_field, .int v_now_tick, .int v_now_pace, .int w5, .int v_now_rotorNumber, .ref a_now_signs, .ref a_now_rotors])), (a_now_signs, .inl (cI, 16, .inl w6))] := hD
      refine lv_if_eq (tgt := 31) C.1 C.2.1 dX6_add_18 (by decide) (fun c8 => ?_) (fun c8 => ?_)
      · have hF := fp hF c8
        refine lv_bipush (v := (-3)) C.1 C.2.1 dX6_add_31 (by decide) ?_
        have hF := Option.some.inj hF
        subst hF
        exact retI C hr hlk hP hD hS dX6_add_33
      · have hF := fn hF c8
        refine lv_aload_n C.1 C.2.1 dX6_add_21 rfl (lv_at hl 0 rfl) ?_
        refine gf_6_6_now C hK hP 0 rfl rfl dX6_add_22 ?_
        refine gf_6_0_signNumber C hK hP 1 rfl rfl dX6_add_25 ?_
        refine lv_goto (tgt := 33) C.1 C.2.1 dX6_add_28 (by decide) ?_
        have hF := Option.some.inj hF
        subst hF
        exact retI C hr hlk hP hD hS dX6_add_33
    · have hF := fp hF c3
      refine lv_iconst (v := (-1)) C.1 C.2.1 dX6_add_8 (by decide) ?_
      have hF := Option.some.inj hF
      subst hF
      exact retI C hr hlk hP hD hS dX6_add_9)
theorem c_X6_add {l : Launch} {D : va_G} {cI cB cZ cR cM cS : ClassId} {a_this : Nat} {a_tape : Nat} {a_now : Nat} {a_trial : Nat} {a_sights : Nat} {a_images : Nat} {a_sheets : Nat} {a_now_signs : Nat} {a_now_rotors : Nat} {v_readFault : Int32} {v_now_field : Int32} {v_now_tick : Int32} {v_now_pace : Int32} {v_now_signNumber : Int32} {v_now_rotorNumber : Int32} {v_now_signs : Nat → Int32} {x1 : Int32} {r_ : Int32} {v_now_signNumber' : Int32} {v_now_signs' : Nat → Int32} (hF : F_X6_add v_now_signNumber v_now_signs x1 = some (r_, v_now_signNumber', v_now_signs')) : MI l yX6_add cX6_add 2 .int rm_X6_add D (TS cI cB cZ cR cM cS) [.ref a_this, .int x1] [(a_this, .inr (6, [.ref a_tape, .ref a_now, .ref a_trial, .ref a_sights, .ref a_images, .ref a_sheets, .int v_readFault])), (a_now, .inr (0, [.int v_now_field, .int v_now_tick, .int v_now_pace, .int v_now_signNumber, .int v_now_rotorNumber, .ref a_now_signs, .ref a_now_rotors])), (a_now_signs, .inl (cI, 16, .inl v_now_signs))] [(a_this, .inr (6, [.ref a_tape, .ref a_now, .ref a_trial, .ref a_sights, .ref a_images, .ref a_sheets, .int v_readFault])), (a_now, .inr (0, [.int v_now_field, .int v_now_tick, .int v_now_pace, .int v_now_signNumber', .int v_now_rotorNumber, .ref a_now_signs, .ref a_now_rotors])), (a_now_signs, .inl (cI, 16, .inl v_now_signs'))] r_ :=
  c0_X6_add (res := (r_, v_now_signNumber', v_now_signs')) hF
