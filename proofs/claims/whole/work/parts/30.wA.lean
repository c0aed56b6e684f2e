def rm_X0_clear : Room := { frames := 0, cells := 0, slots := 0, locals := 0 }
theorem cv_X0_clear : CV yX0_clear cX0_clear 1 none rm_X0_clear RX0 0 := ⟨kw2_3, kw2_4, kw1_3, kw2_5, by decide +kernel, rfl, rfl⟩
set_option maxHeartbeats 4000000 in
set_option maxRecDepth 100000 in
theorem c0_X0_clear {l : Launch} {D : va_G} {cI cB cZ cR cM cS : ClassId} {a_this : Nat} {a_signs : Nat} {a_rotors : Nat} {v_field : Int32} {v_tick : Int32} {v_pace : Int32} {v_signNumber : Int32} {v_rotorNumber : Int32} {res : Int32 × Int32 × Int32 × Int32 × Int32} (hF : F_X0_clear v_field v_tick v_pace v_signNumber v_rotorNumber = some res) : MV l yX0_clear cX0_clear 1 rm_X0_clear D (TS cI cB cZ cR cM cS) [.ref a_this] [(a_this, .inr (0, [.int v_field, .int v_tick, .int v_pace, .int v_signNumber, .int v_rotorNumber, .ref a_signs, .ref a_rotors]))] [(a_this, .inr (0, [.int res.1, .int res.2.1, .int res.2.2.1, .int res.2.2.2.1, .int res.2.2.2.2, .ref a_signs, .ref a_rotors]))] :=
  MV_of (by decide) (Nat.le_of_ble_eq_true rfl) (fun p e s m args below meth c A ls C hr hlk hK hA hP hD hS hl => by
    have C : CX p m c cX0_clear 1 s args RX0 := C
    have hl : lv_has ls 1 [(0, .ref a_this)] := hl
    unfold F_X0_clear at hF
    refine lv_aload_n C.1 C.2.1 dX0_clear_0 rfl (lv_at hl 0 rfl) ?_
    refine lv_iconst (v := 0) C.1 C.2.1 dX0_clear_1 (by decide) ?_
    refine pf_0_0_field C hK hP hD hS 0 rfl rfl dX0_clear_2 (fun H locs hP hD hS => ?_)
    have hP : va_P D vwCl [(a_this, .inr (0, [.int (0 : Int32), .int v_tick, .int v_pace, .int v_signNumber, .int v_rotorNumber, .ref a_signs, .ref a_rotors]))] H := hP
    have hD : va_D A [(a_this, .inr (0, [.int (0 : Int32), .int v_tick, .int v_pace, .int v_signNumber, .int v_rotorNumber, .ref a_signs, .ref a_rotors]))] := hD
    refine lv_aload_n C.1 C.2.1 dX0_clear_5 rfl (lv_at hl 0 rfl) ?_
    refine lv_iconst (v := 0) C.1 C.2.1 dX0_clear_6 (by decide) ?_
    refine pf_0_0_tick C hK hP hD hS 0 rfl rfl dX0_clear_7 (fun H locs hP hD hS => ?_)
    have hP : va_P D vwCl [(a_this, .inr (0, [.int (0 : Int32), .int (0 : Int32), .int v_pace, .int v_signNumber, .int v_rotorNumber, .ref a_signs, .ref a_rotors]))] H := hP
    have hD : va_D A [(a_this, .inr (0, [.int (0 : Int32), .int (0 : Int32), .int v_pace, .int v_signNumber, .int v_rotorNumber, .ref a_signs, .ref a_rotors]))] := hD
    refine lv_aload_n C.1 C.2.1 dX0_clear_10 rfl (lv_at hl 0 rfl) ?_
    refine lv_iconst (v := 1) C.1 C.2.1 dX0_clear_11 (by decide) ?_
    refine pf_0_0_pace C hK hP hD hS 0 rfl rfl dX0_clear_12 (fun H locs hP hD hS => ?_)
    have hP : va_P D vwCl [(a_this, .inr (0, [.int (0 : Int32), .int (0 : Int32), .int (1 : Int32), .int v_signNumber, .int v_rotorNumber, .ref a_signs, .ref a_rotors]))] H := hP
    have hD : va_D A [(a_this, .inr (0, [.int (0 : Int32), .int (0 : Int32), .int (1 : Int32), .int v_signNumber, .int v_rotorNumber, .ref a_signs, .ref a_rotors]))] := hD
    refine lv_aload_n C.1 C.2.1 dX0_clear_15 rfl (lv_at hl 0 rfl) ?_
    refine lv_iconst (v := 0) C.1 C.2.1 dX0_clear_16 (by decide) ?_
    refine pf_0_0_signNumber C hK hP hD hS 0 rfl rfl dX0_clear_17 (fun H locs hP hD hS => ?_)
    have hP : va_P D vwCl [(a_this, .inr (0, [.int (0 : Int32), .int (0 : Int32), .int (1 : Int32), .int (0 : Int32), .int v_rotorNumber, .ref a_signs, .ref a_rotors]))] H := hP
    have hD : va_D A [(a_this, .inr (0, [.int (0 : Int32), .int (0 : Int32), .int (1 : Int32), .int (0 : Int32), .int v_rotorNumber, .ref a_signs, .ref a_rotors]))] := hD
    refine lv_aload_n C.1 C.2.1 dX0_clear_20 rfl (lv_at hl 0 rfl) ?_
    refine lv_iconst (v := 0) C.1 C.2.1 dX0_clear_21 (by decide) ?_
    refine pf_0_0_rotorNumber C hK hP hD hS 0 rfl rfl dX0_clear_22 (fun H locs hP hD hS => ?_)
    have hP : va_P D vwCl [(a_this, .inr (0, [.int (0 : Int32), .int (0 : Int32), .int (1 : Int32), .int (0 : Int32), .int (0 : Int32), .ref a_signs, .ref a_rotors]))] H := hP
    have hD : va_D A [(a_this, .inr (0, [.int (0 : Int32), .int (0 : Int32), .int (1 : Int32), .int (0 : Int32), .int (0 : Int32), .ref a_signs, .ref a_rotors]))] := hD
    have hF := Option.some.inj hF
    subst hF
    exact retV C hr hlk hP hD hS dX0_clear_25)
theorem c_X0_clear {l : Launch} {D : va_G} {cI cB cZ cR cM cS : ClassId} {a_this : Nat} {a_signs : Nat} {a_rotors : Nat} {v_field : Int32} {v_tick : Int32} {v_pace : Int32} {v_signNumber : Int32} {v_rotorNumber : Int32} {v_field' : Int32} {v_tick' : Int32} {v_pace' : Int32} {v_signNumber' : Int32} {v_rotorNumber' : Int32} (hF : F_X0_clear v_field v_tick v_pace v_signNumber v_rotorNumber = some (v_field', v_tick', v_pace', v_signNumber', v_rotorNumber')) : MV l yX0_clear cX0_clear 1 rm_X0_clear D (TS cI cB cZ cR cM cS) [.ref a_this] [(a_this, .inr (0, [.int v_field, .int v_tick, .int v_pace, .int v_signNumber, .int v_rotorNumber, .ref a_signs, .ref a_rotors]))] [(a_this, .inr (0, [.int v_field', .int v_tick', .int v_pace', .int v_signNumber', .int v_rotorNumber', .ref a_signs, .ref a_rotors]))] :=
  c0_X0_clear (res := (v_field', v_tick', v_pace', v_signNumber', v_rotorNumber')) hF
def rm_X0_addSign : Room := { frames := 0, cells := 0, slots := 0, locals := 0 }
theorem cv_X0_addSign : CV yX0_addSign cX0_addSign 2 (some .boolean) rm_X0_addSign RX0 1 := ⟨kw2_116, kw2_117, kw1_3, kw2_118, by decide +kernel, rfl, rfl⟩
set_option maxHeartbeats 4000000 in
set_option maxRecDepth 100000 in
theorem c0_X0_addSign {l : Launch} {D : va_G} {cI cB cZ cR cM cS : ClassId} {a_this : Nat} {a_signs : Nat} {a_rotors : Nat} {v_field : Int32} {v_tick : Int32} {v_pace : Int32} {v_signNumber : Int32} {v_rotorNumber : Int32} {v_signs : Nat → Int32} {x1 : Int32} {res : Int32 × Int32 × (Nat → Int32)} (hF : F_X0_addSign v_signNumber v_signs x1 = some res) : MI l yX0_addSign cX0_addSign 2 .boolean rm_X0_addSign D (TS cI cB cZ cR cM cS) [.ref a_this, .int x1] [(a_this, .inr (0, [.int v_field, .int v_tick, .int v_pace, .int v_signNumber, .int v_rotorNumber, .ref a_signs, .ref a_rotors])), (a_signs, .inl (cI, 16, .inl v_signs))] [(a_this, .inr (0, [.int v_field, .int v_tick, .int v_pace, .int res.2.1, .int v_rotorNumber, .ref a_signs, .ref a_rotors])), (a_signs, .inl (cI, 16, .inl res.2.2))] res.1 :=
  MI_of (by decide) (Nat.le_of_ble_eq_true rfl) (fun p e s m args below meth c A ls C hr hlk hK hA hP hD hS hl => by
    have C : CX p m c cX0_addSign 2 s args RX0 := C
    have hl : lv_has ls 2 [(0, .ref a_this), (1, .int x1)] := hl
    unfold F_X0_addSign at hF
    refine lv_aload_n C.1 C.2.1 dX0_addSign_0 rfl (lv_at hl 0 rfl) ?_
    refine gf_0_0_signNumber C hK hP 0 rfl rfl dX0_addSign_1 ?_
    refine lv_bipush (v := 16) C.1 C.2.1 dX0_addSign_4 (by decide) ?_
    refine lv_icmp_lt (tgt := 11) C.1 C.2.1 dX0_addSign_6 (by decide) (fun c1 => ?_) (fun c1 => ?_)
    · have hF := fp hF c1
      refine lv_aload_n C.1 C.2.1 dX0_addSign_11 rfl (lv_at hl 0 rfl) ?_
      refine gf_0_0_signs C hK hP 0 rfl rfl dX0_addSign_12 ?_
      refine lv_aload_n C.1 C.2.1 dX0_addSign_15 rfl (lv_at hl 0 rfl) ?_
      refine gf_0_0_signNumber C hK hP 0 rfl rfl dX0_addSign_16 ?_
      refine lv_iload_n C.1 C.2.1 dX0_addSign_19 rfl (lv_at hl 1 rfl) ?_
      obtain ⟨h2, hF⟩ := fk hF
      refine va_iast C.1 C.2.1 hK.1 hP hD hS 1 0 rfl rfl h2 dX0_addSign_20 (fun H locs hP hD hS => ?_)
      have hP : va_P D vwCl [(a_this, .inr (0, [.int v_field, .int v_tick, .int v_pace, .int v_signNumber, .int v_rotorNumber, .ref a_signs, .ref a_rotors])), (a_signs, .inl (cI, 16, .inl (upd v_signs v_signNumber.toNatClampNeg x1)))] H := hP
      have hD : va_D A [(a_this, .inr (0, [.int v_field, .int v_tick, .int v_pace, .int v_signNumber, .int v_rotorNumber, .ref a_signs, .ref a_rotors])), (a_signs, .inl (cI, 16, .inl (upd v_signs v_signNumber.toNatClampNeg x1)))] := hD
      refine lv_aload_n C.1 C.2.1 dX0_addSign_21 rfl (lv_at hl 0 rfl) ?_
      refine lv_dup C.1 C.2.1 dX0_addSign_22 rfl ?_
      refine gf_0_0_signNumber C hK hP 0 rfl rfl dX0_addSign_23 ?_
      refine lv_iconst (v := 1) C.1 C.2.1 dX0_addSign_26 (by decide) ?_
      refine lv_iadd C.1 C.2.1 dX0_addSign_27 ?_
      refine pf_0_0_signNumber C hK hP hD hS 0 rfl rfl dX0_addSign_28 (fun H locs hP hD hS => ?_)
      have hP : va_P D vwCl [(a_this, .inr (0, [.int v_field, .int v_tick, .int v_pace, .int (v_signNumber + (1 : Int32)), .int v_rotorNumber, .ref a_signs, .ref a_rotors])), (a_signs, .inl (cI, 16, .inl (upd v_signs v_signNumber.toNatClampNeg x1)))] H := hP
      have hD : va_D A [(a_this, .inr (0, [.int v_field, .int v_tick, .int v_pace, .int (v_signNumber + (1 : Int32)), .int v_rotorNumber, .ref a_signs, .ref a_rotors])), (a_signs, .inl (cI, 16, .inl (upd v_signs v_signNumber.toNatClampNeg x1)))] := hD
      refine lv_iconst (v := 1) C.1 C.2.1 dX0_addSign_31 (by decide) ?_
      have hF := Option.some.inj hF
      subst hF
      exact retZ (v := 1) C hr hlk (by decide) hP hD hS dX0_addSign_32
    · have hF := fn hF c1
      refine lv_iconst (v := 0) C.1 C.2.1 dX0_addSign_9 (by decide) ?_
      have hF := Option.some.inj hF
      subst hF
      exact retZ (v := 0) C hr hlk (by decide) hP hD hS dX0_addSign_10)
theorem c_X0_addSign {l : Launch} {D : va_G} {cI cB cZ cR cM cS : ClassId} {a_this : Nat} {a_signs : Nat} {a_rotors : Nat} {v_field : Int32} {v_tick : Int32} {v_pace : Int32} {v_signNumber : Int32} {v_rotorNumber : Int32} {v_signs : Nat → Int32} {x1 : Int32} {r_ : Int32} {v_signNumber' : Int32} {v_signs' : Nat → Int32} (hF : F_X0_addSign v_signNumber v_signs x1 = some (r_, v_signNumber', v_signs')) : MI l yX0_addSign cX0_addSign 2 .boolean rm_X0_addSign D (TS cI cB cZ cR cM cS) [.ref a_this, .int x1] [(a_this, .inr (0, [.int v_field, .int v_tick, .int v_pace, .int v_signNumber, .int v_rotorNumber, .ref a_signs, .ref a_rotors])), (a_signs, .inl (cI, 16, .inl v_signs))] [(a_this, .inr (0, [.int v_field, .int v_tick, .int v_pace, .int v_signNumber', .int v_rotorNumber, .ref a_signs, .ref a_rotors])), (a_signs, .inl (cI, 16, .inl v_signs'))] r_ :=
  c0_X0_addSign (res := (r_, v_signNumber', v_signs')) hF
def rm_X2_become : Room := { frames := 0, cells := 0, slots := 0, locals := 0 }
theorem cv_X2_become : CV yX2_become cX2_become 4 none rm_X2_become RX2 3 := ⟨kw2_103, kw2_104, kw1_4, kw2_105, by decide +kernel, rfl, rfl⟩
set_option maxHeartbeats 4000000 in
set_option maxRecDepth 100000 in
theorem c0_X2_become {l : Launch} {D : va_G} {cI cB cZ cR cM cS : ClassId} {a_this : Nat} {v_sort : Int32} {v_grip : Int32} {v_place : Int32} {v_way : Int32} {x1 : Int32} {x2 : Int32} {x3 : Int32} {res : Int32 × Int32 × Int32 × Int32} (hF : F_X2_become v_sort v_grip v_place v_way x1 x2 x3 = some res) : MV l yX2_become cX2_become 4 rm_X2_become D (TS cI cB cZ cR cM cS) [.ref a_this, .int x1, .int x2, .int x3] [(a_this, .inr (2, [.int v_sort, .int v_grip, .int v_place, .int v_way]))] [(a_this, .inr (2, [.int res.1, .int res.2.1, .int res.2.2.1, .int res.2.2.2]))] :=
  MV_of (by decide) (Nat.le_of_ble_eq_true rfl) (fun p e s m args below meth c A ls C hr hlk hK hA hP hD hS hl => by
    have C : CX p m c cX2_become 4 s args RX2 := C
    have hl : lv_has ls 4 [(0, .ref a_this), (1, .int x1), (2, .int x2), (3, .int x3)] := hl
    unfold F_X2_become at hF
    refine lv_aload_n C.1 C.2.1 dX2_become_0 rfl (lv_at hl 0 rfl) ?_
    refine lv_iload_n C.1 C.2.1 dX2_become_1 rfl (lv_at hl 1 rfl) ?_
    refine pf_2_2_sort C hK hP hD hS 0 rfl rfl dX2_become_2 (fun H locs hP hD hS => ?_)
    have hP : va_P D vwCl [(a_this, .inr (2, [.int x1, .int v_grip, .int v_place, .int v_way]))] H := hP
    have hD : va_D A [(a_this, .inr (2, [.int x1, .int v_grip, .int v_place, .int v_way]))] := hD
    refine lv_aload_n C.1 C.2.1 dX2_become_5 rfl (lv_at hl 0 rfl) ?_
    refine lv_iload_n C.1 C.2.1 dX2_become_6 rfl (lv_at hl 2 rfl) ?_
    refine pf_2_2_grip C hK hP hD hS 0 rfl rfl dX2_become_7 (fun H locs hP hD hS => ?_)
    have hP : va_P D vwCl [(a_this, .inr (2, [.int x1, .int x2, .int v_place, .int v_way]))] H := hP
    have hD : va_D A [(a_this, .inr (2, [.int x1, .int x2, .int v_place, .int v_way]))] := hD
    refine lv_aload_n C.1 C.2.1 dX2_become_10 rfl (lv_at hl 0 rfl) ?_
    refine lv_iload_n C.1 C.2.1 dX2_become_11 rfl (lv_at hl 3 rfl) ?_
    refine pf_2_2_place C hK hP hD hS 0 rfl rfl dX2_become_12 (fun H locs hP hD hS => ?_)
    have hP : va_P D vwCl [(a_this, .inr (2, [.int x1, .int x2, .int x3, .int v_way]))] H := hP
    have hD : va_D A [(a_this, .inr (2, [.int x1, .int x2, .int x3, .int v_way]))] := hD
    refine lv_aload_n C.1 C.2.1 dX2_become_15 rfl (lv_at hl 0 rfl) ?_
    refine lv_iconst (v := 0) C.1 C.2.1 dX2_become_16 (by decide) ?_
    refine pf_2_2_way C hK hP hD hS 0 rfl rfl dX2_become_17 (fun H locs hP hD hS => ?_)
    have hP : va_P D vwCl [(a_this, .inr (2, [.int x1, .int x2, .int x3, .int (0 : Int32)]))] H := hP
    have hD : va_D A [(a_this, .inr (2, [.int x1, .int x2, .int x3, .int (0 : Int32)]))] := hD
    have hF := Option.some.inj hF
    subst hF
    exact retV C hr hlk hP hD hS dX2_become_20)
theorem c_X2_become {l : Launch} {D : va_G} {cI cB cZ cR cM cS : ClassId} {a_this : Nat} {v_sort : Int32} {v_grip : Int32} {v_place : Int32} {v_way : Int32} {x1 : Int32} {x2 : Int32} {x3 : Int32} {v_sort' : Int32} {v_grip' : Int32} {v_place' : Int32} {v_way' : Int32} (hF : F_X2_become v_sort v_grip v_place v_way x1 x2 x3 = some (v_sort', v_grip', v_place', v_way')) : MV l yX2_become cX2_become 4 rm_X2_become D (TS cI cB cZ cR cM cS) [.ref a_this, .int x1, .int x2, .int x3] [(a_this, .inr (2, [.int v_sort, .int v_grip, .int v_place, .int v_way]))] [(a_this, .inr (2, [.int v_sort', .int v_grip', .int v_place', .int v_way']))] :=
  c0_X2_become (res := (v_sort', v_grip', v_place', v_way')) hF
def rm_X0_addRotor : Room := { frames := 1, cells := 0, slots := 0, locals := 23 }
theorem cv_X0_addRotor : CV yX0_addRotor cX0_addRotor 4 none rm_X0_addRotor RX0 3 := ⟨kw2_99, kw2_100, kw1_3, kw2_101, by decide +kernel, rfl, rfl⟩
set_option maxHeartbeats 4000000 in
set_option maxRecDepth 100000 in
theorem c0_X0_addRotor {l : Launch} {D : va_G} {cI cB cZ cR cM cS : ClassId} {a_this : Nat} {a_signs : Nat} {a_rotors : Nat} {a_rotors_e : Nat → Nat} {v_field : Int32} {v_tick : Int32} {v_pace : Int32} {v_signNumber : Int32} {v_rotorNumber : Int32} {v_rotorsF : Nat → Rot} {x1 : Int32} {x2 : Int32} {x3 : Int32} {res : Int32 × (Nat → Rot)} (hF : F_X0_addRotor v_rotorNumber v_rotorsF x1 x2 x3 = some res) : MV l yX0_addRotor cX0_addRotor 4 rm_X0_addRotor D (TS cI cB cZ cR cM cS) [.ref a_this, .int x1, .int x2, .int x3] [(a_this, .inr (0, [.int v_field, .int v_tick, .int v_pace, .int v_signNumber, .int v_rotorNumber, .ref a_signs, .ref a_rotors])), (a_rotors, rfn cR 4 a_rotors_e), rcell a_rotors_e v_rotorsF 0, rcell a_rotors_e v_rotorsF 1, rcell a_rotors_e v_rotorsF 2, rcell a_rotors_e v_rotorsF 3] [(a_this, .inr (0, [.int v_field, .int v_tick, .int v_pace, .int v_signNumber, .int res.1, .ref a_signs, .ref a_rotors])), (a_rotors, rfn cR 4 a_rotors_e), rcell a_rotors_e res.2 0, rcell a_rotors_e res.2 1, rcell a_rotors_e res.2 2, rcell a_rotors_e res.2 3] :=
  MV_of (by decide) (Nat.le_of_ble_eq_true rfl) (fun p e s m args below meth c A ls C hr hlk hK hA hP hD hS hl => by
    have C : CX p m c cX0_addRotor 4 s args RX0 := C
    have hl : lv_has ls 4 [(0, .ref a_this), (1, .int x1), (2, .int x2), (3, .int x3)] := hl
    unfold F_X0_addRotor at hF
    refine lv_aload_n C.1 C.2.1 dX0_addRotor_0 rfl (lv_at hl 0 rfl) ?_
    refine gf_0_0_rotorNumber C hK hP 0 rfl rfl dX0_addRotor_1 ?_
    refine lv_iconst (v := 4) C.1 C.2.1 dX0_addRotor_4 (by decide) ?_
    refine lv_icmp_ge (tgt := 33) C.1 C.2.1 dX0_addRotor_5 (by decide) (fun c1 => ?_) (fun c1 => ?_)
    · have hF := fp hF c1
      have hF := Option.some.inj hF
      subst hF
      exact retV C hr hlk hP hD hS dX0_addRotor_33
    · have hF := fn hF c1
      refine lv_aload_n C.1 C.2.1 dX0_addRotor_8 rfl (lv_at hl 0 rfl) ?_
      refine gf_0_0_rotors C hK hP 0 rfl rfl dX0_addRotor_9 ?_
      refine lv_aload_n C.1 C.2.1 dX0_addRotor_12 rfl (lv_at hl 0 rfl) ?_
      refine gf_0_0_rotorNumber C hK hP 0 rfl rfl dX0_addRotor_13 ?_
      obtain ⟨h2, hF⟩ := fk hF
      refine aldR C hK hP 1 3 rfl rfl h2 dX0_addRotor_16 ?_
      have hk3 : v_rotorNumber.toNatClampNeg < 4 := Nat.not_le.mp (fun q => h2 (Or.inr q))
      refine lv_iload_n C.1 C.2.1 dX0_addRotor_17 rfl (lv_at hl 1 rfl) ?_
      refine lv_iload_n C.1 C.2.1 dX0_addRotor_18 rfl (lv_at hl 2 rfl) ?_
      refine lv_iload_n C.1 C.2.1 dX0_addRotor_19 rfl (lv_at hl 3 rfl) ?_
      obtain ⟨⟨w4, w5, w6, w7⟩, h8, hF⟩ := fb hF
      refine callVV C hK hA hP hD hS [2 + v_rotorNumber.toNatClampNeg] (c_X2_become (a_this := a_rotors_e v_rotorNumber.toNatClampNeg) (v_sort := (v_rotorsF v_rotorNumber.toNatClampNeg).1) (v_grip := (v_rotorsF v_rotorNumber.toNatClampNeg).2.1) (v_place := (v_rotorsF v_rotorNumber.toNatClampNeg).2.2.1) (v_way := (v_rotorsF v_rotorNumber.toNatClampNeg).2.2.2) h8) cv_X2_become kw2_102 (congrArg (fun z => [z]) (famget 2 (rcell a_rotors_e v_rotorsF) rfl rfl rfl rfl hk3)) rfl rfl rfl rfl ⟨Nat.le_of_ble_eq_true rfl, Nat.le_of_ble_eq_true rfl⟩ ⟨Nat.zero_le _, Nat.zero_le _⟩ hl.1 rfl (Nat.le_of_ble_eq_true rfl) dX0_addRotor_20 (fun H locs hP hD hS => ?_)
      have hP := va_Pe (setL1.trans (famsetR (a := a_rotors_e) (ρ := v_rotorsF) 2 rfl rfl rfl rfl hk3 w4 w5 w6 w7)) hP
      have hD := va_De (setL1.trans (famsetR (a := a_rotors_e) (ρ := v_rotorsF) 2 rfl rfl rfl rfl hk3 w4 w5 w6 w7)) hD
      have hP : va_P D vwCl [(a_this, .inr (0, [.int v_field, .int v_tick, .int v_pace, .int v_signNumber, .int v_rotorNumber, .ref a_signs, .ref a_rotors])), (a_rotors, rfn cR 4 a_rotors_e), rcell a_rotors_e (up v_rotorsF v_rotorNumber.toNatClampNeg (w4, w5, w6, w7)) 0, rcell a_rotors_e (up v_rotorsF v_rotorNumber.toNatClampNeg (w4, w5, w6, w7)) 1, rcell a_rotors_e (up v_rotorsF v_rotorNumber.toNatClampNeg (w4, w5, w6, w7)) 2, rcell a_rotors_e (up v_rotorsF v_rotorNumber.toNatClampNeg (w4, w5, w6, w7)) 3] H := hP
      have hD : va_D A [(a_this, .inr (0, [.int v_field, .int v_tick, .int v_pace, .int v_signNumber, .int v_rotorNumber, .ref a_signs, .ref a_rotors])), (a_rotors, rfn cR 4 a_rotors_e), rcell a_rotors_e (up v_rotorsF v_rotorNumber.toNatClampNeg (w4, w5, w6, w7)) 0, rcell a_rotors_e (up v_rotorsF v_rotorNumber.toNatClampNeg (w4, w5, w6, w7)) 1, rcell a_rotors_e (up v_rotorsF v_rotorNumber.toNatClampNeg (w4, w5, w6, w7)) 2, rcell a_rotors_e (up v_rotorsF v_rotorNumber.toNatClampNeg (w4, w5, w6, w7)) 3] := hD
      refine lv_aload_n C.1 C.2.1 dX0_addRotor_23 rfl (lv_at hl 0 rfl) ?_
      refine lv_dup C.1 C.2.1 dX0_addRotor_24 rfl ?_
      refine gf_0_0_rotorNumber C hK hP 0 rfl rfl dX0_addRotor_25 ?_
      refine lv_iconst (v := 1) C.1 C.2.1 dX0_addRotor_28 (by decide) ?_
      refine lv_iadd C.1 C.2.1 dX0_addRotor_29 ?_
      refine pf_0_0_rotorNumber C hK hP hD hS 0 rfl rfl dX0_addRotor_30 (fun H locs hP hD hS => ?_)
      have hP : va_P D vwCl [(a_this, .inr (0, [.int v_field, .int v_tick, .int v_pace, .int v_signNumber, .int (v_rotorNumber + (1 : Int32)), .ref a_signs, .ref a_rotors])), (a_rotors, rfn cR 4 a_rotors_e), rcell a_rotors_e (up v_rotorsF v_rotorNumber.toNatClampNeg (w4, w5, w6, w7)) 0, rcell a_rotors_e (up v_rotorsF v_rotorNumber.toNatClampNeg (w4, w5, w6, w7)) 1, rcell a_rotors_e (up v_rotorsF v_rotorNumber.toNatClampNeg (w4, w5, w6, w7)) 2, rcell a_rotors_e (up v_rotorsF v_rotorNumber.toNatClampNeg (w4, w5, w6, w7)) 3] H := hP
      have hD : va_D A [(a_this, .inr (0, [.int v_field, .int v_tick, .int v_pace, .int v_signNumber, .int (v_rotorNumber + (1 : Int32)), .ref a_signs, .ref a_rotors])), (a_rotors, rfn cR 4 a_rotors_e), rcell a_rotors_e (up v_rotorsF v_rotorNumber.toNatClampNeg (w4, w5, w6, w7)) 0, rcell a_rotors_e (up v_rotorsF v_rotorNumber.toNatClampNeg (w4, w5, w6, w7)) 1, rcell a_rotors_e (up v_rotorsF v_rotorNumber.toNatClampNeg (w4, w5, w6, w7)) 2, rcell a_rotors_e (up v_rotorsF v_rotorNumber.toNatClampNeg (w4, w5, w6, w7)) 3] := hD
      have hF := Option.some.inj hF
      subst hF
      exact retV C hr hlk hP hD hS dX0_addRotor_33)
theorem c_X0_addRotor {l : Launch} {D : va_G} {cI cB cZ cR cM cS : ClassId} {a_this : Nat} {a_signs : Nat} {a_rotors : Nat} {a_rotors_e : Nat → Nat} {v_field : Int32} {v_tick : Int32} {v_pace : Int32} {v_signNumber : Int32} {v_rotorNumber : Int32} {v_rotorsF : Nat → Rot} {x1 : Int32} {x2 : Int32} {x3 : Int32} {v_rotorNumber' : Int32} {v_rotorsF' : Nat → Rot} (hF : F_X0_addRotor v_rotorNumber v_rotorsF x1 x2 x3 = some (v_rotorNumber', v_rotorsF')) : MV l yX0_addRotor cX0_addRotor 4 rm_X0_addRotor D (TS cI cB cZ cR cM cS) [.ref a_this, .int x1, .int x2, .int x3] [(a_this, .inr (0, [.int v_field, .int v_tick, .int v_pace, .int v_signNumber, .int v_rotorNumber, .ref a_signs, .ref a_rotors])), (a_rotors, rfn cR 4 a_rotors_e), rcell a_rotors_e v_rotorsF 0, rcell a_rotors_e v_rotorsF 1, rcell a_rotors_e v_rotorsF 2, rcell a_rotors_e v_rotorsF 3] [(a_this, .inr (0, [.int v_field, .int v_tick, .int v_pace, .int v_signNumber, .int v_rotorNumber', .ref a_signs, .ref a_rotors])), (a_rotors, rfn cR 4 a_rotors_e), rcell a_rotors_e v_rotorsF' 0, rcell a_rotors_e v_rotorsF' 1, rcell a_rotors_e v_rotorsF' 2, rcell a_rotors_e v_rotorsF' 3] :=
  c0_X0_addRotor (res := (v_rotorNumber', v_rotorsF')) hF
def rm_X2_copyFrom : Room := { frames := 0, cells := 0, slots := 0, locals := 0 }
theorem cv_X2_copyFrom : CV yX2_copyFrom cX2_copyFrom 2 none rm_X2_copyFrom RX2 1 := ⟨kw2_132, kw2_133, kw1_4, kw2_134, by decide +kernel, rfl, rfl⟩
set_option maxHeartbeats 4000000 in
set_option maxRecDepth 100000 in
theorem c0_X2_copyFrom {l : Launch} {D : va_G} {cI cB cZ cR cM cS : ClassId} {a_this : Nat} {a_o1 : Nat} {v_sort : Int32} {v_grip : Int32} {v_place : Int32} {v_way : Int32} {v_o1_sort : Int32} {v_o1_grip : Int32} {v_o1_place : Int32} {v_o1_way : Int32} {res : Int32 × Int32 × Int32 × Int32} (hF : F_X2_copyFrom v_sort v_grip v_place v_way v_o1_sort v_o1_grip v_o1_place v_o1_way = some res) : MV l yX2_copyFrom cX2_copyFrom 2 rm_X2_copyFrom D (TS cI cB cZ cR cM cS) [.ref a_this, .ref a_o1] [(a_this, .inr (2, [.int v_sort, .int v_grip, .int v_place, .int v_way])), (a_o1, .inr (2, [.int v_o1_sort, .int v_o1_grip, .int v_o1_place, .int v_o1_way]))] [(a_this, .inr (2, [.int res.1, .int res.2.1, .int res.2.2.1, .int res.2.2.2])), (a_o1, .inr (2, [.int v_o1_sort, .int v_o1_grip, .int v_o1_place, .int v_o1_way]))] :=
  MV_of (by decide) (Nat.le_of_ble_eq_true rfl) (fun p e s m args below meth c A ls C hr hlk hK hA hP hD hS hl => by
    have C : CX p m c cX2_copyFrom 2 s args RX2 := C
    have hl : lv_has ls 2 [(0, .ref a_this), (1, .ref a_o1)] := hl
    unfold F_X2_copyFrom at hF
    refine lv_aload_n C.1 C.2.1 dX2_copyFrom_0 rfl (lv_at hl 0 rfl) ?_
    refine lv_aload_n C.1 C.2.1 dX2_copyFrom_1 rfl (lv_at hl 1 rfl) ?_
    refine gf_2_2_sort C hK hP 1 rfl rfl dX2_copyFrom_2 ?_
    refine pf_2_2_sort C hK hP hD hS 0 rfl rfl dX2_copyFrom_5 (fun H locs hP hD hS => ?_)
    have hP : va_P D vwCl [(a_this, .inr (2, [.int v_o1_sort, .int v_grip, .int v_place, .int v_way])), (a_o1, .inr (2, [.int v_o1_sort, .int v_o1_grip, .int v_o1_place, .int v_o1_way]))] H := hP
    have hD : va_D A [(a_this, .inr (2, [.int v_o1_sort, .int v_grip, .int v_place, .int v_way])), (a_o1, .inr (2, [.int v_o1_sort, .int v_o1_grip, .int v_o1_place, .int v_o1_way]))] := hD
    refine lv_aload_n C.1 C.2.1 dX2_copyFrom_8 rfl (lv_at hl 0 rfl) ?_
    refine lv_aload_n C.1 C.2.1 dX2_copyFrom_9 rfl (lv_at hl 1 rfl) ?_
    refine gf_2_2_grip C hK hP 1 rfl rfl dX2_copyFrom_10 ?_
    refine pf_2_2_grip C hK hP hD hS 0 rfl rfl dX2_copyFrom_13 (fun H locs hP hD hS => ?_)
    have hP : va_P D vwCl [(a_this, .inr (2, [.int v_o1_sort, .int v_o1_grip, .int v_place, .int v_way])), (a_o1, .inr (2, [.int v_o1_sort, .int v_o1_grip, .int v_o1_place, .int v_o1_way]))] H := hP
    have hD : va_D A [(a_this, .inr (2, [.int v_o1_sort, .int v_o1_grip, .int v_place, .int v_way])), (a_o1, .inr (2, [.int v_o1_sort, .int v_o1_grip, .int v_o1_place, .int v_o1_way]))] := hD
    refine lv_aload_n C.1 C.2.1 dX2_copyFrom_16 rfl (lv_at hl 0 rfl) ?_
    refine lv_aload_n C.1 C.2.1 dX2_copyFrom_17 rfl (lv_at hl 1 rfl) ?_
    refine gf_2_2_place C hK hP 1 rfl rfl dX2_copyFrom_18 ?_
    refine pf_2_2_place C hK hP hD hS 0 rfl rfl dX2_copyFrom_21 (fun H locs hP hD hS => ?_)
    have hP : va_P D vwCl [(a_this, .inr (2, [.int v_o1_sort, .int v_o1_grip, .int v_o1_place, .int v_way])), (a_o1, .inr (2, [.int v_o1_sort, .int v_o1_grip, .int v_o1_place, .int v_o1_way]))] H := hP
    have hD : va_D A [(a_this, .inr (2, [.int v_o1_sort, .int v_o1_grip, .int v_o1_place, .int v_way])), (a_o1, .inr (2, [.int v_o1_sort, .int v_o1_grip, .int v_o1_place, .int v_o1_way]))] := hD
    refine lv_aload_n C.1 C.2.1 dX2_copyFrom_24 rfl (lv_at hl 0 rfl) ?_
    refine lv_aload_n C.1 C.2.1 dX2_copyFrom_25 rfl (lv_at hl 1 rfl) ?_
    refine gf_2_2_way C hK hP 1 rfl rfl dX2_copyFrom_26 ?_
    refine pf_2_2_way C hK hP hD hS 0 rfl rfl dX2_copyFrom_29 (fun H locs hP hD hS => ?_)
    have hP : va_P D vwCl [(a_this, .inr (2, [.int v_o1_sort, .int v_o1_grip, .int v_o1_place, .int v_o1_way])), (a_o1, .inr (2, [.int v_o1_sort, .int v_o1_grip, .int v_o1_place, .int v_o1_way]))] H := hP
    have hD : va_D A [(a_this, .inr (2, [.int v_o1_sort, .int v_o1_grip, .int v_o1_place, .int v_o1_way])), (a_o1, .inr (2, [.int v_o1_sort, .int v_o1_grip, .int v_o1_place, .int v_o1_way]))] := hD
    have hF := Option.some.inj hF
    subst hF
    exact retV C hr hlk hP hD hS dX2_copyFrom_32)
theorem c_X2_copyFrom {l : Launch} {D : va_G} {cI cB cZ cR cM cS : ClassId} {a_this : Nat} {a_o1 : Nat} {v_sort : Int32} {v_grip : Int32} {v_place : Int32} {v_way : Int32} {v_o1_sort : Int32} {v_o1_grip : Int32} {v_o1_place : Int32} {v_o1_way : Int32} {v_sort' : Int32} {v_grip' : Int32} {v_place' : Int32} {v_way' : Int32} (hF : F_X2_copyFrom v_sort v_grip v_place v_way v_o1_sort v_o1_grip v_o1_place v_o1_way = some (v_sort', v_grip', v_place', v_way')) : MV l yX2_copyFrom cX2_copyFrom 2 rm_X2_copyFrom D (TS cI cB cZ cR cM cS) [.ref a_this, .ref a_o1] [(a_this, .inr (2, [.int v_sort, .int v_grip, .int v_place, .int v_way])), (a_o1, .inr (2, [.int v_o1_sort, .int v_o1_grip, .int v_o1_place, .int v_o1_way]))] [(a_this, .inr (2, [.int v_sort', .int v_grip', .int v_place', .int v_way'])), (a_o1, .inr (2, [.int v_o1_sort, .int v_o1_grip, .int v_o1_place, .int v_o1_way]))] :=
  c0_X2_copyFrom (res := (v_sort', v_grip', v_place', v_way')) hF
def rm_X0_copyFrom : Room := { frames := 1, cells := 0, slots := 0, locals := 60 }
theorem cv_X0_copyFrom : CV yX0_copyFrom cX0_copyFrom 3 none rm_X0_copyFrom RX0 1 := ⟨kw2_125, kw2_126, kw1_3, kw2_127, by decide +kernel, rfl, rfl⟩
set_option maxHeartbeats 4000000 in
set_option maxRecDepth 100000 in
theorem b_X0_copyFrom_57 {l : Launch} {D : va_G} {cI cB cZ cR cM cS : ClassId} {a_this : Nat} {a_signs : Nat} {a_rotors : Nat} {a_rotors_e : Nat → Nat} {a_o1 : Nat} {a_o1_signs : Nat} {a_o1_rotors : Nat} {a_o1_rotors_e : Nat → Nat} {p : Program} {e : Env} {s : State} {m : MethodId} {args : Array Value} {below : List Frame} {meth : Method} {c : Code} {A : Nat → Prop} {res : Int32 × Int32 × Int32 × Int32 × Int32 × (Nat → Int32) × (Nat → Rot)} (C : CX p m c cX0_copyFrom 3 s args RX0) (hr : meth.sig.returnType = none) (hlk : meth.locks = false) (hK : KK D (TS cI cB cZ cR cM cS) s) (hA : ∀ q, s.heap.size ≤ q → A q) : ∀ (fu : Nat) (v_field : Int32) (v_tick : Int32) (v_pace : Int32) (v_signNumber : Int32) (v_rotorNumber : Int32) (v_signs : Nat → Int32) (v_rotorsF : Nat → Rot) (v_o1_field : Int32) (v_o1_tick : Int32) (v_o1_pace : Int32) (v_o1_signNumber : Int32) (v_o1_rotorNumber : Int32) (v_o1_signs : Nat → Int32) (v_o1_rotorsF : Nat → Rot) (x2 : Int32) (H : Heap) (locs : List Loc) (ls : Array Slot), F_X0_copyFrom_57 fu v_field v_tick v_pace v_signNumber v_rotorNumber v_signs v_rotorsF v_o1_field v_o1_tick v_o1_pace v_o1_signNumber v_o1_rotorNumber v_o1_signs v_o1_rotorsF x2 = some res → va_P D vwCl [(a_this, .inr (0, [.int v_field, .int v_tick, .int v_pace, .int v_signNumber, .int v_rotorNumber, .ref a_signs, .ref a_rotors])), (a_signs, .inl (cI, 16, .inl v_signs)), (a_rotors, rfn cR 4 a_rotors_e), rcell a_rotors_e v_rotorsF 0, rcell a_rotors_e v_rotorsF 1, rcell a_rotors_e v_rotorsF 2, rcell a_rotors_e v_rotorsF 3, (a_o1, .inr (0, [.int v_o1_field, .int v_o1_tick, .int v_o1_pace, .int v_o1_signNumber, .int v_o1_rotorNumber, .ref a_o1_signs, .ref a_o1_rotors])), (a_o1_signs, .inl (cI, 16, .inl v_o1_signs)), (a_o1_rotors, rfn cR 4 a_o1_rotors_e), rcell a_o1_rotors_e v_o1_rotorsF 0, rcell a_o1_rotors_e v_o1_rotorsF 1, rcell a_o1_rotors_e v_o1_rotorsF 2, rcell a_o1_rotors_e v_o1_rotorsF 3] H → va_D A [(a_this, .inr (0, [.int v_field, .int v_tick, .int v_pace, .int v_signNumber, .int v_rotorNumber, .ref a_signs, .ref a_rotors])), (a_signs, .inl (cI, 16, .inl v_signs)), (a_rotors, rfn cR 4 a_rotors_e), rcell a_rotors_e v_rotorsF 0, rcell a_rotors_e v_rotorsF 1, rcell a_rotors_e v_rotorsF 2, rcell a_rotors_e v_rotorsF 3, (a_o1, .inr (0, [.int v_o1_field, .int v_o1_tick, .int v_o1_pace, .int v_o1_signNumber, .int v_o1_rotorNumber, .ref a_o1_signs, .ref a_o1_rotors])), (a_o1_signs, .inl (cI, 16, .inl v_o1_signs)), (a_o1_rotors, rfn cR 4 a_o1_rotors_e), rcell a_o1_rotors_e v_o1_rotorsF 0, rcell a_o1_rotors_e v_o1_rotorsF 1, rcell a_o1_rotors_e v_o1_rotorsF 2, rcell a_o1_rotors_e v_o1_rotorsF 3] → va_S A s.heap H locs → lv_has ls 3 [(0, .ref a_this), (1, .ref a_o1), (2, .int x2)] → W p l e rm_X0_copyFrom s m args below meth c H locs 0 0 (MQ below (va_Qv (fun (_ : Unit) => True) (BW D A [(a_this, .inr (0, [.int res.1, .int res.2.1, .int res.2.2.1, .int res.2.2.2.1, .int res.2.2.2.2.1, .ref a_signs, .ref a_rotors])), (a_signs, .inl (cI, 16, .inl res.2.2.2.2.2.1)), (a_rotors, rfn cR 4 a_rotors_e), rcell a_rotors_e res.2.2.2.2.2.2 0, rcell a_rotors_e res.2.2.2.2.2.2 1, rcell a_rotors_e res.2.2.2.2.2.2 2, rcell a_rotors_e res.2.2.2.2.2.2 3, (a_o1, .inr (0, [.int v_o1_field, .int v_o1_tick, .int v_o1_pace, .int v_o1_signNumber, .int v_o1_rotorNumber, .ref a_o1_signs, .ref a_o1_rotors])), (a_o1_signs, .inl (cI, 16, .inl v_o1_signs)), (a_o1_rotors, rfn cR 4 a_o1_rotors_e), rcell a_o1_rotors_e v_o1_rotorsF 0, rcell a_o1_rotors_e v_o1_rotorsF 1, rcell a_o1_rotors_e v_o1_rotorsF 2, rcell a_o1_rotors_e v_o1_rotorsF 3]) A) args s 0 0 A) (F0 m 57 ls []) := by
  intro fu
  induction fu with
  | zero => intro v_field v_tick v_pace v_signNumber v_rotorNumber v_signs v_rotorsF v_o1_field v_o1_tick v_o1_pace v_o1_signNumber v_o1_rotorNumber v_o1_signs v_o1_rotorsF x2 H locs ls hF; cases hF
  | succ fu ih =>
    intro v_field v_tick v_pace v_signNumber v_rotorNumber v_signs v_rotorsF v_o1_field v_o1_tick v_o1_pace v_o1_signNumber v_o1_rotorNumber v_o1_signs v_o1_rotorsF x2 H locs ls hF  hP hD hS hl
    unfold F_X0_copyFrom_57 at hF
    refine lv_iload_n C.1 C.2.1 dX0_copyFrom_57 rfl (lv_at hl 2 rfl) ?_
    refine lv_aload_n C.1 C.2.1 dX0_copyFrom_58 rfl (lv_at hl 0 rfl) ?_
    refine gf_0_0_rotorNumber C hK hP 0 rfl rfl dX0_copyFrom_59 ?_
    refine lv_icmp_ge (tgt := 86) C.1 C.2.1 dX0_copyFrom_62 (by decide) (fun c1 => ?_) (fun c1 => ?_)
    · have hF := fp hF c1
      have hF := Option.some.inj hF
      subst hF
      exact retV C hr hlk hP hD hS dX0_copyFrom_86
    · have hF := fn hF c1
      refine lv_aload_n C.1 C.2.1 dX0_copyFrom_65 rfl (lv_at hl 0 rfl) ?_
      refine gf_0_0_rotors C hK hP 0 rfl rfl dX0_copyFrom_66 ?_
      refine lv_iload_n C.1 C.2.1 dX0_copyFrom_69 rfl (lv_at hl 2 rfl) ?_
      obtain ⟨h2, hF⟩ := fk hF
      refine aldR C hK hP 2 3 rfl rfl h2 dX0_copyFrom_70 ?_
      have hk3 : x2.toNatClampNeg < 4 := Nat.not_le.mp (fun q => h2 (Or.inr q))
      refine lv_aload_n C.1 C.2.1 dX0_copyFrom_71 rfl (lv_at hl 1 rfl) ?_
      refine gf_0_0_rotors C hK hP 7 rfl rfl dX0_copyFrom_72 ?_
      refine lv_iload_n C.1 C.2.1 dX0_copyFrom_75 rfl (lv_at hl 2 rfl) ?_
      obtain ⟨h4, hF⟩ := fk hF
      refine aldR C hK hP 9 3 rfl rfl h4 dX0_copyFrom_76 ?_
      have hk5 : x2.toNatClampNeg < 4 := Nat.not_le.mp (fun q => h4 (Or.inr q))
      obtain ⟨⟨w6, w7, w8, w9⟩, h10, hF⟩ := fb hF
      refine callVV C hK hA hP hD hS [3 + x2.toNatClampNeg, 10 + x2.toNatClampNeg] (c_X2_copyFrom (a_this := a_rotors_e x2.toNatClampNeg) (a_o1 := a_o1_rotors_e x2.toNatClampNeg) (v_sort := (v_rotorsF x2.toNatClampNeg).1) (v_grip := (v_rotorsF x2.toNatClampNeg).2.1) (v_place := (v_rotorsF x2.toNatClampNeg).2.2.1) (v_way := (v_rotorsF x2.toNatClampNeg).2.2.2) (v_o1_sort := (v_o1_rotorsF x2.toNatClampNeg).1) (v_o1_grip := (v_o1_rotorsF x2.toNatClampNeg).2.1) (v_o1_place := (v_o1_rotorsF x2.toNatClampNeg).2.2.1) (v_o1_way := (v_o1_rotorsF x2.toNatClampNeg).2.2.2) h10) cv_X2_copyFrom kw2_131 (l2 (famget 3 (rcell a_rotors_e v_rotorsF) rfl rfl rfl rfl hk3) (famget 10 (rcell a_o1_rotors_e v_o1_rotorsF) rfl rfl rfl rfl hk5)) (nd2 (by omega)) rfl rfl rfl ⟨Nat.le_of_ble_eq_true rfl, Nat.le_of_ble_eq_true rfl⟩ ⟨Nat.zero_le _, Nat.zero_le _⟩ hl.1 rfl (Nat.le_of_ble_eq_true rfl) dX0_copyFrom_77 (fun H locs hP hD hS => ?_)
      have hP := va_Pe ((setL2 (by omega)).trans ((set2same (by omega) (famget 10 (rcell a_o1_rotors_e v_o1_rotorsF) rfl rfl rfl rfl hk5)).trans (famsetR (a := a_rotors_e) (ρ := v_rotorsF) 3 rfl rfl rfl rfl hk3 w6 w7 w8 w9))) hP
      have hD := va_De ((setL2 (by omega)).trans ((set2same (by omega) (famget 10 (rcell a_o1_rotors_e v_o1_rotorsF) rfl rfl rfl rfl hk5)).trans (famsetR (a := a_rotors_e) (ρ := v_rotorsF) 3 rfl rfl rfl rfl hk3 w6 w7 w8 w9))) hD
      have hP : va_P D vwCl [(a_this, .inr (0, [.int v_field, .int v_tick, .int v_pace, .int v_signNumber, .int v_rotorNumber, .ref a_signs, .ref a_rotors])), (a_signs, .inl (cI, 16, .inl v_signs)), (a_rotors, rfn cR 4 a_rotors_e), rcell a_rotors_e (up v_rotorsF x2.toNatClampNeg (w6, w7, w8, w9)) 0, rcell a_rotors_e (up v_rotorsF x2.toNatClampNeg (w6, w7, w8, w9)) 1, rcell a_rotors_e (up v_rotorsF x2.toNatClampNeg (w6, w7, w8, w9)) 2, rcell a_rotors_e (up v_rotorsF x2.toNatClampNeg (w6, w7, w8, w9)) 3, (a_o1, .inr (0, [.int v_o1_field, .int v_o1_tick, .int v_o1_pace, .int v_o1_signNumber, .int v_o1_rotorNumber, .ref a_o1_signs, .ref a_o1_rotors])), (a_o1_signs, .inl (cI, 16, .inl v_o1_signs)), (a_o1_rotors, rfn cR 4 a_o1_rotors_e), rcell a_o1_rotors_e v_o1_rotorsF 0, rcell a_o1_rotors_e v_o1_rotorsF 1, rcell a_o1_rotors_e v_o1_rotorsF 2, rcell a_o1_rotors_e v_o1_rotorsF 3] H := hP
      have hD : va_D A [(a_this, .inr (0, [.int v_field, .int v_tick, .int v_pace, .int v_signNumber, .int v_rotorNumber, .ref a_signs, .ref a_rotors])), (a_signs, .inl (cI, 16, .inl v_signs)), (a_rotors, rfn cR 4 a_rotors_e), rcell a_rotors_e (up v_rotorsF x2.toNatClampNeg (w6, w7, w8, w9)) 0, rcell a_rotors_e (up v_rotorsF x2.toNatClampNeg (w6, w7, w8, w9)) 1, rcell a_rotors_e (up v_rotorsF x2.toNatClampNeg (w6, w7, w8, w9)) 2, rcell a_rotors_e (up v_rotorsF x2.toNatClampNeg (w6, w7, w8, w9)) 3, (a_o1, .inr (0, [.int v_o1_field, .int v_o1_tick, .int v_o1_pace, .int v_o1_signNumber, .int v_o1_rotorNumber, .ref a_o1_signs, .ref a_o1_rotors])), (a_o1_signs, .inl (cI, 16, .inl v_o1_signs)), (a_o1_rotors, rfn cR 4 a_o1_rotors_e), rcell a_o1_rotors_e v_o1_rotorsF 0, rcell a_o1_rotors_e v_o1_rotorsF 1, rcell a_o1_rotors_e v_o1_rotorsF 2, rcell a_o1_rotors_e v_o1_rotorsF 3] := hD
      refine lv_iinc (v := x2 + 1) (lv' := [(2, .int (x2 + 1)), (0, .ref a_this), (1, .ref a_o1)]) C.1 C.2.1 dX0_copyFrom_80 hl (k := 2) rfl rfl (by decide) rfl (fun ls hl => ?_)
      refine lv_goto (tgt := 57) C.1 C.2.1 dX0_copyFrom_83 (by decide) ?_
      exact ih v_field v_tick v_pace v_signNumber v_rotorNumber v_signs (up v_rotorsF x2.toNatClampNeg (w6, w7, w8, w9)) v_o1_field v_o1_tick v_o1_pace v_o1_signNumber v_o1_rotorNumber v_o1_signs v_o1_rotorsF (x2 + 1) _ _ _ hF hP hD hS (lv_sub hl [1, 2, 0] rfl)
set_option maxHeartbeats 4000000 in
set_option maxRecDepth 100000 in
theorem c0_X0_copyFrom {l : Launch} {D : va_G} {cI cB cZ cR cM cS : ClassId} {a_this : Nat} {a_signs : Nat} {a_rotors : Nat} {a_rotors_e : Nat → Nat} {a_o1 : Nat} {a_o1_signs : Nat} {a_o1_rotors : Nat} {a_o1_rotors_e : Nat → Nat} {v_field : Int32} {v_tick : Int32} {v_pace : Int32} {v_signNumber : Int32} {v_rotorNumber : Int32} {v_signs : Nat → Int32} {v_rotorsF : Nat → Rot} {v_o1_field : Int32} {v_o1_tick : Int32} {v_o1_pace : Int32} {v_o1_signNumber : Int32} {v_o1_rotorNumber : Int32} {v_o1_signs : Nat → Int32} {v_o1_rotorsF : Nat → Rot} {res : Int32 × Int32 × Int32 × Int32 × Int32 × (Nat → Int32) × (Nat → Rot)} (hF : F_X0_copyFrom v_field v_tick v_pace v_signNumber v_rotorNumber v_signs v_rotorsF v_o1_field v_o1_tick v_o1_pace v_o1_signNumber v_o1_rotorNumber v_o1_signs v_o1_rotorsF = some res) : MV l yX0_copyFrom cX0_copyFrom 3 rm_X0_copyFrom D (TS cI cB cZ cR cM cS) [.ref a_this, .ref a_o1] [(a_this, .inr (0, [.int v_field, .int v_tick, .int v_pace, .int v_signNumber, .int v_rotorNumber, .ref a_signs, .ref a_rotors])), (a_signs, .inl (cI, 16, .inl v_signs)), (a_rotors, rfn cR 4 a_rotors_e), rcell a_rotors_e v_rotorsF 0, rcell a_rotors_e v_rotorsF 1, rcell a_rotors_e v_rotorsF 2, rcell a_rotors_e v_rotorsF 3, (a_o1, .inr (0, [.int v_o1_field, .int v_o1_tick, .int v_o1_pace, .int v_o1_signNumber, .int v_o1_rotorNumber, .ref a_o1_signs, .ref a_o1_rotors])), (a_o1_signs, .inl (cI, 16, .inl v_o1_signs)), (a_o1_rotors, rfn cR 4 a_o1_rotors_e), rcell a_o1_rotors_e v_o1_rotorsF 0, rcell a_o1_rotors_e v_o1_rotorsF 1, rcell a_o1_rotors_e v_o1_rotorsF 2, rcell a_o1_rotors_e v_o1_rotorsF 3] [(a_this, .inr (0, [.int res.1, .int res.2.1, .int res.2.2.1, .int res.2.2.2.1, .int res.2.2.2.2.1, .ref a_signs, .ref a_rotors])), (a_signs, .inl (cI, 16, .inl res.2.2.2.2.2.1)), (a_rotors, rfn cR 4 a_rotors_e), rcell a_rotors_e res.2.2.2.2.2.2 0, rcell a_rotors_e res.2.2.2.2.2.2 1, rcell a_rotors_e res.2.2.2.2.2.2 2, rcell a_rotors_e res.2.2.2.2.2.2 3, (a_o1, .inr (0, [.int v_o1_field, .int v_o1_tick, .int v_o1_pace, .int v_o1_signNumber, .int v_o1_rotorNumber, .ref a_o1_signs, .ref a_o1_rotors])), (a_o1_signs, .inl (cI, 16, .inl v_o1_signs)), (a_o1_rotors, rfn cR 4 a_o1_rotors_e), rcell a_o1_rotors_e v_o1_rotorsF 0, rcell a_o1_rotors_e v_o1_rotorsF 1, rcell a_o1_rotors_e v_o1_rotorsF 2, rcell a_o1_rotors_e v_o1_rotorsF 3] :=
  MV_of (by decide) (Nat.le_of_ble_eq_true rfl) (fun p e s m args below meth c A ls C hr hlk hK hA hP hD hS hl => by
    have C : CX p m c cX0_copyFrom 3 s args RX0 := C
    have hl : lv_has ls 3 [(0, .ref a_this), (1, .ref a_o1)] := hl
    unfold F_X0_copyFrom at hF
    refine lv_aload_n C.1 C.2.1 dX0_copyFrom_0 rfl (lv_at hl 0 rfl) ?_
    refine lv_aload_n C.1 C.2.1 dX0_copyFrom_1 rfl (lv_at hl 1 rfl) ?_
    refine gf_0_0_field C hK hP 7 rfl rfl dX0_copyFrom_2 ?_
    refine pf_0_0_field C hK hP hD hS 0 rfl rfl dX0_copyFrom_5 (fun H locs hP hD hS => ?_)
    have hP : va_P D vwCl [(a_this, .inr (0, [.int v_o1_field, .int v_tick, .int v_pace, .int v_signNumber, .int v_rotorNumber, .ref a_signs, .ref a_rotors])), (a_signs, .inl (cI, 16, .inl v_signs)), (a_rotors, rfn cR 4 a_rotors_e), rcell a_rotors_e v_rotorsF 0, rcell a_rotors_e v_rotorsF 1, rcell a_rotors_e v_rotorsF 2, rcell a_rotors_e v_rotorsF 3, (a_o1, .inr (0, [.int v_o1_field, .int v_o1_tick, .int v_o1_pace, .int v_o1_signNumber, .int v_o1_rotorNumber, .ref a_o1_signs, .ref a_o1_rotors])), (a_o1_signs, .inl (cI, 16, .inl v_o1_signs)), (a_o1_rotors, rfn cR 4 a_o1_rotors_e), rcell a_o1_rotors_e v_o1_rotorsF 0, rcell a_o1_rotors_e v_o1_rotorsF 1, rcell a_o1_rotors_e v_o1_rotorsF 2, rcell a_o1_rotors_e v_o1_rotorsF 3] H := hP
    have hD : va_D A [(a_this, .inr (0, [.int v_o1_field, .int v_tick, .int v_pace, .int v_signNumber, .int v_rotorNumber, .ref a_signs, .ref a_rotors])), (a_signs, .inl (cI, 16, .inl v_signs)), (a_rotors, rfn cR 4 a_rotors_e), rcell a_rotors_e v_rotorsF 0, rcell a_rotors_e v_rotorsF 1, rcell a_rotors_e v_rotorsF 2, rcell a_rotors_e v_rotorsF 3, (a_o1, .inr (0, [.int v_o1_field, .int v_o1_tick, .int v_o1_pace, .int v_o1_signNumber, .int v_o1_rotorNumber, .ref a_o1_signs, .ref a_o1_rotors])), (a_o1_signs, .inl (cI, 16, .inl v_o1_signs)), (a_o1_rotors, rfn cR 4 a_o1_rotors_e), rcell a_o1_rotors_e v_o1_rotorsF 0, rcell a_o1_rotors_e v_o1_rotorsF 1, rcell a_o1_rotors_e v_o1_rotorsF 2, rcell a_o1_rotors_e v_o1_rotorsF 3] := hD
    refine lv_aload_n C.1 C.2.1 dX0_copyFrom_8 rfl (lv_at hl 0 rfl) ?_
    refine lv_aload_n C.1 C.2.1 dX0_copyFrom_9 rfl (lv_at hl 1 rfl) ?_
    refine gf_0_0_tick C hK hP 7 rfl rfl dX0_copyFrom_10 ?_
    refine pf_0_0_tick C hK hP hD hS 0 rfl rfl dX0_copyFrom_13 (fun H locs hP hD hS => ?_)
    have hP : va_P D vwCl [(a_this, .inr (0, [.int v_o1_field, .int v_o1_tick, .int v_pace, .int v_signNumber, .int v_rotorNumber, .ref a_signs, .ref a_rotors])), (a_signs, .inl (cI, 16, .inl v_signs)), (a_rotors, rfn cR 4 a_rotors_e), rcell a_rotors_e v_rotorsF 0, rcell a_rotors_e v_rotorsF 1, rcell a_rotors_e v_rotorsF 2, rcell a_rotors_e v_rotorsF 3, (a_o1, .inr (0, [.int v_o1_field, .int v_o1_tick, .int v_o1_pace, .int v_o1_signNumber, .int v_o1_rotorNumber, .ref a_o1_signs, .ref a_o1_rotors])), (a_o1_signs, .inl (cI, 16, .inl v_o1_signs)), (a_o1_rotors, rfn cR 4 a_o1_rotors_e), rcell a_o1_rotors_e v_o1_rotorsF 0, rcell a_o1_rotors_e v_o1_rotorsF 1, rcell a_o1_rotors_e v_o1_rotorsF 2, rcell a_o1_rotors_e v_o1_rotorsF 3] H := hP
    have hD : va_D A [(a_this, .inr (0, [.int v_o1_field, .int v_o1_tick, .int v_pace, .int v_signNumber, .int v_rotorNumber, .ref a_signs, .ref a_rotors])), (a_signs, .inl (cI, 16, .inl v_signs)), (a_rotors, rfn cR 4 a_rotors_e), rcell a_rotors_e v_rotorsF 0, rcell a_rotors_e v_rotorsF 1, rcell a_rotors_e v_rotorsF 2, rcell a_rotors_e v_rotorsF 3, (a_o1, .inr (0, [.int v_o1_field, .int v_o1_tick, .int v_o1_pace, .int v_o1_signNumber, .int v_o1_rotorNumber, .ref a_o1_signs, .ref a_o1_rotors])), (a_o1_signs, .inl (cI, 16, .inl v_o1_signs)), (a_o1_rotors, rfn cR 4 a_o1_rotors_e), rcell a_o1_rotors_e v_o1_rotorsF 0, rcell a_o1_rotors_e v_o1_rotorsF 1, rcell a_o1_rotors_e v_o1_rotorsF 2, rcell a_o1_rotors_e v_o1_rotorsF 3] := hD
    refine lv_aload_n C.1 C.2.1 dX0_copyFrom_16 rfl (lv_at hl 0 rfl) ?_
    refine lv_aload_n C.1 C.2.1 dX0_copyFrom_17 rfl (lv_at hl 1 rfl) ?_
    refine gf_0_0_pace C hK hP 7 rfl rfl dX0_copyFrom_18 ?_
    refine pf_0_0_pace C hK hP hD hS 0 rfl rfl dX0_copyFrom_21 (fun H locs hP hD hS => ?_)
    have hP : va_P D vwCl [(a_this, .inr (0, [.int v_o1_field, .int v_o1_tick, .int v_o1_pace, .int v_signNumber, .int v_rotorNumber, .ref a_signs, .ref a_rotors])), (a_signs, .inl (cI, 16, .inl v_signs)), (a_rotors, rfn cR 4 a_rotors_e), rcell a_rotors_e v_rotorsF 0, rcell a_rotors_e v_rotorsF 1, rcell a_rotors_e v_rotorsF 2, rcell a_rotors_e v_rotorsF 3, (a_o1, .inr (0, [.int v_o1_field, .int v_o1_tick, .int v_o1_pace, .int v_o1_signNumber, .int v_o1_rotorNumber, .ref a_o1_signs, .ref a_o1_rotors])), (a_o1_signs, .inl (cI, 16, .inl v_o1_signs)), (a_o1_rotors, rfn cR 4 a_o1_rotors_e), rcell a_o1_rotors_e v_o1_rotorsF 0, rcell a_o1_rotors_e v_o1_rotorsF 1, rcell a_o1_rotors_e v_o1_rotorsF 2, rcell a_o1_rotors_e v_o1_rotorsF 3] H := hP
    have hD : va_D A [(a_this, .inr (0, [.int v_o1_field, .int v_o1_tick, .int v_o1_pace, .int v_signNumber, .int v_rotorNumber, .ref a_signs, .ref a_rotors])), (a_signs, .inl (cI, 16, .inl v_signs)), (a_rotors, rfn cR 4 a_rotors_e), rcell a_rotors_e v_rotorsF 0, rcell a_rotors_e v_rotorsF 1, rcell a_rotors_e v_rotorsF 2, rcell a_rotors_e v_rotorsF 3, (a_o1, .inr (0, [.int v_o1_field, .int v_o1_tick, .int v_o1_pace, .int v_o1_signNumber, .int v_o1_rotorNumber, .ref a_o1_signs, .ref a_o1_rotors])), (a_o1_signs, .inl (cI, 16, .inl v_o1_signs)), (a_o1_rotors, rfn cR 4 a_o1_rotors_e), rcell a_o1_rotors_e v_o1_rotorsF 0, rcell a_o1_rotors_e v_o1_rotorsF 1, rcell a_o1_rotors_e v_o1_rotorsF 2, rcell a_o1_rotors_e v_o1_rotorsF 3] := hD
    refine lv_aload_n C.1 C.2.1 dX0_copyFrom_24 rfl (lv_at hl 0 rfl) ?_
    refine lv_aload_n C.1 C.2.1 dX0_copyFrom_25 rfl (lv_at hl 1 rfl) ?_
    refine gf_0_0_signNumber C hK hP 7 rfl rfl dX0_copyFrom_26 ?_
    refine pf_0_0_signNumber C hK hP hD hS 0 rfl rfl dX0_copyFrom_29 (fun H locs hP hD hS => ?_)
    have hP : va_P D vwCl [(a_this, .inr (0, [.int v_o1_field, .int v_o1_tick, .int v_o1_pace, .int v_o1_signNumber, .int v_rotorNumber, .ref a_signs, .ref a_rotors])), (a_signs, .inl (cI, 16, .inl v_signs)), (a_rotors, rfn cR 4 a_rotors_e), rcell a_rotors_e v_rotorsF 0, rcell a_rotors_e v_rotorsF 1, rcell a_rotors_e v_rotorsF 2, rcell a_rotors_e v_rotorsF 3, (a_o1, .inr (0, [.int v_o1_field, .int v_o1_tick, .int v_o1_pace, .int v_o1_signNumber, .int v_o1_rotorNumber, .ref a_o1_signs, .ref a_o1_rotors])), (a_o1_signs, .inl (cI, 16, .inl v_o1_signs)), (a_o1_rotors, rfn cR 4 a_o1_rotors_e), rcell a_o1_rotors_e v_o1_rotorsF 0, rcell a_o1_rotors_e v_o1_rotorsF 1, rcell a_o1_rotors_e v_o1_rotorsF 2, rcell a_o1_rotors_e v_o1_rotorsF 3] H := hP
    have hD : va_D A [(a_this, .inr (0, [.int v_o1_field, .int v_o1_tick, .int v_o1_pace, .int v_o1_signNumber, .int v_rotorNumber, .ref a_signs, .ref a_rotors])), (a_signs, .inl (cI, 16, .inl v_signs)), (a_rotors, rfn cR 4 a_rotors_e), rcell a_rotors_e v_rotorsF 0, rcell a_rotors_e v_rotorsF 1, rcell a_rotors_e v_rotorsF 2, rcell a_rotors_e v_rotorsF 3, (a_o1, .inr (0, [.int v_o1_field, .int v_o1_tick, .int v_o1_pace, .int v_o1_signNumber, .int v_o1_rotorNumber, .ref a_o1_signs, .ref a_o1_rotors])), (a_o1_signs, .inl (cI, 16, .inl v_o1_signs)), (a_o1_rotors, rfn cR 4 a_o1_rotors_e), rcell a_o1_rotors_e v_o1_rotorsF 0, rcell a_o1_rotors_e v_o1_rotorsF 1, rcell a_o1_rotors_e v_o1_rotorsF 2, rcell a_o1_rotors_e v_o1_rotorsF 3] := hD
    refine lv_aload_n C.1 C.2.1 dX0_copyFrom_32 rfl (lv_at hl 0 rfl) ?_
    refine lv_aload_n C.1 C.2.1 dX0_copyFrom_33 rfl (lv_at hl 1 rfl) ?_
    refine gf_0_0_rotorNumber C hK hP 7 rfl rfl dX0_copyFrom_34 ?_
    refine pf_0_0_rotorNumber C hK hP hD hS 0 rfl rfl dX0_copyFrom_37 (fun H locs hP hD hS => ?_)
    have hP : va_P D vwCl [(a_this, .inr (0, [.int v_o1_field, .int v_o1_tick, .int v_o1_pace, .int v_o1_signNumber, .int v_o1_rotorNumber, .ref a_signs, .ref a_rotors])), (a_signs, .inl (cI, 16, .inl v_signs)), (a_rotors, rfn cR 4 a_rotors_e), rcell a_rotors_e v_rotorsF 0, rcell a_rotors_e v_rotorsF 1, rcell a_rotors_e v_rotorsF 2, rcell a_rotors_e v_rotorsF 3, (a_o1, .inr (0, [.int v_o1_field, .int v_o1_tick, .int v_o1_pace, .int v_o1_signNumber, .int v_o1_rotorNumber, .ref a_o1_signs, .ref a_o1_rotors])), (a_o1_signs, .inl (cI, 16, .inl v_o1_signs)), (a_o1_rotors, rfn cR 4 a_o1_rotors_e), rcell a_o1_rotors_e v_o1_rotorsF 0, rcell a_o1_rotors_e v_o1_rotorsF 1, rcell a_o1_rotors_e v_o1_rotorsF 2, rcell a_o1_rotors_e v_o1_rotorsF 3] H := hP
    have hD : va_D A [(a_this, .inr (0, [.int v_o1_field, .int v_o1_tick, .int v_o1_pace, .int v_o1_signNumber, .int v_o1_rotorNumber, .ref a_signs, .ref a_rotors])), (a_signs, .inl (cI, 16, .inl v_signs)), (a_rotors, rfn cR 4 a_rotors_e), rcell a_rotors_e v_rotorsF 0, rcell a_rotors_e v_rotorsF 1, rcell a_rotors_e v_rotorsF 2, rcell a_rotors_e v_rotorsF 3, (a_o1, .inr (0, [.int v_o1_field, .int v_o1_tick, .int v_o1_pace, .int v_o1_signNumber, .int v_o1_rotorNumber, .ref a_o1_signs, .ref a_o1_rotors])), (a_o1_signs, .inl (cI, 16, .inl v_o1_signs)), (a_o1_rotors, rfn cR 4 a_o1_rotors_e), rcell a_o1_rotors_e v_o1_rotorsF 0, rcell a_o1_rotors_e v_o1_rotorsF 1, rcell a_o1_rotors_e v_o1_rotorsF 2, rcell a_o1_rotors_e v_o1_rotorsF 3] := hD
    refine lv_aload_n C.1 C.2.1 dX0_copyFrom_40 rfl (lv_at hl 1 rfl) ?_
    refine gf_0_0_signs C hK hP 7 rfl rfl dX0_copyFrom_41 ?_
    refine lv_iconst (v := 0) C.1 C.2.1 dX0_copyFrom_44 (by decide) ?_
    refine lv_aload_n C.1 C.2.1 dX0_copyFrom_45 rfl (lv_at hl 0 rfl) ?_
    refine gf_0_0_signs C hK hP 0 rfl rfl dX0_copyFrom_46 ?_
    refine lv_iconst (v := 0) C.1 C.2.1 dX0_copyFrom_49 (by decide) ?_
    refine lv_bipush (v := 16) C.1 C.2.1 dX0_copyFrom_50 (by decide) ?_
    refine va_copyi C.1 C.2.1 (C.2.2.1.trans hl.1.symm) C.2.2.2.1 (C.2.2.2.2 _ kw2_128) (C.2.2.2.2 _ kw2_130) (C.2.2.2.2 _ kw2_129) (C.2.2.2.2 _ kw1_13) hK.1 hP hD hS 8 1 0 0 rfl rfl rfl rfl rfl (by decide) (by decide) (by decide) (by decide) (by decide) (fun _ _ => rfl) (Nat.le_of_ble_eq_true rfl) (Nat.le_of_ble_eq_true rfl) dX0_copyFrom_52 (fun H locs hP hD hS => ?_)
    have hP : va_P D vwCl [(a_this, .inr (0, [.int v_o1_field, .int v_o1_tick, .int v_o1_pace, .int v_o1_signNumber, .int v_o1_rotorNumber, .ref a_signs, .ref a_rotors])), (a_signs, .inl (cI, 16, .inl (va_cpy v_o1_signs v_signs (0 : Int32).toNatClampNeg (0 : Int32).toNatClampNeg (16 : Int32).toNatClampNeg))), (a_rotors, rfn cR 4 a_rotors_e), rcell a_rotors_e v_rotorsF 0, rcell a_rotors_e v_rotorsF 1, rcell a_rotors_e v_rotorsF 2, rcell a_rotors_e v_rotorsF 3, (a_o1, .inr (0, [.int v_o1_field, .int v_o1_tick, .int v_o1_pace, .int v_o1_signNumber, .int v_o1_rotorNumber, .ref a_o1_signs, .ref a_o1_rotors])), (a_o1_signs, .inl (cI, 16, .inl v_o1_signs)), (a_o1_rotors, rfn cR 4 a_o1_rotors_e), rcell a_o1_rotors_e v_o1_rotorsF 0, rcell a_o1_rotors_e v_o1_rotorsF 1, rcell a_o1_rotors_e v_o1_rotorsF 2, rcell a_o1_rotors_e v_o1_rotorsF 3] H := hP
    have hD : va_D A [(a_this, .inr (0, [.int v_o1_field, .int v_o1_tick, .int v_o1_pace, .int v_o1_signNumber, .int v_o1_rotorNumber, .ref a_signs, .ref a_rotors])), (a_signs, .inl (cI, 16, .inl (va_cpy v_o1_signs v_signs (0 : Int32).toNatClampNeg (0 : Int32).toNatClampNeg (16 : Int32).toNatClampNeg))), (a_rotors, rfn cR 4 a_rotors_e), rcell a_rotors_e v_rotorsF 0, rcell a_rotors_e v_rotorsF 1, rcell a_rotors_e v_rotorsF 2, rcell a_rotors_e v_rotorsF 3, (a_o1, .inr (0, [.int v_o1_field, .int v_o1_tick, .int v_o1_pace, .int v_o1_signNumber, .int v_o1_rotorNumber, .ref a_o1_signs, .ref a_o1_rotors])), (a_o1_signs, .inl (cI, 16, .inl v_o1_signs)), (a_o1_rotors, rfn cR 4 a_o1_rotors_e), rcell a_o1_rotors_e v_o1_rotorsF 0, rcell a_o1_rotors_e v_o1_rotorsF 1, rcell a_o1_rotors_e v_o1_rotorsF 2, rcell a_o1_rotors_e v_o1_rotorsF 3] := hD
    refine lv_iconst (v := 0) C.1 C.2.1 dX0_copyFrom_55 (by decide) ?_
    refine lv_istore_n (lv' := [(2, .int (0 : Int32)), (0, .ref a_this), (1, .ref a_o1)]) C.1 C.2.1 dX0_copyFrom_56 rfl hl (by decide) rfl (fun ls hl => ?_)
    exact b_X0_copyFrom_57 C hr hlk hK hA FU v_o1_field v_o1_tick v_o1_pace v_o1_signNumber v_o1_rotorNumber (va_cpy v_o1_signs v_signs (0 : Int32).toNatClampNeg (0 : Int32).toNatClampNeg (16 : Int32).toNatClampNeg) v_rotorsF v_o1_field v_o1_tick v_o1_pace v_o1_signNumber v_o1_rotorNumber v_o1_signs v_o1_rotorsF (0 : Int32) _ _ _ hF hP hD hS (lv_sub hl [1, 2, 0] rfl))
theorem c_X0_copyFrom {l : Launch} {D : va_G} {cI cB cZ cR cM cS : ClassId} {a_this : Nat} {a_signs : Nat} {a_rotors : Nat} {a_rotors_e : Nat → Nat} {a_o1 : Nat} {a_o1_signs : Nat} {a_o1_rotors : Nat} {a_o1_rotors_e : Nat → Nat} {v_field : Int32} {v_tick : Int32} {v_pace : Int32} {v_signNumber : Int32} {v_rotorNumber : Int32} {v_signs : Nat → Int32} {v_rotorsF : Nat → Rot} {v_o1_field : Int32} {v_o1_tick : Int32} {v_o1_pace : Int32} {v_o1_signNumber : Int32} {v_o1_rotorNumber : Int32} {v_o1_signs : Nat → Int32} {v_o1_rotorsF : Nat → Rot} {v_field' : Int32} {v_tick' : Int32} {v_pace' : Int32} {v_signNumber' : Int32} {v_rotorNumber' : Int32} {v_signs' : Nat → Int32} {v_rotorsF' : Nat → Rot} (hF : F_X0_copyFrom v_field v_tick v_pace v_signNumber v_rotorNumber v_signs v_rotorsF v_o1_field v_o1_tick v_o1_pace v_o1_signNumber v_o1_rotorNumber v_o1_signs v_o1_rotorsF = some (v_field', v_tick', v_pace', v_signNumber', v_rotorNumber', v_signs', v_rotorsF')) : MV l yX0_copyFrom cX0_copyFrom 3 rm_X0_copyFrom D (TS cI cB cZ cR cM cS) [.ref a_this, .ref a_o1] [(a_this, .inr (0, [.int v_field, .int v_tick, .int v_pace, .int v_signNumber, .int v_rotorNumber, .ref a_signs, .ref a_rotors])), (a_signs, .inl (cI, 16, .inl v_signs)), (a_rotors, rfn cR 4 a_rotors_e), rcell a_rotors_e v_rotorsF 0, rcell a_rotors_e v_rotorsF 1, rcell a_rotors_e v_rotorsF 2, rcell a_rotors_e v_rotorsF 3, (a_o1, .inr (0, [.int v_o1_field, .int v_o1_tick, .int v_o1_pace, .int v_o1_signNumber, .int v_o1_rotorNumber, .ref a_o1_signs, .ref a_o1_rotors])), (a_o1_signs, .inl (cI, 16, .inl v_o1_signs)), (a_o1_rotors, rfn cR 4 a_o1_rotors_e), rcell a_o1_rotors_e v_o1_rotorsF 0, rcell a_o1_rotors_e v_o1_rotorsF 1, rcell a_o1_rotors_e v_o1_rotorsF 2, rcell a_o1_rotors_e v_o1_rotorsF 3] [(a_this, .inr (0, [.int v_field', .int v_tick', .int v_pace', .int v_signNumber', .int v_rotorNumber', .ref a_signs, .ref a_rotors])), (a_signs, .inl (cI, 16, .inl v_signs')), (a_rotors, rfn cR 4 a_rotors_e), rcell a_rotors_e v_rotorsF' 0, rcell a_rotors_e v_rotorsF' 1, rcell a_rotors_e v_rotorsF' 2, rcell a_rotors_e v_rotorsF' 3, (a_o1, .inr (0, [.int v_o1_field, .int v_o1_tick, .int v_o1_pace, .int v_o1_signNumber, .int v_o1_rotorNumber, .ref a_o1_signs, .ref a_o1_rotors])), (a_o1_signs, .inl (cI, 16, .inl v_o1_signs)), (a_o1_rotors, rfn cR 4 a_o1_rotors_e), rcell a_o1_rotors_e v_o1_rotorsF 0, rcell a_o1_rotors_e v_o1_rotorsF 1, rcell a_o1_rotors_e v_o1_rotorsF 2, rcell a_o1_rotors_e v_o1_rotorsF 3] :=
  c0_X0_copyFrom (res := (v_field', v_tick', v_pace', v_signNumber', v_rotorNumber', v_signs', v_rotorsF')) hF
def rm_X2_off : Room := { frames := 0, cells := 0, slots := 0, locals := 0 }
theorem cv_X2_off : CV yX2_off cX2_off 2 (some .int) rm_X2_off RX2 1 := ⟨kw2_153, kw2_154, kw1_4, kw2_155, by decide +kernel, rfl, rfl⟩
set_option maxHeartbeats 4000000 in
set_option maxRecDepth 100000 in
theorem c_X2_off {l : Launch} {D : va_G} {cI cB cZ cR cM cS : ClassId} {a_this : Nat} {v_sort : Int32} {v_grip : Int32} {v_place : Int32} {v_way : Int32} {x1 : Int32} {res : Int32} (hF : F_X2_off v_place x1 = some res) : MI l yX2_off cX2_off 2 .int rm_X2_off D (TS cI cB cZ cR cM cS) [.ref a_this, .int x1] [(a_this, .inr (2, [.int v_sort, .int v_grip, .int v_place, .int v_way]))] [(a_this, .inr (2, [.int v_sort, .int v_grip, .int v_place, .int v_way]))] res :=
  MI_of (by decide) (Nat.le_of_ble_eq_true rfl) (fun p e s m args below meth c A ls C hr hlk hK hA hP hD hS hl => by
    have C : CX p m c cX2_off 2 s args RX2 := C
    have hl : lv_has ls 2 [(0, .ref a_this), (1, .int x1)] := hl
    unfold F_X2_off at hF
    refine lv_iload_n C.1 C.2.1 dX2_off_0 rfl (lv_at hl 1 rfl) ?_
    refine lv_aload_n C.1 C.2.1 dX2_off_1 rfl (lv_at hl 0 rfl) ?_
    refine gf_2_2_place C hK hP 0 rfl rfl dX2_off_2 ?_
    refine lv_isub C.1 C.2.1 dX2_off_5 ?_
    refine lv_iconst (v := 3) C.1 C.2.1 dX2_off_6 (by decide) ?_
    refine lv_iadd C.1 C.2.1 dX2_off_7 ?_
    refine lv_bipush (v := 7) C.1 C.2.1 dX2_off_8 (by decide) ?_
    refine lv_iand C.1 C.2.1 dX2_off_10 ?_
    refine lv_iconst (v := 3) C.1 C.2.1 dX2_off_11 (by decide) ?_
    refine lv_isub C.1 C.2.1 dX2_off_12 ?_
    have hF := Option.some.inj hF
    subst hF
    exact retI C hr hlk hP hD hS dX2_off_13)
def rm_X2_slips : Room := { frames := 1, cells := 0, slots := 0, locals := 23 }
theorem cv_X2_slips : CV yX2_slips cX2_slips 2 (some .boolean) rm_X2_slips RX2 1 := ⟨kw2_149, kw2_150, kw1_4, kw2_151, by decide +kernel, rfl, rfl⟩
set_option maxHeartbeats 4000000 in
set_option maxRecDepth 100000 in
theorem c_X2_slips {l : Launch} {D : va_G} {cI cB cZ cR cM cS : ClassId} {a_this : Nat} {v_sort : Int32} {v_grip : Int32} {v_place : Int32} {v_way : Int32} {x1 : Int32} {res : Int32} (hF : F_X2_slips v_grip v_place x1 = some res) : MI l yX2_slips cX2_slips 2 .boolean rm_X2_slips D (TS cI cB cZ cR cM cS) [.ref a_this, .int x1] [(a_this, .inr (2, [.int v_sort, .int v_grip, .int v_place, .int v_way]))] [(a_this, .inr (2, [.int v_sort, .int v_grip, .int v_place, .int v_way]))] res :=
  MI_of (by decide) (Nat.le_of_ble_eq_true rfl) (fun p e s m args below meth c A ls C hr hlk hK hA hP hD hS hl => by
    have C : CX p m c cX2_slips 2 s args RX2 := C
    have hl : lv_has ls 2 [(0, .ref a_this), (1, .int x1)] := hl
    unfold F_X2_slips at hF
    refine lv_aload_n C.1 C.2.1 dX2_slips_0 rfl (lv_at hl 0 rfl) ?_
    refine lv_iload_n C.1 C.2.1 dX2_slips_1 rfl (lv_at hl 1 rfl) ?_
    obtain ⟨r1, h2, hF⟩ := fb hF
    refine callVI C hK hA hP hD hS [0] (c_X2_off (a_this := a_this) (v_sort := v_sort) (v_grip := v_grip) (v_place := v_place) (v_way := v_way) h2) cv_X2_off kw2_152 rfl (by decide) rfl rfl rfl ⟨Nat.le_of_ble_eq_true rfl, Nat.le_of_ble_eq_true rfl⟩ ⟨Nat.zero_le _, Nat.zero_le _⟩ hl.1 rfl (Nat.le_of_ble_eq_true rfl) dX2_slips_2 (fun H locs hP hD hS => ?_)
    have hP : va_P D vwCl [(a_this, .inr (2, [.int v_sort, .int v_grip, .int v_place, .int v_way]))] H := hP
    have hD : va_D A [(a_this, .inr (2, [.int v_sort, .int v_grip, .int v_place, .int v_way]))] := hD
    refine va_mabs C.1 C.2.1 (C.2.2.1.trans hl.1.symm) C.2.2.2.1 (C.2.2.2.2 _ kw2_156) (C.2.2.2.2 _ kw2_157) (C.2.2.2.2 _ kw1_14) (C.2.2.2.2 _ kw2_158) (Nat.le_of_ble_eq_true rfl) (Nat.le_of_ble_eq_true rfl) (Nat.zero_le _) (Nat.zero_le _) dX2_slips_5 ?_
    refine lv_aload_n C.1 C.2.1 dX2_slips_8 rfl (lv_at hl 0 rfl) ?_
    refine gf_2_2_grip C hK hP 0 rfl rfl dX2_slips_9 ?_
    refine lv_icmp_le (tgt := 19) C.1 C.2.1 dX2_slips_12 (by decide) (fun c3 => ?_) (fun c3 => ?_)
    · have hF := fp hF c3
      refine lv_iconst (v := 0) C.1 C.2.1 dX2_slips_19 (by decide) ?_
      have hF := Option.some.inj hF
      subst hF
      exact retZ (v := 0) C hr hlk (by decide) hP hD hS dX2_slips_20
    · have hF := fn hF c3
      refine lv_iconst (v := 1) C.1 C.2.1 dX2_slips_15 (by decide) ?_
      refine lv_goto (tgt := 20) C.1 C.2.1 dX2_slips_16 (by decide) ?_
      have hF := Option.some.inj hF
      subst hF
      exact retZ (v := 1) C hr hlk (by decide) hP hD hS dX2_slips_20)
def rm_X0_slipping : Room := { frames := 2, cells := 0, slots := 0, locals := 44 }
theorem cv_X0_slipping : CV yX0_slipping cX0_slipping 3 (some .int) rm_X0_slipping RX0 0 := ⟨kw2_145, kw2_146, kw1_3, kw2_147, by decide +kernel, rfl, rfl⟩
set_option maxHeartbeats 4000000 in
set_option maxRecDepth 100000 in
theorem b_X0_slipping_4 {l : Launch} {D : va_G} {cI cB cZ cR cM cS : ClassId} {a_this : Nat} {a_signs : Nat} {a_rotors : Nat} {a_rotors_e : Nat → Nat} {v_tick : Int32} {v_pace : Int32} {v_signNumber : Int32} {p : Program} {e : Env} {s : State} {m : MethodId} {args : Array Value} {below : List Frame} {meth : Method} {c : Code} {A : Nat → Prop} {res : Int32} (C : CX p m c cX0_slipping 3 s args RX0) (hr : meth.sig.returnType = (some .int)) (hlk : meth.locks = false) (hK : KK D (TS cI cB cZ cR cM cS) s) (hA : ∀ q, s.heap.size ≤ q → A q) : ∀ (fu : Nat) (v_field : Int32) (v_rotorNumber : Int32) (v_rotorsF : Nat → Rot) (x1 : Int32) (x2 : Int32) (H : Heap) (locs : List Loc) (ls : Array Slot), F_X0_slipping_4 fu v_field v_rotorNumber v_rotorsF x1 x2 = some res → va_P D vwCl [(a_this, .inr (0, [.int v_field, .int v_tick, .int v_pace, .int v_signNumber, .int v_rotorNumber, .ref a_signs, .ref a_rotors])), (a_rotors, rfn cR 4 a_rotors_e), rcell a_rotors_e v_rotorsF 0, rcell a_rotors_e v_rotorsF 1, rcell a_rotors_e v_rotorsF 2, rcell a_rotors_e v_rotorsF 3] H → va_D A [(a_this, .inr (0, [.int v_field, .int v_tick, .int v_pace, .int v_signNumber, .int v_rotorNumber, .ref a_signs, .ref a_rotors])), (a_rotors, rfn cR 4 a_rotors_e), rcell a_rotors_e v_rotorsF 0, rcell a_rotors_e v_rotorsF 1, rcell a_rotors_e v_rotorsF 2, rcell a_rotors_e v_rotorsF 3] → va_S A s.heap H locs → lv_has ls 3 [(0, .ref a_this), (1, .int x1), (2, .int x2)] → W p l e rm_X0_slipping s m args below meth c H locs 0 0 (MQ below (va_Qi (fun x (_ : Unit) => x = res) (BW D A [(a_this, .inr (0, [.int v_field, .int v_tick, .int v_pace, .int v_signNumber, .int v_rotorNumber, .ref a_signs, .ref a_rotors])), (a_rotors, rfn cR 4 a_rotors_e), rcell a_rotors_e v_rotorsF 0, rcell a_rotors_e v_rotorsF 1, rcell a_rotors_e v_rotorsF 2, rcell a_rotors_e v_rotorsF 3]) A) args s 0 0 A) (F0 m 4 ls []) := by
  intro fu
  induction fu with
  | zero => intro v_field v_rotorNumber v_rotorsF x1 x2 H locs ls hF; cases hF
  | succ fu ih =>
    intro v_field v_rotorNumber v_rotorsF x1 x2 H locs ls hF  hP hD hS hl
    unfold F_X0_slipping_4 at hF
    refine lv_iload_n C.1 C.2.1 dX0_slipping_4 rfl (lv_at hl 2 rfl) ?_
    refine lv_aload_n C.1 C.2.1 dX0_slipping_5 rfl (lv_at hl 0 rfl) ?_
    refine gf_0_0_rotorNumber C hK hP 0 rfl rfl dX0_slipping_6 ?_
    refine lv_icmp_ge (tgt := 40) C.1 C.2.1 dX0_slipping_9 (by decide) (fun c1 => ?_) (fun c1 => ?_)
    · have hF := fp hF c1
      refine lv_iload_n C.1 C.2.1 dX0_slipping_40 rfl (lv_at hl 1 rfl) ?_
      have hF := Option.some.inj hF
      subst hF
      exact retI C hr hlk hP hD hS dX0_slipping_41
    · have hF := fn hF c1
      refine lv_aload_n C.1 C.2.1 dX0_slipping_12 rfl (lv_at hl 0 rfl) ?_
      refine gf_0_0_rotors C hK hP 0 rfl rfl dX0_slipping_13 ?_
      refine lv_iload_n C.1 C.2.1 dX0_slipping_16 rfl (lv_at hl 2 rfl) ?_
      obtain ⟨h2, hF⟩ := fk hF
      refine aldR C hK hP 1 3 rfl rfl h2 dX0_slipping_17 ?_
      have hk3 : x2.toNatClampNeg < 4 := Nat.not_le.mp (fun q => h2 (Or.inr q))
      refine lv_aload_n C.1 C.2.1 dX0_slipping_18 rfl (lv_at hl 0 rfl) ?_
      refine gf_0_0_field C hK hP 0 rfl rfl dX0_slipping_19 ?_
      obtain ⟨r4, h5, hF⟩ := fb hF
      refine callVI C hK hA hP hD hS [2 + x2.toNatClampNeg] (c_X2_slips (a_this := a_rotors_e x2.toNatClampNeg) (v_sort := (v_rotorsF x2.toNatClampNeg).1) (v_grip := (v_rotorsF x2.toNatClampNeg).2.1) (v_place := (v_rotorsF x2.toNatClampNeg).2.2.1) (v_way := (v_rotorsF x2.toNatClampNeg).2.2.2) h5) cv_X2_slips kw2_148 (congrArg (fun z => [z]) (famget 2 (rcell a_rotors_e v_rotorsF) rfl rfl rfl rfl hk3)) rfl rfl rfl rfl ⟨Nat.le_of_ble_eq_true rfl, Nat.le_of_ble_eq_true rfl⟩ ⟨Nat.zero_le _, Nat.zero_le _⟩ hl.1 rfl (Nat.le_of_ble_eq_true rfl) dX0_slipping_22 (fun H locs hP hD hS => ?_)
      have hP := va_Pe (setL1.trans (setsame (famget 2 (rcell a_rotors_e v_rotorsF) rfl rfl rfl rfl hk3))) hP
      have hD := va_De (setL1.trans (setsame (famget 2 (rcell a_rotors_e v_rotorsF) rfl rfl rfl rfl hk3))) hD
      have hP : va_P D vwCl [(a_this, .inr (0, [.int v_field, .int v_tick, .int v_pace, .int v_signNumber, .int v_rotorNumber, .ref a_signs, .ref a_rotors])), (a_rotors, rfn cR 4 a_rotors_e), rcell a_rotors_e v_rotorsF 0, rcell a_rotors_e v_rotorsF 1, rcell a_rotors_e v_rotorsF 2, rcell a_rotors_e v_rotorsF 3] H := hP
      have hD : va_D A [(a_this, .inr (0, [.int v_field, .int v_tick, .int v_pace, .int v_signNumber, .int v_rotorNumber, .ref a_signs, .ref a_rotors])), (a_rotors, rfn cR 4 a_rotors_e), rcell a_rotors_e v_rotorsF 0, rcell a_rotors_e v_rotorsF 1, rcell a_rotors_e v_rotorsF 2, rcell a_rotors_e v_rotorsF 3] := hD
      refine lv_if_eq (tgt := 34) C.1 C.2.1 dX0_slipping_25 (by decide) (fun c6 => ?_) (fun c6 => ?_)
      · have hF := fp hF c6
        refine lv_iinc (v := x2 + 1) (lv' := [(2, .int (x2 + 1)), (0, .ref a_this), (1, .int x1)]) C.1 C.2.1 dX0_slipping_34 hl (k := 2) rfl rfl (by decide) rfl (fun ls hl => ?_)
        refine lv_goto (tgt := 4) C.1 C.2.1 dX0_slipping_37 (by decide) ?_
        exact ih v_field v_rotorNumber v_rotorsF x1 (x2 + 1) _ _ _ hF hP hD hS (lv_sub hl [1, 2, 0] rfl)
      · have hF := fn hF c6
        refine lv_iload_n C.1 C.2.1 dX0_slipping_28 rfl (lv_at hl 1 rfl) ?_
        refine lv_iconst (v := 1) C.1 C.2.1 dX0_slipping_29 (by decide) ?_
        refine lv_iload_n C.1 C.2.1 dX0_slipping_30 rfl (lv_at hl 2 rfl) ?_
        refine lv_ishl C.1 C.2.1 dX0_slipping_31 ?_
        refine lv_ior C.1 C.2.1 dX0_slipping_32 ?_
        refine lv_istore_n (lv' := [(1, .int (x1 ||| (ishl (1 : Int32) x2))), (0, .ref a_this), (2, .int x2)]) C.1 C.2.1 dX0_slipping_33 rfl hl (by decide) rfl (fun ls hl => ?_)
        refine lv_iinc (v := x2 + 1) (lv' := [(2, .int (x2 + 1)), (1, .int (x1 ||| (ishl (1 : Int32) x2))), (0, .ref a_this)]) C.1 C.2.1 dX0_slipping_34 hl (k := 2) rfl rfl (by decide) rfl (fun ls hl => ?_)
        refine lv_goto (tgt := 4) C.1 C.2.1 dX0_slipping_37 (by decide) ?_
        exact ih v_field v_rotorNumber v_rotorsF (x1 ||| (ishl (1 : Int32) x2)) (x2 + 1) _ _ _ hF hP hD hS (lv_sub hl [2, 1, 0] rfl)
set_option maxHeartbeats 4000000 in
set_option maxRecDepth 100000 in
theorem c_X0_slipping {l : Launch} {D : va_G} {cI cB cZ cR cM cS : ClassId} {a_this : Nat} {a_signs : Nat} {a_rotors : Nat} {a_rotors_e : Nat → Nat} {v_field : Int32} {v_tick : Int32} {v_pace : Int32} {v_signNumber : Int32} {v_rotorNumber : Int32} {v_rotorsF : Nat → Rot} {res : Int32} (hF : F_X0_slipping v_field v_rotorNumber v_rotorsF = some res) : MI l yX0_slipping cX0_slipping 3 .int rm_X0_slipping D (TS cI cB cZ cR cM cS) [.ref a_this] [(a_this, .inr (0, [.int v_field, .int v_tick, .int v_pace, .int v_signNumber, .int v_rotorNumber, .ref a_signs, .ref a_rotors])), (a_rotors, rfn cR 4 a_rotors_e), rcell a_rotors_e v_rotorsF 0, rcell a_rotors_e v_rotorsF 1, rcell a_rotors_e v_rotorsF 2, rcell a_rotors_e v_rotorsF 3] [(a_this, .inr (0, [.int v_field, .int v_tick, .int v_pace, .int v_signNumber, .int v_rotorNumber, .ref a_signs, .ref a_rotors])), (a_rotors, rfn cR 4 a_rotors_e), rcell a_rotors_e v_rotorsF 0, rcell a_rotors_e v_rotorsF 1, rcell a_rotors_e v_rotorsF 2, rcell a_rotors_e v_rotorsF 3] res :=
  MI_of (by decide) (Nat.le_of_ble_eq_true rfl) (fun p e s m args below meth c A ls C hr hlk hK hA hP hD hS hl => by
    have C : CX p m c cX0_slipping 3 s args RX0 := C
    have hl : lv_has ls 3 [(0, .ref a_this)] := hl
    unfold F_X0_slipping at hF
    refine lv_iconst (v := 0) C.1 C.2.1 dX0_slipping_0 (by decide) ?_
    refine lv_istore_n (lv' := [(1, .int (0 : Int32)), (0, .ref a_this)]) C.1 C.2.1 dX0_slipping_1 rfl hl (by decide) rfl (fun ls hl => ?_)
    refine lv_iconst (v := 0) C.1 C.2.1 dX0_slipping_2 (by decide) ?_
    refine lv_istore_n (lv' := [(2, .int (0 : Int32)), (1, .int (0 : Int32)), (0, .ref a_this)]) C.1 C.2.1 dX0_slipping_3 rfl hl (by decide) rfl (fun ls hl => ?_)
    exact b_X0_slipping_4 C hr hlk hK hA FU v_field v_rotorNumber v_rotorsF (0 : Int32) (0 : Int32) _ _ _ hF hP hD hS (lv_sub hl [2, 1, 0] rfl))
def rm_X2_lost : Room := { frames := 1, cells := 0, slots := 0, locals := 21 }
theorem cv_X2_lost : CV yX2_lost cX2_lost 2 (some .int) rm_X2_lost RX2 1 := ⟨kw2_164, kw2_165, kw1_4, kw2_166, by decide +kernel, rfl, rfl⟩
set_option maxHeartbeats 4000000 in
set_option maxRecDepth 100000 in
theorem c_X2_lost {l : Launch} {D : va_G} {cI cB cZ cR cM cS : ClassId} {a_this : Nat} {v_sort : Int32} {v_grip : Int32} {v_place : Int32} {v_way : Int32} {x1 : Int32} {res : Int32} (hF : F_X2_lost v_place x1 = some res) : MI l yX2_lost cX2_lost 2 .int rm_X2_lost D (TS cI cB cZ cR cM cS) [.ref a_this, .int x1] [(a_this, .inr (2, [.int v_sort, .int v_grip, .int v_place, .int v_way]))] [(a_this, .inr (2, [.int v_sort, .int v_grip, .int v_place, .int v_way]))] res :=
  MI_of (by decide) (Nat.le_of_ble_eq_true rfl) (fun p e s m args below meth c A ls C hr hlk hK hA hP hD hS hl => by
    have C : CX p m c cX2_lost 2 s args RX2 := C
    have hl : lv_has ls 2 [(0, .ref a_this), (1, .int x1)] := hl
    unfold F_X2_lost at hF
    refine lv_iload_n C.1 C.2.1 dX2_lost_0 rfl (lv_at hl 1 rfl) ?_
    refine lv_aload_n C.1 C.2.1 dX2_lost_1 rfl (lv_at hl 0 rfl) ?_
    refine gf_2_2_place C hK hP 0 rfl rfl dX2_lost_2 ?_
    refine lv_isub C.1 C.2.1 dX2_lost_5 ?_
    refine lv_aload_n C.1 C.2.1 dX2_lost_6 rfl (lv_at hl 0 rfl) ?_
    refine lv_iload_n C.1 C.2.1 dX2_lost_7 rfl (lv_at hl 1 rfl) ?_
    obtain ⟨r1, h2, hF⟩ := fb hF
    refine callVI C hK hA hP hD hS [0] (c_X2_off (a_this := a_this) (v_sort := v_sort) (v_grip := v_grip) (v_place := v_place) (v_way := v_way) h2) cv_X2_off kw2_152 rfl (by decide) rfl rfl rfl ⟨Nat.le_of_ble_eq_true rfl, Nat.le_of_ble_eq_true rfl⟩ ⟨Nat.zero_le _, Nat.zero_le _⟩ hl.1 rfl (Nat.le_of_ble_eq_true rfl) dX2_lost_8 (fun H locs hP hD hS => ?_)
    have hP : va_P D vwCl [(a_this, .inr (2, [.int v_sort, .int v_grip, .int v_place, .int v_way]))] H := hP
    have hD : va_D A [(a_this, .inr (2, [.int v_sort, .int v_grip, .int v_place, .int v_way]))] := hD
    refine lv_isub C.1 C.2.1 dX2_lost_11 ?_
    refine lv_bipush (v := 8) C.1 C.2.1 dX2_lost_12 (by decide) ?_
    refine lv_idiv C.1 C.2.1 dX2_lost_14 (by decide) ?_
    have hF := Option.some.inj hF
    subst hF
    exact retI C hr hlk hP hD hS dX2_lost_15)
def rm_X0_allLost : Room := { frames := 2, cells := 0, slots := 0, locals := 42 }
theorem cv_X0_allLost : CV yX0_allLost cX0_allLost 3 (some .int) rm_X0_allLost RX0 0 := ⟨kw2_160, kw2_161, kw1_3, kw2_162, by decide +kernel, rfl, rfl⟩
set_option maxHeartbeats 4000000 in
set_option maxRecDepth 100000 in
theorem b_X0_allLost_4 {l : Launch} {D : va_G} {cI cB cZ cR cM cS : ClassId} {a_this : Nat} {a_signs : Nat} {a_rotors : Nat} {a_rotors_e : Nat → Nat} {v_tick : Int32} {v_pace : Int32} {v_signNumber : Int32} {p : Program} {e : Env} {s : State} {m : MethodId} {args : Array Value} {below : List Frame} {meth : Method} {c : Code} {A : Nat → Prop} {res : Int32} (C : CX p m c cX0_allLost 3 s args RX0) (hr : meth.sig.returnType = (some .int)) (hlk : meth.locks = false) (hK : KK D (TS cI cB cZ cR cM cS) s) (hA : ∀ q, s.heap.size ≤ q → A q) : ∀ (fu : Nat) (v_field : Int32) (v_rotorNumber : Int32) (v_rotorsF : Nat → Rot) (x1 : Int32) (x2 : Int32) (H : Heap) (locs : List Loc) (ls : Array Slot), F_X0_allLost_4 fu v_field v_rotorNumber v_rotorsF x1 x2 = some res → va_P D vwCl [(a_this, .inr (0, [.int v_field, .int v_tick, .int v_pace, .int v_signNumber, .int v_rotorNumber, .ref a_signs, .ref a_rotors])), (a_rotors, rfn cR 4 a_rotors_e), rcell a_rotors_e v_rotorsF 0, rcell a_rotors_e v_rotorsF 1, rcell a_rotors_e v_rotorsF 2, rcell a_rotors_e v_rotorsF 3] H → va_D A [(a_this, .inr (0, [.int v_field, .int v_tick, .int v_pace, .int v_signNumber, .int v_rotorNumber, .ref a_signs, .ref a_rotors])), (a_rotors, rfn cR 4 a_rotors_e), rcell a_rotors_e v_rotorsF 0, rcell a_rotors_e v_rotorsF 1, rcell a_rotors_e v_rotorsF 2, rcell a_rotors_e v_rotorsF 3] → va_S A s.heap H locs → lv_has ls 3 [(0, .ref a_this), (1, .int x1), (2, .int x2)] → W p l e rm_X0_allLost s m args below meth c H locs 0 0 (MQ below (va_Qi (fun x (_ : Unit) => x = res) (BW D A [(a_this, .inr (0, [.int v_field, .int v_tick, .int v_pace, .int v_signNumber, .int v_rotorNumber, .ref a_signs, .ref a_rotors])), (a_rotors, rfn cR 4 a_rotors_e), rcell a_rotors_e v_rotorsF 0, rcell a_rotors_e v_rotorsF 1, rcell a_rotors_e v_rotorsF 2, rcell a_rotors_e v_rotorsF 3]) A) args s 0 0 A) (F0 m 4 ls []) := by
  intro fu
  induction fu with
  | zero => intro v_field v_rotorNumber v_rotorsF x1 x2 H locs ls hF; cases hF
  | succ fu ih =>
    intro v_field v_rotorNumber v_rotorsF x1 x2 H locs ls hF  hP hD hS hl
    unfold F_X0_allLost_4 at hF
    refine lv_iload_n C.1 C.2.1 dX0_allLost_4 rfl (lv_at hl 2 rfl) ?_
    refine lv_aload_n C.1 C.2.1 dX0_allLost_5 rfl (lv_at hl 0 rfl) ?_
    refine gf_0_0_rotorNumber C hK hP 0 rfl rfl dX0_allLost_6 ?_
    refine lv_icmp_ge (tgt := 37) C.1 C.2.1 dX0_allLost_9 (by decide) (fun c1 => ?_) (fun c1 => ?_)
    · have hF := fp hF c1
      refine lv_iload_n C.1 C.2.1 dX0_allLost_37 rfl (lv_at hl 1 rfl) ?_
      have hF := Option.some.inj hF
      subst hF
      exact retI C hr hlk hP hD hS dX0_allLost_38
    · have hF := fn hF c1
      refine lv_iload_n C.1 C.2.1 dX0_allLost_12 rfl (lv_at hl 1 rfl) ?_
      refine lv_aload_n C.1 C.2.1 dX0_allLost_13 rfl (lv_at hl 0 rfl) ?_
      refine gf_0_0_rotors C hK hP 0 rfl rfl dX0_allLost_14 ?_
      refine lv_iload_n C.1 C.2.1 dX0_allLost_17 rfl (lv_at hl 2 rfl) ?_
      obtain ⟨h2, hF⟩ := fk hF
      refine aldR C hK hP 1 3 rfl rfl h2 dX0_allLost_18 ?_
      have hk3 : x2.toNatClampNeg < 4 := Nat.not_le.mp (fun q => h2 (Or.inr q))
      refine lv_aload_n C.1 C.2.1 dX0_allLost_19 rfl (lv_at hl 0 rfl) ?_
      refine gf_0_0_field C hK hP 0 rfl rfl dX0_allLost_20 ?_
      obtain ⟨r4, h5, hF⟩ := fb hF
      refine callVI C hK hA hP hD hS [2 + x2.toNatClampNeg] (c_X2_lost (a_this := a_rotors_e x2.toNatClampNeg) (v_sort := (v_rotorsF x2.toNatClampNeg).1) (v_grip := (v_rotorsF x2.toNatClampNeg).2.1) (v_place := (v_rotorsF x2.toNatClampNeg).2.2.1) (v_way := (v_rotorsF x2.toNatClampNeg).2.2.2) h5) cv_X2_lost kw2_163 (congrArg (fun z => [z]) (famget 2 (rcell a_rotors_e v_rotorsF) rfl rfl rfl rfl hk3)) rfl rfl rfl rfl ⟨Nat.le_of_ble_eq_true rfl, Nat.le_of_ble_eq_true rfl⟩ ⟨Nat.zero_le _, Nat.zero_le _⟩ hl.1 rfl (Nat.le_of_ble_eq_true rfl) dX0_allLost_23 (fun H locs hP hD hS => ?_)
      have hP := va_Pe (setL1.trans (setsame (famget 2 (rcell a_rotors_e v_rotorsF) rfl rfl rfl rfl hk3))) hP
      have hD := va_De (setL1.trans (setsame (famget 2 (rcell a_rotors_e v_rotorsF) rfl rfl rfl rfl hk3))) hD
      have hP : va_P D vwCl [(a_this, .inr (0, [.int v_field, .int v_tick, .int v_pace, .int v_signNumber, .int v_rotorNumber, .ref a_signs, .ref a_rotors])), (a_rotors, rfn cR 4 a_rotors_e), rcell a_rotors_e v_rotorsF 0, rcell a_rotors_e v_rotorsF 1, rcell a_rotors_e v_rotorsF 2, rcell a_rotors_e v_rotorsF 3] H := hP
      have hD : va_D A [(a_this, .inr (0, [.int v_field, .int v_tick, .int v_pace, .int v_signNumber, .int v_rotorNumber, .ref a_signs, .ref a_rotors])), (a_rotors, rfn cR 4 a_rotors_e), rcell a_rotors_e v_rotorsF 0, rcell a_rotors_e v_rotorsF 1, rcell a_rotors_e v_rotorsF 2, rcell a_rotors_e v_rotorsF 3] := hD
      refine va_mabs C.1 C.2.1 (C.2.2.1.trans hl.1.symm) C.2.2.2.1 (C.2.2.2.2 _ kw2_167) (C.2.2.2.2 _ kw2_157) (C.2.2.2.2 _ kw1_14) (C.2.2.2.2 _ kw2_158) (Nat.le_of_ble_eq_true rfl) (Nat.le_of_ble_eq_true rfl) (Nat.zero_le _) (Nat.zero_le _) dX0_allLost_26 ?_
      refine lv_iadd C.1 C.2.1 dX0_allLost_29 ?_
      refine lv_istore_n (lv' := [(1, .int (x1 + (iabs r4))), (0, .ref a_this), (2, .int x2)]) C.1 C.2.1 dX0_allLost_30 rfl hl (by decide) rfl (fun ls hl => ?_)
      refine lv_iinc (v := x2 + 1) (lv' := [(2, .int (x2 + 1)), (1, .int (x1 + (iabs r4))), (0, .ref a_this)]) C.1 C.2.1 dX0_allLost_31 hl (k := 2) rfl rfl (by decide) rfl (fun ls hl => ?_)
      refine lv_goto (tgt := 4) C.1 C.2.1 dX0_allLost_34 (by decide) ?_
      exact ih v_field v_rotorNumber v_rotorsF (x1 + (iabs r4)) (x2 + 1) _ _ _ hF hP hD hS (lv_sub hl [2, 1, 0] rfl)
set_option maxHeartbeats 4000000 in
set_option maxRecDepth 100000 in
theorem c_X0_allLost {l : Launch} {D : va_G} {cI cB cZ cR cM cS : ClassId} {a_this : Nat} {a_signs : Nat} {a_rotors : Nat} {a_rotors_e : Nat → Nat} {v_field : Int32} {v_tick : Int32} {v_pace : Int32} {v_signNumber : Int32} {v_rotorNumber : Int32} {v_rotorsF : Nat → Rot} {res : Int32} (hF : F_X0_allLost v_field v_rotorNumber v_rotorsF = some res) : MI l yX0_allLost cX0_allLost 3 .int rm_X0_allLost D (TS cI cB cZ cR cM cS) [.ref a_this] [(a_this, .inr (0, [.int v_field, .int v_tick, .int v_pace, .int v_signNumber, .int v_rotorNumber, .ref a_signs, .ref a_rotors])), (a_rotors, rfn cR 4 a_rotors_e), rcell a_rotors_e v_rotorsF 0, rcell a_rotors_e v_rotorsF 1, rcell a_rotors_e v_rotorsF 2, rcell a_rotors_e v_rotorsF 3] [(a_this, .inr (0, [.int v_field, .int v_tick, .int v_pace, .int v_signNumber, .int v_rotorNumber, .ref a_signs, .ref a_rotors])), (a_rotors, rfn cR 4 a_rotors_e), rcell a_rotors_e v_rotorsF 0, rcell a_rotors_e v_rotorsF 1, rcell a_rotors_e v_rotorsF 2, rcell a_rotors_e v_rotorsF 3] res :=
  MI_of (by decide) (Nat.le_of_ble_eq_true rfl) (fun p e s m args below meth c A ls C hr hlk hK hA hP hD hS hl => by
    have C : CX p m c cX0_allLost 3 s args RX0 := C
    have hl : lv_has ls 3 [(0, .ref a_this)] := hl
    unfold F_X0_allLost at hF
    refine lv_iconst (v := 0) C.1 C.2.1 dX0_allLost_0 (by decide) ?_
    refine lv_istore_n (lv' := [(1, .int (0 : Int32)), (0, .ref a_this)]) C.1 C.2.1 dX0_allLost_1 rfl hl (by decide) rfl (fun ls hl => ?_)
    refine lv_iconst (v := 0) C.1 C.2.1 dX0_allLost_2 (by decide) ?_
    refine lv_istore_n (lv' := [(2, .int (0 : Int32)), (1, .int (0 : Int32)), (0, .ref a_this)]) C.1 C.2.1 dX0_allLost_3 rfl hl (by decide) rfl (fun ls hl => ?_)
    exact b_X0_allLost_4 C hr hlk hK hA FU v_field v_rotorNumber v_rotorsF (0 : Int32) (0 : Int32) _ _ _ hF hP hD hS (lv_sub hl [2, 1, 0] rfl))
def rm_X0_moveField : Room := { frames := 0, cells := 0, slots := 0, locals := 0 }
theorem cv_X0_moveField : CV yX0_moveField cX0_moveField 2 none rm_X0_moveField RX0 1 := ⟨kw2_229, kw2_230, kw1_3, kw2_231, by decide +kernel, rfl, rfl⟩
set_option maxHeartbeats 4000000 in
set_option maxRecDepth 100000 in
theorem c_X0_moveField {l : Launch} {D : va_G} {cI cB cZ cR cM cS : ClassId} {a_this : Nat} {a_signs : Nat} {a_rotors : Nat} {v_field : Int32} {v_tick : Int32} {v_pace : Int32} {v_signNumber : Int32} {v_rotorNumber : Int32} {x1 : Int32} {res : Int32} (hF : F_X0_moveField v_field x1 = some res) : MV l yX0_moveField cX0_moveField 2 rm_X0_moveField D (TS cI cB cZ cR cM cS) [.ref a_this, .int x1] [(a_this, .inr (0, [.int v_field, .int v_tick, .int v_pace, .int v_signNumber, .int v_rotorNumber, .ref a_signs, .ref a_rotors]))] [(a_this, .inr (0, [.int res, .int v_tick, .int v_pace, .int v_signNumber, .int v_rotorNumber, .ref a_signs, .ref a_rotors]))] :=
  MV_of (by decide) (Nat.le_of_ble_eq_true rfl) (fun p e s m args below meth c A ls C hr hlk hK hA hP hD hS hl => by
    have C : CX p m c cX0_moveField 2 s args RX0 := C
    have hl : lv_has ls 2 [(0, .ref a_this), (1, .int x1)] := hl
    unfold F_X0_moveField at hF
    refine lv_iload_n C.1 C.2.1 dX0_moveField_0 rfl (lv_at hl 1 rfl) ?_
    by_cases c1 : x1 = (1 : Int32)
    · have hF := fp hF c1
      refine lv_tableIn (tgt := 28) C.1 C.2.1 dX0_moveField_1 (by rw [c1]; decide) (by rw [c1]; decide) (by rw [c1]; rfl) (by decide) ?_
      refine lv_aload_n C.1 C.2.1 dX0_moveField_28 rfl (lv_at hl 0 rfl) ?_
      refine lv_dup C.1 C.2.1 dX0_moveField_29 rfl ?_
      refine gf_0_0_field C hK hP 0 rfl rfl dX0_moveField_30 ?_
      refine lv_iconst (v := 1) C.1 C.2.1 dX0_moveField_33 (by decide) ?_
      refine lv_iadd C.1 C.2.1 dX0_moveField_34 ?_
      refine pf_0_0_field C hK hP hD hS 0 rfl rfl dX0_moveField_35 (fun H locs hP hD hS => ?_)
      have hP : va_P D vwCl [(a_this, .inr (0, [.int (v_field + (1 : Int32)), .int v_tick, .int v_pace, .int v_signNumber, .int v_rotorNumber, .ref a_signs, .ref a_rotors]))] H := hP
      have hD : va_D A [(a_this, .inr (0, [.int (v_field + (1 : Int32)), .int v_tick, .int v_pace, .int v_signNumber, .int v_rotorNumber, .ref a_signs, .ref a_rotors]))] := hD
      refine lv_goto (tgt := 67) C.1 C.2.1 dX0_moveField_38 (by decide) ?_
      have hF := Option.some.inj hF
      subst hF
      exact retV C hr hlk hP hD hS dX0_moveField_67
    · have hF := fn hF c1
      by_cases c2 : x1 = (2 : Int32)
      · have hF := fp hF c2
        refine lv_tableIn (tgt := 41) C.1 C.2.1 dX0_moveField_1 (by rw [c2]; decide) (by rw [c2]; decide) (by rw [c2]; rfl) (by decide) ?_
        refine lv_aload_n C.1 C.2.1 dX0_moveField_41 rfl (lv_at hl 0 rfl) ?_
        refine lv_dup C.1 C.2.1 dX0_moveField_42 rfl ?_
        refine gf_0_0_field C hK hP 0 rfl rfl dX0_moveField_43 ?_
        refine lv_iconst (v := 1) C.1 C.2.1 dX0_moveField_46 (by decide) ?_
        refine lv_isub C.1 C.2.1 dX0_moveField_47 ?_
        refine pf_0_0_field C hK hP hD hS 0 rfl rfl dX0_moveField_48 (fun H locs hP hD hS => ?_)
        have hP : va_P D vwCl [(a_this, .inr (0, [.int (v_field - (1 : Int32)), .int v_tick, .int v_pace, .int v_signNumber, .int v_rotorNumber, .ref a_signs, .ref a_rotors]))] H := hP
        have hD : va_D A [(a_this, .inr (0, [.int (v_field - (1 : Int32)), .int v_tick, .int v_pace, .int v_signNumber, .int v_rotorNumber, .ref a_signs, .ref a_rotors]))] := hD
        refine lv_goto (tgt := 67) C.1 C.2.1 dX0_moveField_51 (by decide) ?_
        have hF := Option.some.inj hF
        subst hF
        exact retV C hr hlk hP hD hS dX0_moveField_67
      · have hF := fn hF c2
        by_cases c3 : x1 = (3 : Int32)
        · have hF := fp hF c3
          refine lv_tableIn (tgt := 54) C.1 C.2.1 dX0_moveField_1 (by rw [c3]; decide) (by rw [c3]; decide) (by rw [c3]; rfl) (by decide) ?_
          refine lv_aload_n C.1 C.2.1 dX0_moveField_54 rfl (lv_at hl 0 rfl) ?_
          refine lv_dup C.1 C.2.1 dX0_moveField_55 rfl ?_
          refine gf_0_0_field C hK hP 0 rfl rfl dX0_moveField_56 ?_
          refine lv_iconst (v := 2) C.1 C.2.1 dX0_moveField_59 (by decide) ?_
          refine lv_iadd C.1 C.2.1 dX0_moveField_60 ?_
          refine pf_0_0_field C hK hP hD hS 0 rfl rfl dX0_moveField_61 (fun H locs hP hD hS => ?_)
          have hP : va_P D vwCl [(a_this, .inr (0, [.int (v_field + (2 : Int32)), .int v_tick, .int v_pace, .int v_signNumber, .int v_rotorNumber, .ref a_signs, .ref a_rotors]))] H := hP
          have hD : va_D A [(a_this, .inr (0, [.int (v_field + (2 : Int32)), .int v_tick, .int v_pace, .int v_signNumber, .int v_rotorNumber, .ref a_signs, .ref a_rotors]))] := hD
          refine lv_goto (tgt := 67) C.1 C.2.1 dX0_moveField_64 (by decide) ?_
          have hF := Option.some.inj hF
          subst hF
          exact retV C hr hlk hP hD hS dX0_moveField_67
        · have hF := fn hF c3
          refine lv_tableOut (tgt := 67) C.1 C.2.1 dX0_moveField_1 (by have q0 := lv_neT (k := 1) (a := 1) c1 (by decide); have q1 := lv_neT (k := 2) (a := 2) c2 (by decide); have q2 := lv_neT (k := 3) (a := 3) c3 (by decide); omega) (by decide) ?_
          have hF := Option.some.inj hF
          subst hF
          exact retV C hr hlk hP hD hS dX0_moveField_67)
def rm_X0_leadField : Room := { frames := 1, cells := 0, slots := 0, locals := 21 }
theorem cv_X0_leadField : CV yX0_leadField cX0_leadField 1 none rm_X0_leadField RX0 0 := ⟨kw2_225, kw2_226, kw1_3, kw2_227, by decide +kernel, rfl, rfl⟩
set_option maxHeartbeats 4000000 in
set_option maxRecDepth 100000 in
theorem c_X0_leadField {l : Launch} {D : va_G} {cI cB cZ cR cM cS : ClassId} {a_this : Nat} {a_signs : Nat} {a_rotors : Nat} {v_field : Int32} {v_tick : Int32} {v_pace : Int32} {v_signNumber : Int32} {v_rotorNumber : Int32} {v_signs : Nat → Int32} {res : Int32} (hF : F_X0_leadField v_field v_tick v_pace v_signNumber v_signs = some res) : MV l yX0_leadField cX0_leadField 1 rm_X0_leadField D (TS cI cB cZ cR cM cS) [.ref a_this] [(a_this, .inr (0, [.int v_field, .int v_tick, .int v_pace, .int v_signNumber, .int v_rotorNumber, .ref a_signs, .ref a_rotors])), (a_signs, .inl (cI, 16, .inl v_signs))] [(a_this, .inr (0, [.int res, .int v_tick, .int v_pace, .int v_signNumber, .int v_rotorNumber, .ref a_signs, .ref a_rotors])), (a_signs, .inl (cI, 16, .inl v_signs))] :=
  MV_of (by decide) (Nat.le_of_ble_eq_true rfl) (fun p e s m args below meth c A ls C hr hlk hK hA hP hD hS hl => by
    have C : CX p m c cX0_leadField 1 s args RX0 := C
    have hl : lv_has ls 1 [(0, .ref a_this)] := hl
    unfold F_X0_leadField at hF
    refine lv_aload_n C.1 C.2.1 dX0_leadField_0 rfl (lv_at hl 0 rfl) ?_
    refine gf_0_0_signNumber C hK hP 0 rfl rfl dX0_leadField_1 ?_
    refine lv_if_le (tgt := 49) C.1 C.2.1 dX0_leadField_4 (by decide) (fun c1 => ?_) (fun c1 => ?_)
    · have hF := fp hF c1
      have hF := Option.some.inj hF
      subst hF
      exact retV C hr hlk hP hD hS dX0_leadField_49
    · have hF := fn hF c1
      refine lv_aload_n C.1 C.2.1 dX0_leadField_7 rfl (lv_at hl 0 rfl) ?_
      refine gf_0_0_pace C hK hP 0 rfl rfl dX0_leadField_8 ?_
      refine lv_if_le (tgt := 49) C.1 C.2.1 dX0_leadField_11 (by decide) (fun c2 => ?_) (fun c2 => ?_)
      · have hF := fp hF c2
        have hF := Option.some.inj hF
        subst hF
        exact retV C hr hlk hP hD hS dX0_leadField_49
      · have hF := fn hF c2
        refine lv_aload_n C.1 C.2.1 dX0_leadField_14 rfl (lv_at hl 0 rfl) ?_
        refine gf_0_0_tick C hK hP 0 rfl rfl dX0_leadField_15 ?_
        refine lv_aload_n C.1 C.2.1 dX0_leadField_18 rfl (lv_at hl 0 rfl) ?_
        refine gf_0_0_pace C hK hP 0 rfl rfl dX0_leadField_19 ?_
        obtain ⟨h3, hF⟩ := fk hF
        refine lv_irem C.1 C.2.1 dX0_leadField_22 h3 ?_
        refine lv_if_ne (tgt := 49) C.1 C.2.1 dX0_leadField_23 (by decide) (fun c4 => ?_) (fun c4 => ?_)
        · have hF := fn hF c4
          have hF := Option.some.inj hF
          subst hF
          exact retV C hr hlk hP hD hS dX0_leadField_49
        · have hF := fp hF c4
          refine lv_aload_n C.1 C.2.1 dX0_leadField_26 rfl (lv_at hl 0 rfl) ?_
          refine lv_aload_n C.1 C.2.1 dX0_leadField_27 rfl (lv_at hl 0 rfl) ?_
          refine gf_0_0_signs C hK hP 0 rfl rfl dX0_leadField_28 ?_
          refine lv_aload_n C.1 C.2.1 dX0_leadField_31 rfl (lv_at hl 0 rfl) ?_
          refine gf_0_0_tick C hK hP 0 rfl rfl dX0_leadField_32 ?_
          refine lv_aload_n C.1 C.2.1 dX0_leadField_35 rfl (lv_at hl 0 rfl) ?_
          refine gf_0_0_pace C hK hP 0 rfl rfl dX0_leadField_36 ?_
          obtain ⟨h5, hF⟩ := fk hF
          refine lv_idiv C.1 C.2.1 dX0_leadField_39 h5 ?_
          refine lv_aload_n C.1 C.2.1 dX0_leadField_40 rfl (lv_at hl 0 rfl) ?_
          refine gf_0_0_signNumber C hK hP 0 rfl rfl dX0_leadField_41 ?_
          obtain ⟨h6, hF⟩ := fk hF
          refine lv_irem C.1 C.2.1 dX0_leadField_44 h6 ?_
          obtain ⟨h7, hF⟩ := fk hF
          refine va_iald C.1 C.2.1 hK.1 hP 1 0 rfl rfl h7 dX0_leadField_45 ?_
          obtain ⟨w8, h9, hF⟩ := fb hF
          refine callVV C hK hA hP hD hS [0] (c_X0_moveField (a_this := a_this) (a_signs := a_signs) (a_rotors := a_rotors) (v_field := v_field) (v_tick := v_tick) (v_pace := v_pace) (v_signNumber := v_signNumber) (v_rotorNumber := v_rotorNumber) h9) cv_X0_moveField kw2_228 rfl (by decide) rfl rfl rfl ⟨Nat.le_of_ble_eq_true rfl, Nat.le_of_ble_eq_true rfl⟩ ⟨Nat.zero_le _, Nat.zero_le _⟩ hl.1 rfl (Nat.le_of_ble_eq_true rfl) dX0_leadField_46 (fun H locs hP hD hS => ?_)
          have hP : va_P D vwCl [(a_this, .inr (0, [.int w8, .int v_tick, .int v_pace, .int v_signNumber, .int v_rotorNumber, .ref a_signs, .ref a_rotors])), (a_signs, .inl (cI, 16, .inl v_signs))] H := hP
          have hD : va_D A [(a_this, .inr (0, [.int w8, .int v_tick, .int v_pace, .int v_signNumber, .int v_rotorNumber, .ref a_signs, .ref a_rotors])), (a_signs, .inl (cI, 16, .inl v_signs))] := hD
          have hF := Option.some.inj hF
          subst hF
          exact retV C hr hlk hP hD hS dX0_leadField_49)
def rm_X2_steps : Room := { frames := 0, cells := 0, slots := 0, locals := 0 }
theorem cv_X2_steps : CV yX2_steps cX2_steps 3 (some .int) rm_X2_steps RX2 2 := ⟨kw3_2, kwp_16, kw1_4, kw3_3, by decide +kernel, rfl, rfl⟩
set_option maxHeartbeats 4000000 in
set_option maxRecDepth 100000 in
theorem c_X2_steps {l : Launch} {D : va_G} {cI cB cZ cR cM cS : ClassId} {a_this : Nat} {v_sort : Int32} {v_grip : Int32} {v_place : Int32} {v_way : Int32} {x1 : Int32} {x2 : Int32} {res : Int32} (hF : F_X2_steps v_sort v_way x1 x2 = some res) : MI l yX2_steps cX2_steps 3 .int rm_X2_steps D (TS cI cB cZ cR cM cS) [.ref a_this, .int x1, .int x2] [(a_this, .inr (2, [.int v_sort, .int v_grip, .int v_place, .int v_way]))] [(a_this, .inr (2, [.int v_sort, .int v_grip, .int v_place, .int v_way]))] res :=
  MI_of (by decide) (Nat.le_of_ble_eq_true rfl) (fun p e s m args below meth c A ls C hr hlk hK hA hP hD hS hl => by
    have C : CX p m c cX2_steps 3 s args RX2 := C
    have hl : lv_has ls 3 [(0, .ref a_this), (1, .int x1), (2, .int x2)] := hl
    unfold F_X2_steps at hF
    refine lv_aload_n C.1 C.2.1 dX2_steps_0 rfl (lv_at hl 0 rfl) ?_
    refine gf_2_2_sort C hK hP 0 rfl rfl dX2_steps_1 ?_
    by_cases c1 : v_sort = (0 : Int32)
    · have hF := fp hF c1
      refine lv_tableIn (tgt := 32) C.1 C.2.1 dX2_steps_4 (by rw [c1]; decide) (by rw [c1]; decide) (by rw [c1]; rfl) (by decide) ?_
      refine lv_iconst (v := 1) C.1 C.2.1 dX2_steps_32 (by decide) ?_
      have hF := Option.some.inj hF
      subst hF
      exact retI C hr hlk hP hD hS dX2_steps_33
    · have hF := fn hF c1
      by_cases c2 : v_sort = (1 : Int32)
      · have hF := fp hF c2
        refine lv_tableIn (tgt := 34) C.1 C.2.1 dX2_steps_4 (by rw [c2]; decide) (by rw [c2]; decide) (by rw [c2]; rfl) (by decide) ?_
        refine lv_iload_n C.1 C.2.1 dX2_steps_34 rfl (lv_at hl 1 rfl) ?_
        refine lv_iconst (v := 1) C.1 C.2.1 dX2_steps_35 (by decide) ?_
        refine lv_icmp_le (tgt := 43) C.1 C.2.1 dX2_steps_36 (by decide) (fun c3 => ?_) (fun c3 => ?_)
        · have hF := fp hF c3
          refine lv_iconst (v := 1) C.1 C.2.1 dX2_steps_43 (by decide) ?_
          have hF := Option.some.inj hF
          subst hF
          exact retI C hr hlk hP hD hS dX2_steps_44
        · have hF := fn hF c3
          refine lv_iconst (v := 2) C.1 C.2.1 dX2_steps_39 (by decide) ?_
          refine lv_goto (tgt := 44) C.1 C.2.1 dX2_steps_40 (by decide) ?_
          have hF := Option.some.inj hF
          subst hF
          exact retI C hr hlk hP hD hS dX2_steps_44
      · have hF := fn hF c2
        by_cases c4 : v_sort = (2 : Int32)
        · have hF := fp hF c4
          refine lv_tableIn (tgt := 45) C.1 C.2.1 dX2_steps_4 (by rw [c4]; decide) (by rw [c4]; decide) (by rw [c4]; rfl) (by decide) ?_
          refine lv_aload_n C.1 C.2.1 dX2_steps_45 rfl (lv_at hl 0 rfl) ?_
          refine gf_2_2_way C hK hP 0 rfl rfl dX2_steps_46 ?_
          refine lv_iload_n C.1 C.2.1 dX2_steps_49 rfl (lv_at hl 2 rfl) ?_
          refine lv_icmp_ne (tgt := 57) C.1 C.2.1 dX2_steps_50 (by decide) (fun c5 => ?_) (fun c5 => ?_)
          · have hF := fn hF c5
            refine lv_iconst (v := 0) C.1 C.2.1 dX2_steps_57 (by decide) ?_
            have hF := Option.some.inj hF
            subst hF
            exact retI C hr hlk hP hD hS dX2_steps_58
          · have hF := fp hF c5
            refine lv_iconst (v := 1) C.1 C.2.1 dX2_steps_53 (by decide) ?_
            refine lv_goto (tgt := 58) C.1 C.2.1 dX2_steps_54 (by decide) ?_
            have hF := Option.some.inj hF
            subst hF
            exact retI C hr hlk hP hD hS dX2_steps_58
        · have hF := fn hF c4
          refine lv_tableOut (tgt := 59) C.1 C.2.1 dX2_steps_4 (by have q0 := lv_neT (k := 0) (a := 0) c1 (by decide); have q1 := lv_neT (k := 1) (a := 1) c2 (by decide); have q2 := lv_neT (k := 2) (a := 2) c4 (by decide); omega) (by decide) ?_
          refine lv_aload_n C.1 C.2.1 dX2_steps_59 rfl (lv_at hl 0 rfl) ?_
          refine gf_2_2_way C hK hP 0 rfl rfl dX2_steps_60 ?_
          refine lv_iload_n C.1 C.2.1 dX2_steps_63 rfl (lv_at hl 2 rfl) ?_
          refine lv_icmp_ne (tgt := 76) C.1 C.2.1 dX2_steps_64 (by decide) (fun c6 => ?_) (fun c6 => ?_)
          · have hF := fn hF c6
            refine lv_iconst (v := 0) C.1 C.2.1 dX2_steps_76 (by decide) ?_
            have hF := Option.some.inj hF
            subst hF
            exact retI C hr hlk hP hD hS dX2_steps_77
          · have hF := fp hF c6
            refine lv_iload_n C.1 C.2.1 dX2_steps_67 rfl (lv_at hl 1 rfl) ?_
            refine lv_iconst (v := 1) C.1 C.2.1 dX2_steps_68 (by decide) ?_
            refine lv_icmp_le (tgt := 76) C.1 C.2.1 dX2_steps_69 (by decide) (fun c7 => ?_) (fun c7 => ?_)
            · have hF := fp hF c7
              refine lv_iconst (v := 0) C.1 C.2.1 dX2_steps_76 (by decide) ?_
              have hF := Option.some.inj hF
              subst hF
              exact retI C hr hlk hP hD hS dX2_steps_77
            · have hF := fn hF c7
              refine lv_iconst (v := 1) C.1 C.2.1 dX2_steps_72 (by decide) ?_
              refine lv_goto (tgt := 77) C.1 C.2.1 dX2_steps_73 (by decide) ?_
              have hF := Option.some.inj hF
              subst hF
              exact retI C hr hlk hP hD hS dX2_steps_77)
def rm_X2_follow : Room := { frames := 1, cells := 0, slots := 0, locals := 23 }
theorem cv_X2_follow : CV yX2_follow cX2_follow 6 (some .int) rm_X2_follow RX2 1 := ⟨kw2_237, kw2_238, kw1_4, kw2_239, by decide +kernel, rfl, rfl⟩
set_option maxHeartbeats 4000000 in
set_option maxRecDepth 100000 in
theorem b_X2_follow_84 {l : Launch} {D : va_G} {cI cB cZ cR cM cS : ClassId} {a_this : Nat} {p : Program} {e : Env} {s : State} {m : MethodId} {args : Array Value} {below : List Frame} {meth : Method} {c : Code} {A : Nat → Prop} {res : Int32 × Int32 × Int32} (C : CX p m c cX2_follow 6 s args RX2) (hr : meth.sig.returnType = (some .int)) (hlk : meth.locks = false) (hK : KK D (TS cI cB cZ cR cM cS) s) (hA : ∀ q, s.heap.size ≤ q → A q) : ∀ (v_sort : Int32) (v_grip : Int32) (v_place : Int32) (v_way : Int32) (x5 : Int32) (s0 : Int32) (H : Heap) (locs : List Loc) (ls : Array Slot), F_X2_follow_84 v_sort v_grip v_place v_way x5 s0 = some res → va_P D vwCl [(a_this, .inr (2, [.int v_sort, .int v_grip, .int v_place, .int v_way]))] H → va_D A [(a_this, .inr (2, [.int v_sort, .int v_grip, .int v_place, .int v_way]))] → va_S A s.heap H locs → lv_has ls 6 [(5, .int x5)] → W p l e rm_X2_follow s m args below meth c H locs 0 0 (MQ below (va_Qi (fun x (_ : Unit) => x = res.1) (BW D A [(a_this, .inr (2, [.int v_sort, .int v_grip, .int res.2.1, .int res.2.2]))]) A) args s 0 0 A) (F0 m 84 ls [.int s0, .ref a_this]) := by
  intro v_sort v_grip v_place v_way x5 s0 H locs ls hF  hP hD hS hl
  unfold F_X2_follow_84 at hF
  refine pf_2_2_way C hK hP hD hS 0 rfl rfl dX2_follow_84 (fun H locs hP hD hS => ?_)
  have hP : va_P D vwCl [(a_this, .inr (2, [.int v_sort, .int v_grip, .int v_place, .int s0]))] H := hP
  have hD : va_D A [(a_this, .inr (2, [.int v_sort, .int v_grip, .int v_place, .int s0]))] := hD
  refine lv_iload C.1 C.2.1 dX2_follow_87 (lv_at hl 0 rfl) ?_
  have hF := Option.some.inj hF
  subst hF
  exact retI C hr hlk hP hD hS dX2_follow_89
set_option maxHeartbeats 4000000 in
set_option maxRecDepth 100000 in
theorem b_X2_follow_82 {l : Launch} {D : va_G} {cI cB cZ cR cM cS : ClassId} {a_this : Nat} {p : Program} {e : Env} {s : State} {m : MethodId} {args : Array Value} {below : List Frame} {meth : Method} {c : Code} {A : Nat → Prop} {res : Int32 × Int32 × Int32} (C : CX p m c cX2_follow 6 s args RX2) (hr : meth.sig.returnType = (some .int)) (hlk : meth.locks = false) (hK : KK D (TS cI cB cZ cR cM cS) s) (hA : ∀ q, s.heap.size ≤ q → A q) : ∀ (v_sort : Int32) (v_grip : Int32) (v_place : Int32) (v_way : Int32) (x4 : Int32) (x5 : Int32) (H : Heap) (locs : List Loc) (ls : Array Slot), F_X2_follow_82 v_sort v_grip v_place v_way x4 x5 = some res → va_P D vwCl [(a_this, .inr (2, [.int v_sort, .int v_grip, .int v_place, .int v_way]))] H → va_D A [(a_this, .inr (2, [.int v_sort, .int v_grip, .int v_place, .int v_way]))] → va_S A s.heap H locs → lv_has ls 6 [(4, .int x4), (5, .int x5)] → W p l e rm_X2_follow s m args below meth c H locs 0 0 (MQ below (va_Qi (fun x (_ : Unit) => x = res.1) (BW D A [(a_this, .inr (2, [.int v_sort, .int v_grip, .int res.2.1, .int res.2.2]))]) A) args s 0 0 A) (F0 m 82 ls [.ref a_this]) := by
  intro v_sort v_grip v_place v_way x4 x5 H locs ls hF  hP hD hS hl
  unfold F_X2_follow_82 at hF
  refine lv_iload C.1 C.2.1 dX2_follow_82 (lv_at hl 0 rfl) ?_
  exact b_X2_follow_84 C hr hlk hK hA v_sort v_grip v_place v_way x5 x4 _ _ _ hF hP hD hS (lv_sub hl [1] rfl)
set_option maxHeartbeats 4000000 in
set_option maxRecDepth 100000 in
theorem b_X2_follow_39 {l : Launch} {D : va_G} {cI cB cZ cR cM cS : ClassId} {a_this : Nat} {p : Program} {e : Env} {s : State} {m : MethodId} {args : Array Value} {below : List Frame} {meth : Method} {c : Code} {A : Nat → Prop} {res : Int32 × Int32 × Int32} (C : CX p m c cX2_follow 6 s args RX2) (hr : meth.sig.returnType = (some .int)) (hlk : meth.locks = false) (hK : KK D (TS cI cB cZ cR cM cS) s) (hA : ∀ q, s.heap.size ≤ q → A q) : ∀ (v_sort : Int32) (v_grip : Int32) (v_place : Int32) (v_way : Int32) (x3 : Int32) (s0 : Int32) (H : Heap) (locs : List Loc) (ls : Array Slot), F_X2_follow_39 v_sort v_grip v_place v_way x3 s0 = some res → va_P D vwCl [(a_this, .inr (2, [.int v_sort, .int v_grip, .int v_place, .int v_way]))] H → va_D A [(a_this, .inr (2, [.int v_sort, .int v_grip, .int v_place, .int v_way]))] → va_S A s.heap H locs → lv_has ls 6 [(0, .ref a_this), (3, .int x3)] → W p l e rm_X2_follow s m args below meth c H locs 0 0 (MQ below (va_Qi (fun x (_ : Unit) => x = res.1) (BW D A [(a_this, .inr (2, [.int v_sort, .int v_grip, .int res.2.1, .int res.2.2]))]) A) args s 0 0 A) (F0 m 39 ls [.int s0]) := by
  intro v_sort v_grip v_place v_way x3 s0 H locs ls hF  hP hD hS hl
  unfold F_X2_follow_39 at hF
  refine lv_istore (lv' := [(4, .int s0), (0, .ref a_this), (3, .int x3)]) C.1 C.2.1 dX2_follow_39 hl (by decide) rfl (fun ls hl => ?_)
  refine lv_aload_n C.1 C.2.1 dX2_follow_41 rfl (lv_at hl 1 rfl) ?_
  refine lv_iload_n C.1 C.2.1 dX2_follow_42 rfl (lv_at hl 2 rfl) ?_
  refine lv_iload C.1 C.2.1 dX2_follow_43 (lv_at hl 0 rfl) ?_
  obtain ⟨r1, h2, hF⟩ := fb hF
  refine callVI C hK hA hP hD hS [0] (c_X2_steps (a_this := a_this) (v_sort := v_sort) (v_grip := v_grip) (v_place := v_place) (v_way := v_way) h2) cv_X2_steps kw3_0 rfl (by decide) rfl rfl rfl ⟨Nat.le_of_ble_eq_true rfl, Nat.le_of_ble_eq_true rfl⟩ ⟨Nat.zero_le _, Nat.zero_le _⟩ hl.1 rfl (Nat.le_of_ble_eq_true rfl) dX2_follow_45 (fun H locs hP hD hS => ?_)
  have hP : va_P D vwCl [(a_this, .inr (2, [.int v_sort, .int v_grip, .int v_place, .int v_way]))] H := hP
  have hD : va_D A [(a_this, .inr (2, [.int v_sort, .int v_grip, .int v_place, .int v_way]))] := hD
  refine lv_istore (lv' := [(5, .int r1), (4, .int s0), (0, .ref a_this), (3, .int x3)]) C.1 C.2.1 dX2_follow_48 hl (by decide) rfl (fun ls hl => ?_)
  refine lv_aload_n C.1 C.2.1 dX2_follow_50 rfl (lv_at hl 2 rfl) ?_
  refine lv_dup C.1 C.2.1 dX2_follow_51 rfl ?_
  refine gf_2_2_place C hK hP 0 rfl rfl dX2_follow_52 ?_
  refine lv_iload C.1 C.2.1 dX2_follow_55 (lv_at hl 0 rfl) ?_
  refine lv_iload C.1 C.2.1 dX2_follow_57 (lv_at hl 1 rfl) ?_
  refine lv_imul C.1 C.2.1 dX2_follow_59 ?_
  refine lv_iadd C.1 C.2.1 dX2_follow_60 ?_
  refine pf_2_2_place C hK hP hD hS 0 rfl rfl dX2_follow_61 (fun H locs hP hD hS => ?_)
  have hP : va_P D vwCl [(a_this, .inr (2, [.int v_sort, .int v_grip, .int (v_place + (r1 * s0)), .int v_way]))] H := hP
  have hD : va_D A [(a_this, .inr (2, [.int v_sort, .int v_grip, .int (v_place + (r1 * s0)), .int v_way]))] := hD
  refine lv_aload_n C.1 C.2.1 dX2_follow_64 rfl (lv_at hl 2 rfl) ?_
  refine lv_aload_n C.1 C.2.1 dX2_follow_65 rfl (lv_at hl 2 rfl) ?_
  refine gf_2_2_sort C hK hP 0 rfl rfl dX2_follow_66 ?_
  refine lv_iconst (v := 3) C.1 C.2.1 dX2_follow_69 (by decide) ?_
  refine lv_icmp_ne (tgt := 82) C.1 C.2.1 dX2_follow_70 (by decide) (fun c3 => ?_) (fun c3 => ?_)
  · have hF := fn hF c3
    exact b_X2_follow_82 C hr hlk hK hA v_sort v_grip (v_place + (r1 * s0)) v_way s0 r1 _ _ _ hF hP hD hS (lv_sub hl [1, 0] rfl)
  · have hF := fp hF c3
    refine lv_iload_n C.1 C.2.1 dX2_follow_73 rfl (lv_at hl 3 rfl) ?_
    refine lv_iconst (v := 1) C.1 C.2.1 dX2_follow_74 (by decide) ?_
    refine lv_icmp_ne (tgt := 82) C.1 C.2.1 dX2_follow_75 (by decide) (fun c4 => ?_) (fun c4 => ?_)
    · have hF := fn hF c4
      exact b_X2_follow_82 C hr hlk hK hA v_sort v_grip (v_place + (r1 * s0)) v_way s0 r1 _ _ _ hF hP hD hS (lv_sub hl [1, 0] rfl)
    · have hF := fp hF c4
      refine lv_iconst (v := 0) C.1 C.2.1 dX2_follow_78 (by decide) ?_
      refine lv_goto (tgt := 84) C.1 C.2.1 dX2_follow_79 (by decide) ?_
      exact b_X2_follow_84 C hr hlk hK hA v_sort v_grip (v_place + (r1 * s0)) v_way r1 (0 : Int32) _ _ _ hF hP hD hS (lv_sub hl [0] rfl)
set_option maxHeartbeats 4000000 in
set_option maxRecDepth 100000 in
theorem b_X2_follow_23 {l : Launch} {D : va_G} {cI cB cZ cR cM cS : ClassId} {a_this : Nat} {p : Program} {e : Env} {s : State} {m : MethodId} {args : Array Value} {below : List Frame} {meth : Method} {c : Code} {A : Nat → Prop} {res : Int32 × Int32 × Int32} (C : CX p m c cX2_follow 6 s args RX2) (hr : meth.sig.returnType = (some .int)) (hlk : meth.locks = false) (hK : KK D (TS cI cB cZ cR cM cS) s) (hA : ∀ q, s.heap.size ≤ q → A q) : ∀ (v_sort : Int32) (v_grip : Int32) (v_place : Int32) (v_way : Int32) (H : Heap) (locs : List Loc) (ls : Array Slot), F_X2_follow_23 v_sort v_grip v_place v_way = some res → va_P D vwCl [(a_this, .inr (2, [.int v_sort, .int v_grip, .int v_place, .int v_way]))] H → va_D A [(a_this, .inr (2, [.int v_sort, .int v_grip, .int v_place, .int v_way]))] → va_S A s.heap H locs → lv_has ls 6 [(0, .ref a_this)] → W p l e rm_X2_follow s m args below meth c H locs 0 0 (MQ below (va_Qi (fun x (_ : Unit) => x = res.1) (BW D A [(a_this, .inr (2, [.int v_sort, .int v_grip, .int res.2.1, .int res.2.2]))]) A) args s 0 0 A) (F0 m 23 ls []) := by
  intro v_sort v_grip v_place v_way H locs ls hF  hP hD hS hl
  unfold F_X2_follow_23 at hF
  refine lv_aload_n C.1 C.2.1 dX2_follow_23 rfl (lv_at hl 0 rfl) ?_
  refine lv_iconst (v := 0) C.1 C.2.1 dX2_follow_24 (by decide) ?_
  refine pf_2_2_way C hK hP hD hS 0 rfl rfl dX2_follow_25 (fun H locs hP hD hS => ?_)
  have hP : va_P D vwCl [(a_this, .inr (2, [.int v_sort, .int v_grip, .int v_place, .int (0 : Int32)]))] H := hP
  have hD : va_D A [(a_this, .inr (2, [.int v_sort, .int v_grip, .int v_place, .int (0 : Int32)]))] := hD
  refine lv_iconst (v := 0) C.1 C.2.1 dX2_follow_28 (by decide) ?_
  have hF := Option.some.inj hF
  subst hF
  exact retI C hr hlk hP hD hS dX2_follow_29
set_option maxHeartbeats 4000000 in
set_option maxRecDepth 100000 in
theorem c0_X2_follow {l : Launch} {D : va_G} {cI cB cZ cR cM cS : ClassId} {a_this : Nat} {v_sort : Int32} {v_grip : Int32} {v_place : Int32} {v_way : Int32} {x1 : Int32} {res : Int32 × Int32 × Int32} (hF : F_X2_follow v_sort v_grip v_place v_way x1 = some res) : MI l yX2_follow cX2_follow 6 .int rm_X2_follow D (TS cI cB cZ cR cM cS) [.ref a_this, .int x1] [(a_this, .inr (2, [.int v_sort, .int v_grip, .int v_place, .int v_way]))] [(a_this, .inr (2, [.int v_sort, .int v_grip, .int res.2.1, .int res.2.2]))] res.1 :=
  MI_of (by decide) (Nat.le_of_ble_eq_true rfl) (fun p e s m args below meth c A ls C hr hlk hK hA hP hD hS hl => by
    have C : CX p m c cX2_follow 6 s args RX2 := C
    have hl : lv_has ls 6 [(0, .ref a_this), (1, .int x1)] := hl
    unfold F_X2_follow at hF
    refine lv_aload_n C.1 C.2.1 dX2_follow_0 rfl (lv_at hl 0 rfl) ?_
    refine lv_iload_n C.1 C.2.1 dX2_follow_1 rfl (lv_at hl 1 rfl) ?_
    obtain ⟨r1, h2, hF⟩ := fb hF
    refine callVI C hK hA hP hD hS [0] (c_X2_off (a_this := a_this) (v_sort := v_sort) (v_grip := v_grip) (v_place := v_place) (v_way := v_way) h2) cv_X2_off kw2_152 rfl (by decide) rfl rfl rfl ⟨Nat.le_of_ble_eq_true rfl, Nat.le_of_ble_eq_true rfl⟩ ⟨Nat.zero_le _, Nat.zero_le _⟩ hl.1 rfl (Nat.le_of_ble_eq_true rfl) dX2_follow_2 (fun H locs hP hD hS => ?_)
    have hP : va_P D vwCl [(a_this, .inr (2, [.int v_sort, .int v_grip, .int v_place, .int v_way]))] H := hP
    have hD : va_D A [(a_this, .inr (2, [.int v_sort, .int v_grip, .int v_place, .int v_way]))] := hD
    refine lv_istore_n (lv' := [(2, .int r1), (0, .ref a_this), (1, .int x1)]) C.1 C.2.1 dX2_follow_5 rfl hl (by decide) rfl (fun ls hl => ?_)
    refine lv_iload_n C.1 C.2.1 dX2_follow_6 rfl (lv_at hl 0 rfl) ?_
    refine va_mabs C.1 C.2.1 (C.2.2.1.trans hl.1.symm) C.2.2.2.1 (C.2.2.2.2 _ kw2_156) (C.2.2.2.2 _ kw2_157) (C.2.2.2.2 _ kw1_14) (C.2.2.2.2 _ kw2_158) (Nat.le_of_ble_eq_true rfl) (Nat.le_of_ble_eq_true rfl) (Nat.zero_le _) (Nat.zero_le _) dX2_follow_7 ?_
    refine lv_istore_n (lv' := [(3, .int (iabs r1)), (2, .int r1), (0, .ref a_this), (1, .int x1)]) C.1 C.2.1 dX2_follow_10 rfl hl (by decide) rfl (fun ls hl => ?_)
    refine lv_iload_n C.1 C.2.1 dX2_follow_11 rfl (lv_at hl 0 rfl) ?_
    refine lv_if_eq (tgt := 23) C.1 C.2.1 dX2_follow_12 (by decide) (fun c3 => ?_) (fun c3 => ?_)
    · have hF := fp hF c3
      exact b_X2_follow_23 C hr hlk hK hA v_sort v_grip v_place v_way _ _ _ hF hP hD hS (lv_sub hl [2] rfl)
    · have hF := fn hF c3
      refine lv_iload_n C.1 C.2.1 dX2_follow_15 rfl (lv_at hl 0 rfl) ?_
      refine lv_aload_n C.1 C.2.1 dX2_follow_16 rfl (lv_at hl 2 rfl) ?_
      refine gf_2_2_grip C hK hP 0 rfl rfl dX2_follow_17 ?_
      refine lv_icmp_le (tgt := 30) C.1 C.2.1 dX2_follow_20 (by decide) (fun c4 => ?_) (fun c4 => ?_)
      · have hF := fp hF c4
        refine lv_iload_n C.1 C.2.1 dX2_follow_30 rfl (lv_at hl 1 rfl) ?_
        refine lv_if_ge (tgt := 38) C.1 C.2.1 dX2_follow_31 (by decide) (fun c5 => ?_) (fun c5 => ?_)
        · have hF := fp hF c5
          refine lv_iconst (v := 1) C.1 C.2.1 dX2_follow_38 (by decide) ?_
          exact b_X2_follow_39 C hr hlk hK hA v_sort v_grip v_place v_way (iabs r1) (1 : Int32) _ _ _ hF hP hD hS (lv_sub hl [2, 0] rfl)
        · have hF := fn hF c5
          refine lv_iconst (v := (-1)) C.1 C.2.1 dX2_follow_34 (by decide) ?_
          refine lv_goto (tgt := 39) C.1 C.2.1 dX2_follow_35 (by decide) ?_
          exact b_X2_follow_39 C hr hlk hK hA v_sort v_grip v_place v_way (iabs r1) ((-1) : Int32) _ _ _ hF hP hD hS (lv_sub hl [2, 0] rfl)
      · have hF := fn hF c4
        exact b_X2_follow_23 C hr hlk hK hA v_sort v_grip v_place v_way _ _ _ hF hP hD hS (lv_sub hl [2] rfl))
theorem c_X2_follow {l : Launch} {D : va_G} {cI cB cZ cR cM cS : ClassId} {a_this : Nat} {v_sort : Int32} {v_grip : Int32} {v_place : Int32} {v_way : Int32} {x1 : Int32} {r_ : Int32} {v_place' : Int32} {v_way' : Int32} (hF : F_X2_follow v_sort v_grip v_place v_way x1 = some (r_, v_place', v_way')) : MI l yX2_follow cX2_follow 6 .int rm_X2_follow D (TS cI cB cZ cR cM cS) [.ref a_this, .int x1] [(a_this, .inr (2, [.int v_sort, .int v_grip, .int v_place, .int v_way]))] [(a_this, .inr (2, [.int v_sort, .int v_grip, .int v_place', .int v_way']))] r_ :=
  c0_X2_follow (res := (r_, v_place', v_way')) hF
def rm_X0_pullRotors : Room := { frames := 2, cells := 0, slots := 0, locals := 48 }
theorem cv_X0_pullRotors : CV yX0_pullRotors cX0_pullRotors 3 (some .int) rm_X0_pullRotors RX0 0 := ⟨kw2_233, kw2_234, kw1_3, kw2_235, by decide +kernel, rfl, rfl⟩
set_option maxHeartbeats 4000000 in
set_option maxRecDepth 100000 in
theorem b_X0_pullRotors_4 {l : Launch} {D : va_G} {cI cB cZ cR cM cS : ClassId} {a_this : Nat} {a_signs : Nat} {a_rotors : Nat} {a_rotors_e : Nat → Nat} {v_pace : Int32} {v_signNumber : Int32} {p : Program} {e : Env} {s : State} {m : MethodId} {args : Array Value} {below : List Frame} {meth : Method} {c : Code} {A : Nat → Prop} {res : Int32 × Int32 × (Nat → Rot)} (C : CX p m c cX0_pullRotors 3 s args RX0) (hr : meth.sig.returnType = (some .int)) (hlk : meth.locks = false) (hK : KK D (TS cI cB cZ cR cM cS) s) (hA : ∀ q, s.heap.size ≤ q → A q) : ∀ (fu : Nat) (v_field : Int32) (v_tick : Int32) (v_rotorNumber : Int32) (v_rotorsF : Nat → Rot) (x1 : Int32) (x2 : Int32) (H : Heap) (locs : List Loc) (ls : Array Slot), F_X0_pullRotors_4 fu v_field v_tick v_rotorNumber v_rotorsF x1 x2 = some res → va_P D vwCl [(a_this, .inr (0, [.int v_field, .int v_tick, .int v_pace, .int v_signNumber, .int v_rotorNumber, .ref a_signs, .ref a_rotors])), (a_rotors, rfn cR 4 a_rotors_e), rcell a_rotors_e v_rotorsF 0, rcell a_rotors_e v_rotorsF 1, rcell a_rotors_e v_rotorsF 2, rcell a_rotors_e v_rotorsF 3] H → va_D A [(a_this, .inr (0, [.int v_field, .int v_tick, .int v_pace, .int v_signNumber, .int v_rotorNumber, .ref a_signs, .ref a_rotors])), (a_rotors, rfn cR 4 a_rotors_e), rcell a_rotors_e v_rotorsF 0, rcell a_rotors_e v_rotorsF 1, rcell a_rotors_e v_rotorsF 2, rcell a_rotors_e v_rotorsF 3] → va_S A s.heap H locs → lv_has ls 3 [(0, .ref a_this), (1, .int x1), (2, .int x2)] → W p l e rm_X0_pullRotors s m args below meth c H locs 0 0 (MQ below (va_Qi (fun x (_ : Unit) => x = res.1) (BW D A [(a_this, .inr (0, [.int v_field, .int res.2.1, .int v_pace, .int v_signNumber, .int v_rotorNumber, .ref a_signs, .ref a_rotors])), (a_rotors, rfn cR 4 a_rotors_e), rcell a_rotors_e res.2.2 0, rcell a_rotors_e res.2.2 1, rcell a_rotors_e res.2.2 2, rcell a_rotors_e res.2.2 3]) A) args s 0 0 A) (F0 m 4 ls []) := by
  intro fu
  induction fu with
  | zero => intro v_field v_tick v_rotorNumber v_rotorsF x1 x2 H locs ls hF; cases hF
  | succ fu ih =>
    intro v_field v_tick v_rotorNumber v_rotorsF x1 x2 H locs ls hF  hP hD hS hl
    unfold F_X0_pullRotors_4 at hF
    refine lv_iload_n C.1 C.2.1 dX0_pullRotors_4 rfl (lv_at hl 2 rfl) ?_
    refine lv_aload_n C.1 C.2.1 dX0_pullRotors_5 rfl (lv_at hl 0 rfl) ?_
    refine gf_0_0_rotorNumber C hK hP 0 rfl rfl dX0_pullRotors_6 ?_
    refine lv_icmp_ge (tgt := 34) C.1 C.2.1 dX0_pullRotors_9 (by decide) (fun c1 => ?_) (fun c1 => ?_)
    · have hF := fp hF c1
      refine lv_aload_n C.1 C.2.1 dX0_pullRotors_34 rfl (lv_at hl 0 rfl) ?_
      refine lv_dup C.1 C.2.1 dX0_pullRotors_35 rfl ?_
      refine gf_0_0_tick C hK hP 0 rfl rfl dX0_pullRotors_36 ?_
      refine lv_iconst (v := 1) C.1 C.2.1 dX0_pullRotors_39 (by decide) ?_
      refine lv_iadd C.1 C.2.1 dX0_pullRotors_40 ?_
      refine pf_0_0_tick C hK hP hD hS 0 rfl rfl dX0_pullRotors_41 (fun H locs hP hD hS => ?_)
      have hP : va_P D vwCl [(a_this, .inr (0, [.int v_field, .int (v_tick + (1 : Int32)), .int v_pace, .int v_signNumber, .int v_rotorNumber, .ref a_signs, .ref a_rotors])), (a_rotors, rfn cR 4 a_rotors_e), rcell a_rotors_e v_rotorsF 0, rcell a_rotors_e v_rotorsF 1, rcell a_rotors_e v_rotorsF 2, rcell a_rotors_e v_rotorsF 3] H := hP
      have hD : va_D A [(a_this, .inr (0, [.int v_field, .int (v_tick + (1 : Int32)), .int v_pace, .int v_signNumber, .int v_rotorNumber, .ref a_signs, .ref a_rotors])), (a_rotors, rfn cR 4 a_rotors_e), rcell a_rotors_e v_rotorsF 0, rcell a_rotors_e v_rotorsF 1, rcell a_rotors_e v_rotorsF 2, rcell a_rotors_e v_rotorsF 3] := hD
      refine lv_iload_n C.1 C.2.1 dX0_pullRotors_44 rfl (lv_at hl 1 rfl) ?_
      have hF := Option.some.inj hF
      subst hF
      exact retI C hr hlk hP hD hS dX0_pullRotors_45
    · have hF := fn hF c1
      refine lv_iload_n C.1 C.2.1 dX0_pullRotors_12 rfl (lv_at hl 1 rfl) ?_
      refine lv_aload_n C.1 C.2.1 dX0_pullRotors_13 rfl (lv_at hl 0 rfl) ?_
      refine gf_0_0_rotors C hK hP 0 rfl rfl dX0_pullRotors_14 ?_
      refine lv_iload_n C.1 C.2.1 dX0_pullRotors_17 rfl (lv_at hl 2 rfl) ?_
      obtain ⟨h2, hF⟩ := fk hF
      refine aldR C hK hP 1 3 rfl rfl h2 dX0_pullRotors_18 ?_
      have hk3 : x2.toNatClampNeg < 4 := Nat.not_le.mp (fun q => h2 (Or.inr q))
      refine lv_aload_n C.1 C.2.1 dX0_pullRotors_19 rfl (lv_at hl 0 rfl) ?_
      refine gf_0_0_field C hK hP 0 rfl rfl dX0_pullRotors_20 ?_
      obtain ⟨⟨r4, w5, w6⟩, h7, hF⟩ := fb hF
      refine callVI C hK hA hP hD hS [2 + x2.toNatClampNeg] (c_X2_follow (a_this := a_rotors_e x2.toNatClampNeg) (v_sort := (v_rotorsF x2.toNatClampNeg).1) (v_grip := (v_rotorsF x2.toNatClampNeg).2.1) (v_place := (v_rotorsF x2.toNatClampNeg).2.2.1) (v_way := (v_rotorsF x2.toNatClampNeg).2.2.2) h7) cv_X2_follow kw2_236 (congrArg (fun z => [z]) (famget 2 (rcell a_rotors_e v_rotorsF) rfl rfl rfl rfl hk3)) rfl rfl rfl rfl ⟨Nat.le_of_ble_eq_true rfl, Nat.le_of_ble_eq_true rfl⟩ ⟨Nat.zero_le _, Nat.zero_le _⟩ hl.1 rfl (Nat.le_of_ble_eq_true rfl) dX0_pullRotors_23 (fun H locs hP hD hS => ?_)
      have hP := va_Pe (setL1.trans (famsetR (a := a_rotors_e) (ρ := v_rotorsF) 2 rfl rfl rfl rfl hk3 ((v_rotorsF x2.toNatClampNeg).1) ((v_rotorsF x2.toNatClampNeg).2.1) w5 w6)) hP
      have hD := va_De (setL1.trans (famsetR (a := a_rotors_e) (ρ := v_rotorsF) 2 rfl rfl rfl rfl hk3 ((v_rotorsF x2.toNatClampNeg).1) ((v_rotorsF x2.toNatClampNeg).2.1) w5 w6)) hD
      have hP : va_P D vwCl [(a_this, .inr (0, [.int v_field, .int v_tick, .int v_pace, .int v_signNumber, .int v_rotorNumber, .ref a_signs, .ref a_rotors])), (a_rotors, rfn cR 4 a_rotors_e), rcell a_rotors_e (up v_rotorsF x2.toNatClampNeg ((v_rotorsF x2.toNatClampNeg).1, (v_rotorsF x2.toNatClampNeg).2.1, w5, w6)) 0, rcell a_rotors_e (up v_rotorsF x2.toNatClampNeg ((v_rotorsF x2.toNatClampNeg).1, (v_rotorsF x2.toNatClampNeg).2.1, w5, w6)) 1, rcell a_rotors_e (up v_rotorsF x2.toNatClampNeg ((v_rotorsF x2.toNatClampNeg).1, (v_rotorsF x2.toNatClampNeg).2.1, w5, w6)) 2, rcell a_rotors_e (up v_rotorsF x2.toNatClampNeg ((v_rotorsF x2.toNatClampNeg).1, (v_rotorsF x2.toNatClampNeg).2.1, w5, w6)) 3] H := hP
      have hD : va_D A [(a_this, .inr (0, [.int v_field, .int v_tick, .int v_pace, .int v_signNumber, .int v_rotorNumber, .ref a_signs, .ref a_rotors])), (a_rotors, rfn cR 4 a_rotors_e), rcell a_rotors_e (up v_rotorsF x2.toNatClampNeg ((v_rotorsF x2.toNatClampNeg).1, (v_rotorsF x2.toNatClampNeg).2.1, w5, w6)) 0, rcell a_rotors_e (up v_rotorsF x2.toNatClampNeg ((v_rotorsF x2.toNatClampNeg).1, (v_rotorsF x2.toNatClampNeg).2.1, w5, w6)) 1, rcell a_rotors_e (up v_rotorsF x2.toNatClampNeg ((v_rotorsF x2.toNatClampNeg).1, (v_rotorsF x2.toNatClampNeg).2.1, w5, w6)) 2, rcell a_rotors_e (up v_rotorsF x2.toNatClampNeg ((v_rotorsF x2.toNatClampNeg).1, (v_rotorsF x2.toNatClampNeg).2.1, w5, w6)) 3] := hD
      refine lv_iadd C.1 C.2.1 dX0_pullRotors_26 ?_
      refine lv_istore_n (lv' := [(1, .int (x1 + r4)), (0, .ref a_this), (2, .int x2)]) C.1 C.2.1 dX0_pullRotors_27 rfl hl (by decide) rfl (fun ls hl => ?_)
      refine lv_iinc (v := x2 + 1) (lv' := [(2, .int (x2 + 1)), (1, .int (x1 + r4)), (0, .ref a_this)]) C.1 C.2.1 dX0_pullRotors_28 hl (k := 2) rfl rfl (by decide) rfl (fun ls hl => ?_)
      refine lv_goto (tgt := 4) C.1 C.2.1 dX0_pullRotors_31 (by decide) ?_
      exact ih v_field v_tick v_rotorNumber (up v_rotorsF x2.toNatClampNeg ((v_rotorsF x2.toNatClampNeg).1, (v_rotorsF x2.toNatClampNeg).2.1, w5, w6)) (x1 + r4) (x2 + 1) _ _ _ hF hP hD hS (lv_sub hl [2, 1, 0] rfl)
set_option maxHeartbeats 4000000 in
set_option maxRecDepth 100000 in
theorem c0_X0_pullRotors {l : Launch} {D : va_G} {cI cB cZ cR cM cS : ClassId} {a_this : Nat} {a_signs : Nat} {a_rotors : Nat} {a_rotors_e : Nat → Nat} {v_field : Int32} {v_tick : Int32} {v_pace : Int32} {v_signNumber : Int32} {v_rotorNumber : Int32} {v_rotorsF : Nat → Rot} {res : Int32 × Int32 × (Nat → Rot)} (hF : F_X0_pullRotors v_field v_tick v_rotorNumber v_rotorsF = some res) : MI l yX0_pullRotors cX0_pullRotors 3 .int rm_X0_pullRotors D (TS cI cB cZ cR cM cS) [.ref a_this] [(a_this, .inr (0, [.int v_field, .int v_tick, .int v_pace, .int v_signNumber, .int v_rotorNumber, .ref a_signs, .ref a_rotors])), (a_rotors, rfn cR 4 a_rotors_e), rcell a_rotors_e v_rotorsF 0, rcell a_rotors_e v_rotorsF 1, rcell a_rotors_e v_rotorsF 2, rcell a_rotors_e v_rotorsF 3] [(a_this, .inr (0, [.int v_field, .int res.2.1, .int v_pace, .int v_signNumber, .int v_rotorNumber, .ref a_signs, .ref a_rotors])), (a_rotors, rfn cR 4 a_rotors_e), rcell a_rotors_e res.2.2 0, rcell a_rotors_e res.2.2 1, rcell a_rotors_e res.2.2 2, rcell a_rotors_e res.2.2 3] res.1 :=
  MI_of (by decide) (Nat.le_of_ble_eq_true rfl) (fun p e s m args below meth c A ls C hr hlk hK hA hP hD hS hl => by
    have C : CX p m c cX0_pullRotors 3 s args RX0 := C
    have hl : lv_has ls 3 [(0, .ref a_this)] := hl
    unfold F_X0_pullRotors at hF
    refine lv_iconst (v := 0) C.1 C.2.1 dX0_pullRotors_0 (by decide) ?_
    refine lv_istore_n (lv' := [(1, .int (0 : Int32)), (0, .ref a_this)]) C.1 C.2.1 dX0_pullRotors_1 rfl hl (by decide) rfl (fun ls hl => ?_)
    refine lv_iconst (v := 0) C.1 C.2.1 dX0_pullRotors_2 (by decide) ?_
    refine lv_istore_n (lv' := [(2, .int (0 : Int32)), (1, .int (0 : Int32)), (0, .ref a_this)]) C.1 C.2.1 dX0_pullRotors_3 rfl hl (by decide) rfl (fun ls hl => ?_)
    exact b_X0_pullRotors_4 C hr hlk hK hA FU v_field v_tick v_rotorNumber v_rotorsF (0 : Int32) (0 : Int32) _ _ _ hF hP hD hS (lv_sub hl [2, 1, 0] rfl))
theorem c_X0_pullRotors {l : Launch} {D : va_G} {cI cB cZ cR cM cS : ClassId} {a_this : Nat} {a_signs : Nat} {a_rotors : Nat} {a_rotors_e : Nat → Nat} {v_field : Int32} {v_tick : Int32} {v_pace : Int32} {v_signNumber : Int32} {v_rotorNumber : Int32} {v_rotorsF : Nat → Rot} {r_ : Int32} {v_tick' : Int32} {v_rotorsF' : Nat → Rot} (hF : F_X0_pullRotors v_field v_tick v_rotorNumber v_rotorsF = some (r_, v_tick', v_rotorsF')) : MI l yX0_pullRotors cX0_pullRotors 3 .int rm_X0_pullRotors D (TS cI cB cZ cR cM cS) [.ref a_this] [(a_this, .inr (0, [.int v_field, .int v_tick, .int v_pace, .int v_signNumber, .int v_rotorNumber, .ref a_signs, .ref a_rotors])), (a_rotors, rfn cR 4 a_rotors_e), rcell a_rotors_e v_rotorsF 0, rcell a_rotors_e v_rotorsF 1, rcell a_rotors_e v_rotorsF 2, rcell a_rotors_e v_rotorsF 3] [(a_this, .inr (0, [.int v_field, .int v_tick', .int v_pace, .int v_signNumber, .int v_rotorNumber, .ref a_signs, .ref a_rotors])), (a_rotors, rfn cR 4 a_rotors_e), rcell a_rotors_e v_rotorsF' 0, rcell a_rotors_e v_rotorsF' 1, rcell a_rotors_e v_rotorsF' 2, rcell a_rotors_e v_rotorsF' 3] r_ :=
  c0_X0_pullRotors (res := (r_, v_tick', v_rotorsF')) hF
def rm_X0_go : Room := { frames := 3, cells := 0, slots := 0, locals := 70 }
theorem cv_X0_go : CV yX0_go cX0_go 4 (some .int) rm_X0_go RX0 1 := ⟨kw2_221, kw2_222, kw1_3, kw2_223, by decide +kernel, rfl, rfl⟩
set_option maxHeartbeats 4000000 in
set_option maxRecDepth 100000 in
theorem b_X0_go_4 {l : Launch} {D : va_G} {cI cB cZ cR cM cS : ClassId} {a_this : Nat} {a_signs : Nat} {a_rotors : Nat} {a_rotors_e : Nat → Nat} {p : Program} {e : Env} {s : State} {m : MethodId} {args : Array Value} {below : List Frame} {meth : Method} {c : Code} {A : Nat → Prop} {res : Int32 × Int32 × Int32 × (Nat → Rot)} (C : CX p m c cX0_go 4 s args RX0) (hr : meth.sig.returnType = (some .int)) (hlk : meth.locks = false) (hK : KK D (TS cI cB cZ cR cM cS) s) (hA : ∀ q, s.heap.size ≤ q → A q) : ∀ (fu : Nat) (v_field : Int32) (v_tick : Int32) (v_pace : Int32) (v_signNumber : Int32) (v_rotorNumber : Int32) (v_signs : Nat → Int32) (v_rotorsF : Nat → Rot) (x1 : Int32) (x2 : Int32) (x3 : Int32) (H : Heap) (locs : List Loc) (ls : Array Slot), F_X0_go_4 fu v_field v_tick v_pace v_signNumber v_rotorNumber v_signs v_rotorsF x1 x2 x3 = some res → va_P D vwCl [(a_this, .inr (0, [.int v_field, .int v_tick, .int v_pace, .int v_signNumber, .int v_rotorNumber, .ref a_signs, .ref a_rotors])), (a_signs, .inl (cI, 16, .inl v_signs)), (a_rotors, rfn cR 4 a_rotors_e), rcell a_rotors_e v_rotorsF 0, rcell a_rotors_e v_rotorsF 1, rcell a_rotors_e v_rotorsF 2, rcell a_rotors_e v_rotorsF 3] H → va_D A [(a_this, .inr (0, [.int v_field, .int v_tick, .int v_pace, .int v_signNumber, .int v_rotorNumber, .ref a_signs, .ref a_rotors])), (a_signs, .inl (cI, 16, .inl v_signs)), (a_rotors, rfn cR 4 a_rotors_e), rcell a_rotors_e v_rotorsF 0, rcell a_rotors_e v_rotorsF 1, rcell a_rotors_e v_rotorsF 2, rcell a_rotors_e v_rotorsF 3] → va_S A s.heap H locs → lv_has ls 4 [(0, .ref a_this), (1, .int x1), (2, .int x2), (3, .int x3)] → W p l e rm_X0_go s m args below meth c H locs 0 0 (MQ below (va_Qi (fun x (_ : Unit) => x = res.1) (BW D A [(a_this, .inr (0, [.int res.2.1, .int res.2.2.1, .int v_pace, .int v_signNumber, .int v_rotorNumber, .ref a_signs, .ref a_rotors])), (a_signs, .inl (cI, 16, .inl v_signs)), (a_rotors, rfn cR 4 a_rotors_e), rcell a_rotors_e res.2.2.2 0, rcell a_rotors_e res.2.2.2 1, rcell a_rotors_e res.2.2.2 2, rcell a_rotors_e res.2.2.2 3]) A) args s 0 0 A) (F0 m 4 ls []) := by
  intro fu
  induction fu with
  | zero => intro v_field v_tick v_pace v_signNumber v_rotorNumber v_signs v_rotorsF x1 x2 x3 H locs ls hF; cases hF
  | succ fu ih =>
    intro v_field v_tick v_pace v_signNumber v_rotorNumber v_signs v_rotorsF x1 x2 x3 H locs ls hF  hP hD hS hl
    unfold F_X0_go_4 at hF
    refine lv_iload_n C.1 C.2.1 dX0_go_4 rfl (lv_at hl 3 rfl) ?_
    refine lv_iload_n C.1 C.2.1 dX0_go_5 rfl (lv_at hl 1 rfl) ?_
    refine lv_icmp_ge (tgt := 26) C.1 C.2.1 dX0_go_6 (by decide) (fun c1 => ?_) (fun c1 => ?_)
    · have hF := fp hF c1
      refine lv_iload_n C.1 C.2.1 dX0_go_26 rfl (lv_at hl 2 rfl) ?_
      have hF := Option.some.inj hF
      subst hF
      exact retI C hr hlk hP hD hS dX0_go_27
    · have hF := fn hF c1
      refine lv_aload_n C.1 C.2.1 dX0_go_9 rfl (lv_at hl 0 rfl) ?_
      obtain ⟨w2, h3, hF⟩ := fb hF
      refine callVV C hK hA hP hD hS [0, 1] (c_X0_leadField (a_this := a_this) (a_signs := a_signs) (a_rotors := a_rotors) (v_field := v_field) (v_tick := v_tick) (v_pace := v_pace) (v_signNumber := v_signNumber) (v_rotorNumber := v_rotorNumber) (v_signs := v_signs) h3) cv_X0_leadField kw2_224 rfl (by decide) rfl rfl rfl ⟨Nat.le_of_ble_eq_true rfl, Nat.le_of_ble_eq_true rfl⟩ ⟨Nat.zero_le _, Nat.zero_le _⟩ hl.1 rfl (Nat.le_of_ble_eq_true rfl) dX0_go_10 (fun H locs hP hD hS => ?_)
      have hP : va_P D vwCl [(a_this, .inr (0, [.int w2, .int v_tick, .int v_pace, .int v_signNumber, .int v_rotorNumber, .ref a_signs, .ref a_rotors])), (a_signs, .inl (cI, 16, .inl v_signs)), (a_rotors, rfn cR 4 a_rotors_e), rcell a_rotors_e v_rotorsF 0, rcell a_rotors_e v_rotorsF 1, rcell a_rotors_e v_rotorsF 2, rcell a_rotors_e v_rotorsF 3] H := hP
      have hD : va_D A [(a_this, .inr (0, [.int w2, .int v_tick, .int v_pace, .int v_signNumber, .int v_rotorNumber, .ref a_signs, .ref a_rotors])), (a_signs, .inl (cI, 16, .inl v_signs)), (a_rotors, rfn cR 4 a_rotors_e), rcell a_rotors_e v_rotorsF 0, rcell a_rotors_e v_rotorsF 1, rcell a_rotors_e v_rotorsF 2, rcell a_rotors_e v_rotorsF 3] := hD
      refine lv_iload_n C.1 C.2.1 dX0_go_13 rfl (lv_at hl 2 rfl) ?_
      refine lv_aload_n C.1 C.2.1 dX0_go_14 rfl (lv_at hl 0 rfl) ?_
      obtain ⟨⟨r4, w5, w6⟩, h7, hF⟩ := fb hF
      refine callVI C hK hA hP hD hS [0, 2, 3, 4, 5, 6] (c_X0_pullRotors (a_this := a_this) (a_signs := a_signs) (a_rotors := a_rotors) (a_rotors_e := a_rotors_e) (v_field := w2) (v_tick := v_tick) (v_pace := v_pace) (v_signNumber := v_signNumber) (v_rotorNumber := v_rotorNumber) (v_rotorsF := v_rotorsF) h7) cv_X0_pullRotors kw2_232 rfl (by decide) rfl rfl rfl ⟨Nat.le_of_ble_eq_true rfl, Nat.le_of_ble_eq_true rfl⟩ ⟨Nat.zero_le _, Nat.zero_le _⟩ hl.1 rfl (Nat.le_of_ble_eq_true rfl) dX0_go_15 (fun H locs hP hD hS => ?_)
      have hP : va_P D vwCl [(a_this, .inr (0, [.int w2, .int w5, .int v_pace, .int v_signNumber, .int v_rotorNumber, .ref a_signs, .ref a_rotors])), (a_signs, .inl (cI, 16, .inl v_signs)), (a_rotors, rfn cR 4 a_rotors_e), rcell a_rotors_e w6 0, rcell a_rotors_e w6 1, rcell a_rotors_e w6 2, rcell a_rotors_e w6 3] H := hP
      have hD : va_D A [(a_this, .inr (0, [.int w2, .int w5, .int v_pace, .int v_signNumber, .int v_rotorNumber, .ref a_signs, .ref a_rotors])), (a_signs, .inl (cI, 16, .inl v_signs)), (a_rotors, rfn cR 4 a_rotors_e), rcell a_rotors_e w6 0, rcell a_rotors_e w6 1, rcell a_rotors_e w6 2, rcell a_rotors_e w6 3] := hD
      refine lv_iadd C.1 C.2.1 dX0_go_18 ?_
      refine lv_istore_n (lv' := [(2, .int (x2 + r4)), (0, .ref a_this), (1, .int x1), (3, .int x3)]) C.1 C.2.1 dX0_go_19 rfl hl (by decide) rfl (fun ls hl => ?_)
      refine lv_iinc (v := x3 + 1) (lv' := [(3, .int (x3 + 1)), (2, .int (x2 + r4)), (0, .ref a_this), (1, .int x1)]) C.1 C.2.1 dX0_go_20 hl (k := 3) rfl rfl (by decide) rfl (fun ls hl => ?_)
      refine lv_goto (tgt := 4) C.1 C.2.1 dX0_go_23 (by decide) ?_
      exact ih w2 w5 v_pace v_signNumber v_rotorNumber v_signs w6 x1 (x2 + r4) (x3 + 1) _ _ _ hF hP hD hS (lv_sub hl [2, 3, 1, 0] rfl)
set_option maxHeartbeats 4000000 in
set_option maxRecDepth 100000 in
theorem c0_X0_go {l : Launch} {D : va_G} {cI cB cZ cR cM cS : ClassId} {a_this : Nat} {a_signs : Nat} {a_rotors : Nat} {a_rotors_e : Nat → Nat} {v_field : Int32} {v_tick : Int32} {v_pace : Int32} {v_signNumber : Int32} {v_rotorNumber : Int32} {v_signs : Nat → Int32} {v_rotorsF : Nat → Rot} {x1 : Int32} {res : Int32 × Int32 × Int32 × (Nat → Rot)} (hF : F_X0_go v_field v_tick v_pace v_signNumber v_rotorNumber v_signs v_rotorsF x1 = some res) : MI l yX0_go cX0_go 4 .int rm_X0_go D (TS cI cB cZ cR cM cS) [.ref a_this, .int x1] [(a_this, .inr (0, [.int v_field, .int v_tick, .int v_pace, .int v_signNumber, .int v_rotorNumber, .ref a_signs, .ref a_rotors])), (a_signs, .inl (cI, 16, .inl v_signs)), (a_rotors, rfn cR 4 a_rotors_e), rcell a_rotors_e v_rotorsF 0, rcell a_rotors_e v_rotorsF 1, rcell a_rotors_e v_rotorsF 2, rcell a_rotors_e v_rotorsF 3] [(a_this, .inr (0, [.int res.2.1, .int res.2.2.1, .int v_pace, .int v_signNumber, .int v_rotorNumber, .ref a_signs, .ref a_rotors])), (a_signs, .inl (cI, 16, .inl v_signs)), (a_rotors, rfn cR 4 a_rotors_e), rcell a_rotors_e res.2.2.2 0, rcell a_rotors_e res.2.2.2 1, rcell a_rotors_e res.2.2.2 2, rcell a_rotors_e res.2.2.2 3] res.1 :=
  MI_of (by decide) (Nat.le_of_ble_eq_true rfl) (fun p e s m args below meth c A ls C hr hlk hK hA hP hD hS hl => by
    have C : CX p m c cX0_go 4 s args RX0 := C
    have hl : lv_has ls 4 [(0, .ref a_this), (1, .int x1)] := hl
    unfold F_X0_go at hF
    refine lv_iconst (v := 0) C.1 C.2.1 dX0_go_0 (by decide) ?_
    refine lv_istore_n (lv' := [(2, .int (0 : Int32)), (0, .ref a_this), (1, .int x1)]) C.1 C.2.1 dX0_go_1 rfl hl (by decide) rfl (fun ls hl => ?_)
    refine lv_iconst (v := 0) C.1 C.2.1 dX0_go_2 (by decide) ?_
    refine lv_istore_n (lv' := [(3, .int (0 : Int32)), (2, .int (0 : Int32)), (0, .ref a_this), (1, .int x1)]) C.1 C.2.1 dX0_go_3 rfl hl (by decide) rfl (fun ls hl => ?_)
    exact b_X0_go_4 C hr hlk hK hA FU v_field v_tick v_pace v_signNumber v_rotorNumber v_signs v_rotorsF x1 (0 : Int32) (0 : Int32) _ _ _ hF hP hD hS (lv_sub hl [2, 3, 1, 0] rfl))
theorem c_X0_go {l : Launch} {D : va_G} {cI cB cZ cR cM cS : ClassId} {a_this : Nat} {a_signs : Nat} {a_rotors : Nat} {a_rotors_e : Nat → Nat} {v_field : Int32} {v_tick : Int32} {v_pace : Int32} {v_signNumber : Int32} {v_rotorNumber : Int32} {v_signs : Nat → Int32} {v_rotorsF : Nat → Rot} {x1 : Int32} {r_ : Int32} {v_field' : Int32} {v_tick' : Int32} {v_rotorsF' : Nat → Rot} (hF : F_X0_go v_field v_tick v_pace v_signNumber v_rotorNumber v_signs v_rotorsF x1 = some (r_, v_field', v_tick', v_rotorsF')) : MI l yX0_go cX0_go 4 .int rm_X0_go D (TS cI cB cZ cR cM cS) [.ref a_this, .int x1] [(a_this, .inr (0, [.int v_field, .int v_tick, .int v_pace, .int v_signNumber, .int v_rotorNumber, .ref a_signs, .ref a_rotors])), (a_signs, .inl (cI, 16, .inl v_signs)), (a_rotors, rfn cR 4 a_rotors_e), rcell a_rotors_e v_rotorsF 0, rcell a_rotors_e v_rotorsF 1, rcell a_rotors_e v_rotorsF 2, rcell a_rotors_e v_rotorsF 3] [(a_this, .inr (0, [.int v_field', .int v_tick', .int v_pace, .int v_signNumber, .int v_rotorNumber, .ref a_signs, .ref a_rotors])), (a_signs, .inl (cI, 16, .inl v_signs)), (a_rotors, rfn cR 4 a_rotors_e), rcell a_rotors_e v_rotorsF' 0, rcell a_rotors_e v_rotorsF' 1, rcell a_rotors_e v_rotorsF' 2, rcell a_rotors_e v_rotorsF' 3] r_ :=
  c0_X0_go (res := (r_, v_field', v_tick', v_rotorsF')) hF
def rm_X0_lostOf : Room := { frames := 2, cells := 0, slots := 0, locals := 42 }
theorem cv_X0_lostOf : CV yX0_lostOf cX0_lostOf 2 (some .int) rm_X0_lostOf RX0 1 := ⟨kw3_15, kw3_16, kw1_3, kw3_17, by decide +kernel, rfl, rfl⟩
set_option maxHeartbeats 4000000 in
set_option maxRecDepth 100000 in
theorem c_X0_lostOf {l : Launch} {D : va_G} {cI cB cZ cR cM cS : ClassId} {a_this : Nat} {a_signs : Nat} {a_rotors : Nat} {a_rotors_e : Nat → Nat} {v_field : Int32} {v_tick : Int32} {v_pace : Int32} {v_signNumber : Int32} {v_rotorNumber : Int32} {v_rotorsF : Nat → Rot} {x1 : Int32} {res : Int32} (hF : F_X0_lostOf v_field v_rotorsF x1 = some res) : MI l yX0_lostOf cX0_lostOf 2 .int rm_X0_lostOf D (TS cI cB cZ cR cM cS) [.ref a_this, .int x1] [(a_this, .inr (0, [.int v_field, .int v_tick, .int v_pace, .int v_signNumber, .int v_rotorNumber, .ref a_signs, .ref a_rotors])), (a_rotors, rfn cR 4 a_rotors_e), rcell a_rotors_e v_rotorsF 0, rcell a_rotors_e v_rotorsF 1, rcell a_rotors_e v_rotorsF 2, rcell a_rotors_e v_rotorsF 3] [(a_this, .inr (0, [.int v_field, .int v_tick, .int v_pace, .int v_signNumber, .int v_rotorNumber, .ref a_signs, .ref a_rotors])), (a_rotors, rfn cR 4 a_rotors_e), rcell a_rotors_e v_rotorsF 0, rcell a_rotors_e v_rotorsF 1, rcell a_rotors_e v_rotorsF 2, rcell a_rotors_e v_rotorsF 3] res :=
  MI_of (by decide) (Nat.le_of_ble_eq_true rfl) (fun p e s m args below meth c A ls C hr hlk hK hA hP hD hS hl => by
    have C : CX p m c cX0_lostOf 2 s args RX0 := C
    have hl : lv_has ls 2 [(0, .ref a_this), (1, .int x1)] := hl
    unfold F_X0_lostOf at hF
    refine lv_aload_n C.1 C.2.1 dX0_lostOf_0 rfl (lv_at hl 0 rfl) ?_
    refine gf_0_0_rotors C hK hP 0 rfl rfl dX0_lostOf_1 ?_
    refine lv_iload_n C.1 C.2.1 dX0_lostOf_4 rfl (lv_at hl 1 rfl) ?_
    obtain ⟨h1, hF⟩ := fk hF
    refine aldR C hK hP 1 3 rfl rfl h1 dX0_lostOf_5 ?_
    have hk2 : x1.toNatClampNeg < 4 := Nat.not_le.mp (fun q => h1 (Or.inr q))
    refine lv_aload_n C.1 C.2.1 dX0_lostOf_6 rfl (lv_at hl 0 rfl) ?_
    refine gf_0_0_field C hK hP 0 rfl rfl dX0_lostOf_7 ?_
    obtain ⟨r3, h4, hF⟩ := fb hF
    refine callVI C hK hA hP hD hS [2 + x1.toNatClampNeg] (c_X2_lost (a_this := a_rotors_e x1.toNatClampNeg) (v_sort := (v_rotorsF x1.toNatClampNeg).1) (v_grip := (v_rotorsF x1.toNatClampNeg).2.1) (v_place := (v_rotorsF x1.toNatClampNeg).2.2.1) (v_way := (v_rotorsF x1.toNatClampNeg).2.2.2) h4) cv_X2_lost kw2_163 (congrArg (fun z => [z]) (famget 2 (rcell a_rotors_e v_rotorsF) rfl rfl rfl rfl hk2)) rfl rfl rfl rfl ⟨Nat.le_of_ble_eq_true rfl, Nat.le_of_ble_eq_true rfl⟩ ⟨Nat.zero_le _, Nat.zero_le _⟩ hl.1 rfl (Nat.le_of_ble_eq_true rfl) dX0_lostOf_10 (fun H locs hP hD hS => ?_)
    have hP := va_Pe (setL1.trans (setsame (famget 2 (rcell a_rotors_e v_rotorsF) rfl rfl rfl rfl hk2))) hP
    have hD := va_De (setL1.trans (setsame (famget 2 (rcell a_rotors_e v_rotorsF) rfl rfl rfl rfl hk2))) hD
    have hP : va_P D vwCl [(a_this, .inr (0, [.int v_field, .int v_tick, .int v_pace, .int v_signNumber, .int v_rotorNumber, .ref a_signs, .ref a_rotors])), (a_rotors, rfn cR 4 a_rotors_e), rcell a_rotors_e v_rotorsF 0, rcell a_rotors_e v_rotorsF 1, rcell a_rotors_e v_rotorsF 2, rcell a_rotors_e v_rotorsF 3] H := hP
    have hD : va_D A [(a_this, .inr (0, [.int v_field, .int v_tick, .int v_pace, .int v_signNumber, .int v_rotorNumber, .ref a_signs, .ref a_rotors])), (a_rotors, rfn cR 4 a_rotors_e), rcell a_rotors_e v_rotorsF 0, rcell a_rotors_e v_rotorsF 1, rcell a_rotors_e v_rotorsF 2, rcell a_rotors_e v_rotorsF 3] := hD
    have hF := Option.some.inj hF
    subst hF
    exact retI C hr hlk hP hD hS dX0_lostOf_13)
def rm_X0_leaveRotors : Room := { frames := 0, cells := 0, slots := 0, locals := 0 }
theorem cv_X0_leaveRotors : CV yX0_leaveRotors cX0_leaveRotors 2 none rm_X0_leaveRotors RX0 0 := ⟨kw3_73, kwp_21, kw1_3, kw3_74, by decide +kernel, rfl, rfl⟩
set_option maxHeartbeats 4000000 in
set_option maxRecDepth 100000 in
theorem b_X0_leaveRotors_2 {l : Launch} {D : va_G} {cI cB cZ cR cM cS : ClassId} {a_this : Nat} {a_signs : Nat} {a_rotors : Nat} {a_rotors_e : Nat → Nat} {v_field : Int32} {v_pace : Int32} {v_signNumber : Int32} {p : Program} {e : Env} {s : State} {m : MethodId} {args : Array Value} {below : List Frame} {meth : Method} {c : Code} {A : Nat → Prop} {res : Int32 × (Nat → Rot)} (C : CX p m c cX0_leaveRotors 2 s args RX0) (hr : meth.sig.returnType = none) (hlk : meth.locks = false) (hK : KK D (TS cI cB cZ cR cM cS) s) (hA : ∀ q, s.heap.size ≤ q → A q) : ∀ (fu : Nat) (v_tick : Int32) (v_rotorNumber : Int32) (v_rotorsF : Nat → Rot) (x1 : Int32) (H : Heap) (locs : List Loc) (ls : Array Slot), F_X0_leaveRotors_2 fu v_tick v_rotorNumber v_rotorsF x1 = some res → va_P D vwCl [(a_this, .inr (0, [.int v_field, .int v_tick, .int v_pace, .int v_signNumber, .int v_rotorNumber, .ref a_signs, .ref a_rotors])), (a_rotors, rfn cR 4 a_rotors_e), rcell a_rotors_e v_rotorsF 0, rcell a_rotors_e v_rotorsF 1, rcell a_rotors_e v_rotorsF 2, rcell a_rotors_e v_rotorsF 3] H → va_D A [(a_this, .inr (0, [.int v_field, .int v_tick, .int v_pace, .int v_signNumber, .int v_rotorNumber, .ref a_signs, .ref a_rotors])), (a_rotors, rfn cR 4 a_rotors_e), rcell a_rotors_e v_rotorsF 0, rcell a_rotors_e v_rotorsF 1, rcell a_rotors_e v_rotorsF 2, rcell a_rotors_e v_rotorsF 3] → va_S A s.heap H locs → lv_has ls 2 [(0, .ref a_this), (1, .int x1)] → W p l e rm_X0_leaveRotors s m args below meth c H locs 0 0 (MQ below (va_Qv (fun (_ : Unit) => True) (BW D A [(a_this, .inr (0, [.int v_field, .int res.1, .int v_pace, .int v_signNumber, .int v_rotorNumber, .ref a_signs, .ref a_rotors])), (a_rotors, rfn cR 4 a_rotors_e), rcell a_rotors_e res.2 0, rcell a_rotors_e res.2 1, rcell a_rotors_e res.2 2, rcell a_rotors_e res.2 3]) A) args s 0 0 A) (F0 m 2 ls []) := by
  intro fu
  induction fu with
  | zero => intro v_tick v_rotorNumber v_rotorsF x1 H locs ls hF; cases hF
  | succ fu ih =>
    intro v_tick v_rotorNumber v_rotorsF x1 H locs ls hF  hP hD hS hl
    unfold F_X0_leaveRotors_2 at hF
    refine lv_iload_n C.1 C.2.1 dX0_leaveRotors_2 rfl (lv_at hl 1 rfl) ?_
    refine lv_aload_n C.1 C.2.1 dX0_leaveRotors_3 rfl (lv_at hl 0 rfl) ?_
    refine gf_0_0_rotorNumber C hK hP 0 rfl rfl dX0_leaveRotors_4 ?_
    refine lv_icmp_ge (tgt := 26) C.1 C.2.1 dX0_leaveRotors_7 (by decide) (fun c1 => ?_) (fun c1 => ?_)
    · have hF := fp hF c1
      refine lv_aload_n C.1 C.2.1 dX0_leaveRotors_26 rfl (lv_at hl 0 rfl) ?_
      refine lv_dup C.1 C.2.1 dX0_leaveRotors_27 rfl ?_
      refine gf_0_0_tick C hK hP 0 rfl rfl dX0_leaveRotors_28 ?_
      refine lv_iconst (v := 1) C.1 C.2.1 dX0_leaveRotors_31 (by decide) ?_
      refine lv_iadd C.1 C.2.1 dX0_leaveRotors_32 ?_
      refine pf_0_0_tick C hK hP hD hS 0 rfl rfl dX0_leaveRotors_33 (fun H locs hP hD hS => ?_)
      have hP : va_P D vwCl [(a_this, .inr (0, [.int v_field, .int (v_tick + (1 : Int32)), .int v_pace, .int v_signNumber, .int v_rotorNumber, .ref a_signs, .ref a_rotors])), (a_rotors, rfn cR 4 a_rotors_e), rcell a_rotors_e v_rotorsF 0, rcell a_rotors_e v_rotorsF 1, rcell a_rotors_e v_rotorsF 2, rcell a_rotors_e v_rotorsF 3] H := hP
      have hD : va_D A [(a_this, .inr (0, [.int v_field, .int (v_tick + (1 : Int32)), .int v_pace, .int v_signNumber, .int v_rotorNumber, .ref a_signs, .ref a_rotors])), (a_rotors, rfn cR 4 a_rotors_e), rcell a_rotors_e v_rotorsF 0, rcell a_rotors_e v_rotorsF 1, rcell a_rotors_e v_rotorsF 2, rcell a_rotors_e v_rotorsF 3] := hD
      have hF := Option.some.inj hF
      subst hF
      exact retV C hr hlk hP hD hS dX0_leaveRotors_36
    · have hF := fn hF c1
      refine lv_aload_n C.1 C.2.1 dX0_leaveRotors_10 rfl (lv_at hl 0 rfl) ?_
      refine gf_0_0_rotors C hK hP 0 rfl rfl dX0_leaveRotors_11 ?_
      refine lv_iload_n C.1 C.2.1 dX0_leaveRotors_14 rfl (lv_at hl 1 rfl) ?_
      obtain ⟨h2, hF⟩ := fk hF
      refine aldR C hK hP 1 3 rfl rfl h2 dX0_leaveRotors_15 ?_
      have hk3 : x1.toNatClampNeg < 4 := Nat.not_le.mp (fun q => h2 (Or.inr q))
      refine lv_iconst (v := 0) C.1 C.2.1 dX0_leaveRotors_16 (by decide) ?_
      refine pf_0_2_way C hK hP hD hS (2 + x1.toNatClampNeg) (famget 2 (rcell a_rotors_e v_rotorsF) rfl rfl rfl rfl hk3) rfl dX0_leaveRotors_17 (fun H locs hP hD hS => ?_)
      have hP := va_Pe (famsetR (a := a_rotors_e) (ρ := v_rotorsF) 2 rfl rfl rfl rfl hk3 ((v_rotorsF x1.toNatClampNeg).1) ((v_rotorsF x1.toNatClampNeg).2.1) ((v_rotorsF x1.toNatClampNeg).2.2.1) (0 : Int32)) hP
      have hD := va_De (famsetR (a := a_rotors_e) (ρ := v_rotorsF) 2 rfl rfl rfl rfl hk3 ((v_rotorsF x1.toNatClampNeg).1) ((v_rotorsF x1.toNatClampNeg).2.1) ((v_rotorsF x1.toNatClampNeg).2.2.1) (0 : Int32)) hD
      have hP : va_P D vwCl [(a_this, .inr (0, [.int v_field, .int v_tick, .int v_pace, .int v_signNumber, .int v_rotorNumber, .ref a_signs, .ref a_rotors])), (a_rotors, rfn cR 4 a_rotors_e), rcell a_rotors_e (up v_rotorsF x1.toNatClampNeg ((v_rotorsF x1.toNatClampNeg).1, (v_rotorsF x1.toNatClampNeg).2.1, (v_rotorsF x1.toNatClampNeg).2.2.1, (0 : Int32))) 0, rcell a_rotors_e (up v_rotorsF x1.toNatClampNeg ((v_rotorsF x1.toNatClampNeg).1, (v_rotorsF x1.toNatClampNeg).2.1, (v_rotorsF x1.toNatClampNeg).2.2.1, (0 : Int32))) 1, rcell a_rotors_e (up v_rotorsF x1.toNatClampNeg ((v_rotorsF x1.toNatClampNeg).1, (v_rotorsF x1.toNatClampNeg).2.1, (v_rotorsF x1.toNatClampNeg).2.2.1, (0 : Int32))) 2, rcell a_rotors_e (up v_rotorsF x1.toNatClampNeg ((v_rotorsF x1.toNatClampNeg).1, (v_rotorsF x1.toNatClampNeg).2.1, (v_rotorsF x1.toNatClampNeg).2.2.1, (0 : Int32))) 3] H := hP
      have hD : va_D A [(a_this, .inr (0, [.int v_field, .int v_tick, .int v_pace, .int v_signNumber, .int v_rotorNumber, .ref a_signs, .ref a_rotors])), (a_rotors, rfn cR 4 a_rotors_e), rcell a_rotors_e (up v_rotorsF x1.toNatClampNeg ((v_rotorsF x1.toNatClampNeg).1, (v_rotorsF x1.toNatClampNeg).2.1, (v_rotorsF x1.toNatClampNeg).2.2.1, (0 : Int32))) 0, rcell a_rotors_e (up v_rotorsF x1.toNatClampNeg ((v_rotorsF x1.toNatClampNeg).1, (v_rotorsF x1.toNatClampNeg).2.1, (v_rotorsF x1.toNatClampNeg).2.2.1, (0 : Int32))) 1, rcell a_rotors_e (up v_rotorsF x1.toNatClampNeg ((v_rotorsF x1.toNatClampNeg).1, (v_rotorsF x1.toNatClampNeg).2.1, (v_rotorsF x1.toNatClampNeg).2.2.1, (0 : Int32))) 2, rcell a_rotors_e (up v_rotorsF x1.toNatClampNeg ((v_rotorsF x1.toNatClampNeg).1, (v_rotorsF x1.toNatClampNeg).2.1, (v_rotorsF x1.toNatClampNeg).2.2.1, (0 : Int32))) 3] := hD
      refine lv_iinc (v := x1 + 1) (lv' := [(1, .int (x1 + 1)), (0, .ref a_this)]) C.1 C.2.1 dX0_leaveRotors_20 hl (k := 1) rfl rfl (by decide) rfl (fun ls hl => ?_)
      refine lv_goto (tgt := 2) C.1 C.2.1 dX0_leaveRotors_23 (by decide) ?_
      exact ih v_tick v_rotorNumber (up v_rotorsF x1.toNatClampNeg ((v_rotorsF x1.toNatClampNeg).1, (v_rotorsF x1.toNatClampNeg).2.1, (v_rotorsF x1.toNatClampNeg).2.2.1, (0 : Int32))) (x1 + 1) _ _ _ hF hP hD hS (lv_sub hl [1, 0] rfl)
set_option maxHeartbeats 4000000 in
set_option maxRecDepth 100000 in
theorem c0_X0_leaveRotors {l : Launch} {D : va_G} {cI cB cZ cR cM cS : ClassId} {a_this : Nat} {a_signs : Nat} {a_rotors : Nat} {a_rotors_e : Nat → Nat} {v_field : Int32} {v_tick : Int32} {v_pace : Int32} {v_signNumber : Int32} {v_rotorNumber : Int32} {v_rotorsF : Nat → Rot} {res : Int32 × (Nat → Rot)} (hF : F_X0_leaveRotors v_tick v_rotorNumber v_rotorsF = some res) : MV l yX0_leaveRotors cX0_leaveRotors 2 rm_X0_leaveRotors D (TS cI cB cZ cR cM cS) [.ref a_this] [(a_this, .inr (0, [.int v_field, .int v_tick, .int v_pace, .int v_signNumber, .int v_rotorNumber, .ref a_signs, .ref a_rotors])), (a_rotors, rfn cR 4 a_rotors_e), rcell a_rotors_e v_rotorsF 0, rcell a_rotors_e v_rotorsF 1, rcell a_rotors_e v_rotorsF 2, rcell a_rotors_e v_rotorsF 3] [(a_this, .inr (0, [.int v_field, .int res.1, .int v_pace, .int v_signNumber, .int v_rotorNumber, .ref a_signs, .ref a_rotors])), (a_rotors, rfn cR 4 a_rotors_e), rcell a_rotors_e res.2 0, rcell a_rotors_e res.2 1, rcell a_rotors_e res.2 2, rcell a_rotors_e res.2 3] :=
  MV_of (by decide) (Nat.le_of_ble_eq_true rfl) (fun p e s m args below meth c A ls C hr hlk hK hA hP hD hS hl => by
    have C : CX p m c cX0_leaveRotors 2 s args RX0 := C
    have hl : lv_has ls 2 [(0, .ref a_this)] := hl
    unfold F_X0_leaveRotors at hF
    refine lv_iconst (v := 0) C.1 C.2.1 dX0_leaveRotors_0 (by decide) ?_
    refine lv_istore_n (lv' := [(1, .int (0 : Int32)), (0, .ref a_this)]) C.1 C.2.1 dX0_leaveRotors_1 rfl hl (by decide) rfl (fun ls hl => ?_)
    exact b_X0_leaveRotors_2 C hr hlk hK hA FU v_tick v_rotorNumber v_rotorsF (0 : Int32) _ _ _ hF hP hD hS (lv_sub hl [1, 0] rfl))
theorem c_X0_leaveRotors {l : Launch} {D : va_G} {cI cB cZ cR cM cS : ClassId} {a_this : Nat} {a_signs : Nat} {a_rotors : Nat} {a_rotors_e : Nat → Nat} {v_field : Int32} {v_tick : Int32} {v_pace : Int32} {v_signNumber : Int32} {v_rotorNumber : Int32} {v_rotorsF : Nat → Rot} {v_tick' : Int32} {v_rotorsF' : Nat → Rot} (hF : F_X0_leaveRotors v_tick v_rotorNumber v_rotorsF = some (v_tick', v_rotorsF')) : MV l yX0_leaveRotors cX0_leaveRotors 2 rm_X0_leaveRotors D (TS cI cB cZ cR cM cS) [.ref a_this] [(a_this, .inr (0, [.int v_field, .int v_tick, .int v_pace, .int v_signNumber, .int v_rotorNumber, .ref a_signs, .ref a_rotors])), (a_rotors, rfn cR 4 a_rotors_e), rcell a_rotors_e v_rotorsF 0, rcell a_rotors_e v_rotorsF 1, rcell a_rotors_e v_rotorsF 2, rcell a_rotors_e v_rotorsF 3] [(a_this, .inr (0, [.int v_field, .int v_tick', .int v_pace, .int v_signNumber, .int v_rotorNumber, .ref a_signs, .ref a_rotors])), (a_rotors, rfn cR 4 a_rotors_e), rcell a_rotors_e v_rotorsF' 0, rcell a_rotors_e v_rotorsF' 1, rcell a_rotors_e v_rotorsF' 2, rcell a_rotors_e v_rotorsF' 3] :=
  c0_X0_leaveRotors (res := (v_tick', v_rotorsF')) hF
def rm_X0_goFailing : Room := { frames := 3, cells := 0, slots := 0, locals := 70 }
theorem cv_X0_goFailing : CV yX0_goFailing cX0_goFailing 5 (some .int) rm_X0_goFailing RX0 2 := ⟨kw3_68, kw3_69, kw1_3, kw3_70, by decide +kernel, rfl, rfl⟩
set_option maxHeartbeats 4000000 in
set_option maxRecDepth 100000 in
theorem b_X0_goFailing_5 {l : Launch} {D : va_G} {cI cB cZ cR cM cS : ClassId} {a_this : Nat} {a_signs : Nat} {a_rotors : Nat} {a_rotors_e : Nat → Nat} {p : Program} {e : Env} {s : State} {m : MethodId} {args : Array Value} {below : List Frame} {meth : Method} {c : Code} {A : Nat → Prop} {res : Int32 × Int32 × Int32 × (Nat → Rot)} (C : CX p m c cX0_goFailing 5 s args RX0) (hr : meth.sig.returnType = (some .int)) (hlk : meth.locks = false) (hK : KK D (TS cI cB cZ cR cM cS) s) (hA : ∀ q, s.heap.size ≤ q → A q) : ∀ (fu : Nat) (v_field : Int32) (v_tick : Int32) (v_pace : Int32) (v_signNumber : Int32) (v_rotorNumber : Int32) (v_signs : Nat → Int32) (v_rotorsF : Nat → Rot) (x1 : Int32) (x2 : Int32) (x3 : Int32) (x4 : Int32) (H : Heap) (locs : List Loc) (ls : Array Slot), F_X0_goFailing_5 fu v_field v_tick v_pace v_signNumber v_rotorNumber v_signs v_rotorsF x1 x2 x3 x4 = some res → va_P D vwCl [(a_this, .inr (0, [.int v_field, .int v_tick, .int v_pace, .int v_signNumber, .int v_rotorNumber, .ref a_signs, .ref a_rotors])), (a_signs, .inl (cI, 16, .inl v_signs)), (a_rotors, rfn cR 4 a_rotors_e), rcell a_rotors_e v_rotorsF 0, rcell a_rotors_e v_rotorsF 1, rcell a_rotors_e v_rotorsF 2, rcell a_rotors_e v_rotorsF 3] H → va_D A [(a_this, .inr (0, [.int v_field, .int v_tick, .int v_pace, .int v_signNumber, .int v_rotorNumber, .ref a_signs, .ref a_rotors])), (a_signs, .inl (cI, 16, .inl v_signs)), (a_rotors, rfn cR 4 a_rotors_e), rcell a_rotors_e v_rotorsF 0, rcell a_rotors_e v_rotorsF 1, rcell a_rotors_e v_rotorsF 2, rcell a_rotors_e v_rotorsF 3] → va_S A s.heap H locs → lv_has ls 5 [(0, .ref a_this), (1, .int x1), (2, .int x2), (3, .int x3), (4, .int x4)] → W p l e rm_X0_goFailing s m args below meth c H locs 0 0 (MQ below (va_Qi (fun x (_ : Unit) => x = res.1) (BW D A [(a_this, .inr (0, [.int res.2.1, .int res.2.2.1, .int v_pace, .int v_signNumber, .int v_rotorNumber, .ref a_signs, .ref a_rotors])), (a_signs, .inl (cI, 16, .inl v_signs)), (a_rotors, rfn cR 4 a_rotors_e), rcell a_rotors_e res.2.2.2 0, rcell a_rotors_e res.2.2.2 1, rcell a_rotors_e res.2.2.2 2, rcell a_rotors_e res.2.2.2 3]) A) args s 0 0 A) (F0 m 5 ls []) := by
  intro fu
  induction fu with
  | zero => intro v_field v_tick v_pace v_signNumber v_rotorNumber v_signs v_rotorsF x1 x2 x3 x4 H locs ls hF; cases hF
  | succ fu ih =>
    intro v_field v_tick v_pace v_signNumber v_rotorNumber v_signs v_rotorsF x1 x2 x3 x4 H locs ls hF  hP hD hS hl
    unfold F_X0_goFailing_5 at hF
    refine lv_iload C.1 C.2.1 dX0_goFailing_5 (lv_at hl 4 rfl) ?_
    refine lv_iload_n C.1 C.2.1 dX0_goFailing_7 rfl (lv_at hl 1 rfl) ?_
    refine lv_icmp_ge (tgt := 45) C.1 C.2.1 dX0_goFailing_8 (by decide) (fun c1 => ?_) (fun c1 => ?_)
    · have hF := fp hF c1
      refine lv_iload_n C.1 C.2.1 dX0_goFailing_45 rfl (lv_at hl 3 rfl) ?_
      have hF := Option.some.inj hF
      subst hF
      exact retI C hr hlk hP hD hS dX0_goFailing_46
    · have hF := fn hF c1
      refine lv_aload_n C.1 C.2.1 dX0_goFailing_11 rfl (lv_at hl 0 rfl) ?_
      obtain ⟨w2, h3, hF⟩ := fb hF
      refine callVV C hK hA hP hD hS [0, 1] (c_X0_leadField (a_this := a_this) (a_signs := a_signs) (a_rotors := a_rotors) (v_field := v_field) (v_tick := v_tick) (v_pace := v_pace) (v_signNumber := v_signNumber) (v_rotorNumber := v_rotorNumber) (v_signs := v_signs) h3) cv_X0_leadField kw2_224 rfl (by decide) rfl rfl rfl ⟨Nat.le_of_ble_eq_true rfl, Nat.le_of_ble_eq_true rfl⟩ ⟨Nat.zero_le _, Nat.zero_le _⟩ hl.1 rfl (Nat.le_of_ble_eq_true rfl) dX0_goFailing_12 (fun H locs hP hD hS => ?_)
      have hP : va_P D vwCl [(a_this, .inr (0, [.int w2, .int v_tick, .int v_pace, .int v_signNumber, .int v_rotorNumber, .ref a_signs, .ref a_rotors])), (a_signs, .inl (cI, 16, .inl v_signs)), (a_rotors, rfn cR 4 a_rotors_e), rcell a_rotors_e v_rotorsF 0, rcell a_rotors_e v_rotorsF 1, rcell a_rotors_e v_rotorsF 2, rcell a_rotors_e v_rotorsF 3] H := hP
      have hD : va_D A [(a_this, .inr (0, [.int w2, .int v_tick, .int v_pace, .int v_signNumber, .int v_rotorNumber, .ref a_signs, .ref a_rotors])), (a_signs, .inl (cI, 16, .inl v_signs)), (a_rotors, rfn cR 4 a_rotors_e), rcell a_rotors_e v_rotorsF 0, rcell a_rotors_e v_rotorsF 1, rcell a_rotors_e v_rotorsF 2, rcell a_rotors_e v_rotorsF 3] := hD
      refine lv_iload_n C.1 C.2.1 dX0_goFailing_15 rfl (lv_at hl 2 rfl) ?_
      refine lv_iload C.1 C.2.1 dX0_goFailing_16 (lv_at hl 4 rfl) ?_
      refine lv_ishr C.1 C.2.1 dX0_goFailing_18 ?_
      refine lv_iconst (v := 1) C.1 C.2.1 dX0_goFailing_19 (by decide) ?_
      refine lv_iand C.1 C.2.1 dX0_goFailing_20 ?_
      refine lv_iconst (v := 1) C.1 C.2.1 dX0_goFailing_21 (by decide) ?_
      refine lv_icmp_ne (tgt := 32) C.1 C.2.1 dX0_goFailing_22 (by decide) (fun c4 => ?_) (fun c4 => ?_)
      · have hF := fn hF c4
        refine lv_iload_n C.1 C.2.1 dX0_goFailing_32 rfl (lv_at hl 3 rfl) ?_
        refine lv_aload_n C.1 C.2.1 dX0_goFailing_33 rfl (lv_at hl 0 rfl) ?_
        obtain ⟨⟨r5, w6, w7⟩, h8, hF⟩ := fb hF
        refine callVI C hK hA hP hD hS [0, 2, 3, 4, 5, 6] (c_X0_pullRotors (a_this := a_this) (a_signs := a_signs) (a_rotors := a_rotors) (a_rotors_e := a_rotors_e) (v_field := w2) (v_tick := v_tick) (v_pace := v_pace) (v_signNumber := v_signNumber) (v_rotorNumber := v_rotorNumber) (v_rotorsF := v_rotorsF) h8) cv_X0_pullRotors kw2_232 rfl (by decide) rfl rfl rfl ⟨Nat.le_of_ble_eq_true rfl, Nat.le_of_ble_eq_true rfl⟩ ⟨Nat.zero_le _, Nat.zero_le _⟩ hl.1 rfl (Nat.le_of_ble_eq_true rfl) dX0_goFailing_34 (fun H locs hP hD hS => ?_)
        have hP : va_P D vwCl [(a_this, .inr (0, [.int w2, .int w6, .int v_pace, .int v_signNumber, .int v_rotorNumber, .ref a_signs, .ref a_rotors])), (a_signs, .inl (cI, 16, .inl v_signs)), (a_rotors, rfn cR 4 a_rotors_e), rcell a_rotors_e w7 0, rcell a_rotors_e w7 1, rcell a_rotors_e w7 2, rcell a_rotors_e w7 3] H := hP
        have hD : va_D A [(a_this, .inr (0, [.int w2, .int w6, .int v_pace, .int v_signNumber, .int v_rotorNumber, .ref a_signs, .ref a_rotors])), (a_signs, .inl (cI, 16, .inl v_signs)), (a_rotors, rfn cR 4 a_rotors_e), rcell a_rotors_e w7 0, rcell a_rotors_e w7 1, rcell a_rotors_e w7 2, rcell a_rotors_e w7 3] := hD
        refine lv_iadd C.1 C.2.1 dX0_goFailing_37 ?_
        refine lv_istore_n (lv' := [(3, .int (x3 + r5)), (0, .ref a_this), (1, .int x1), (2, .int x2), (4, .int x4)]) C.1 C.2.1 dX0_goFailing_38 rfl hl (by decide) rfl (fun ls hl => ?_)
        refine lv_iinc (v := x4 + 1) (lv' := [(4, .int (x4 + 1)), (3, .int (x3 + r5)), (0, .ref a_this), (1, .int x1), (2, .int x2)]) C.1 C.2.1 dX0_goFailing_39 hl (k := 4) rfl rfl (by decide) rfl (fun ls hl => ?_)
        refine lv_goto (tgt := 5) C.1 C.2.1 dX0_goFailing_42 (by decide) ?_
        exact ih w2 w6 v_pace v_signNumber v_rotorNumber v_signs w7 x1 x2 (x3 + r5) (x4 + 1) _ _ _ hF hP hD hS (lv_sub hl [2, 3, 4, 1, 0] rfl)
      · have hF := fp hF c4
        refine lv_aload_n C.1 C.2.1 dX0_goFailing_25 rfl (lv_at hl 0 rfl) ?_
        obtain ⟨⟨w9, w10⟩, h11, hF⟩ := fb hF
        refine callVV C hK hA hP hD hS [0, 2, 3, 4, 5, 6] (c_X0_leaveRotors (a_this := a_this) (a_signs := a_signs) (a_rotors := a_rotors) (a_rotors_e := a_rotors_e) (v_field := w2) (v_tick := v_tick) (v_pace := v_pace) (v_signNumber := v_signNumber) (v_rotorNumber := v_rotorNumber) (v_rotorsF := v_rotorsF) h11) cv_X0_leaveRotors kw3_71 rfl (by decide) rfl rfl rfl ⟨Nat.le_of_ble_eq_true rfl, Nat.le_of_ble_eq_true rfl⟩ ⟨Nat.zero_le _, Nat.zero_le _⟩ hl.1 rfl (Nat.le_of_ble_eq_true rfl) dX0_goFailing_26 (fun H locs hP hD hS => ?_)
        have hP : va_P D vwCl [(a_this, .inr (0, [.int w2, .int w9, .int v_pace, .int v_signNumber, .int v_rotorNumber, .ref a_signs, .ref a_rotors])), (a_signs, .inl (cI, 16, .inl v_signs)), (a_rotors, rfn cR 4 a_rotors_e), rcell a_rotors_e w10 0, rcell a_rotors_e w10 1, rcell a_rotors_e w10 2, rcell a_rotors_e w10 3] H := hP
        have hD : va_D A [(a_this, .inr (0, [.int w2, .int w9, .int v_pace, .int v_signNumber, .int v_rotorNumber, .ref a_signs, .ref a_rotors])), (a_signs, .inl (cI, 16, .inl v_signs)), (a_rotors, rfn cR 4 a_rotors_e), rcell a_rotors_e w10 0, rcell a_rotors_e w10 1, rcell a_rotors_e w10 2, rcell a_rotors_e w10 3] := hD
        refine lv_goto (tgt := 39) C.1 C.2.1 dX0_goFailing_29 (by decide) ?_
        refine lv_iinc (v := x4 + 1) (lv' := [(4, .int (x4 + 1)), (0, .ref a_this), (1, .int x1), (2, .int x2), (3, .int x3)]) C.1 C.2.1 dX0_goFailing_39 hl (k := 4) rfl rfl (by decide) rfl (fun ls hl => ?_)
        refine lv_goto (tgt := 5) C.1 C.2.1 dX0_goFailing_42 (by decide) ?_
        exact ih w2 w9 v_pace v_signNumber v_rotorNumber v_signs w10 x1 x2 x3 (x4 + 1) _ _ _ hF hP hD hS (lv_sub hl [1, 2, 3, 4, 0] rfl)
set_option maxHeartbeats 4000000 in
set_option maxRecDepth 100000 in
theorem c0_X0_goFailing {l : Launch} {D : va_G} {cI cB cZ cR cM cS : ClassId} {a_this : Nat} {a_signs : Nat} {a_rotors : Nat} {a_rotors_e : Nat → Nat} {v_field : Int32} {v_tick : Int32} {v_pace : Int32} {v_signNumber : Int32} {v_rotorNumber : Int32} {v_signs : Nat → Int32} {v_rotorsF : Nat → Rot} {x1 : Int32} {x2 : Int32} {res : Int32 × Int32 × Int32 × (Nat → Rot)} (hF : F_X0_goFailing v_field v_tick v_pace v_signNumber v_rotorNumber v_signs v_rotorsF x1 x2 = some res) : MI l yX0_goFailing cX0_goFailing 5 .int rm_X0_goFailing D (TS cI cB cZ cR cM cS) [.ref a_this, .int x1, .int x2] [(a_this, .inr (0, [.int v_field, .int v_tick, .int v_pace, .int v_signNumber, .int v_rotorNumber, .ref a_signs, .ref a_rotors])), (a_signs, .inl (cI, 16, .inl v_signs)), (a_rotors, rfn cR 4 a_rotors_e), rcell a_rotors_e v_rotorsF 0, rcell a_rotors_e v_rotorsF 1, rcell a_rotors_e v_rotorsF 2, rcell a_rotors_e v_rotorsF 3] [(a_this, .inr (0, [.int res.2.1, .int res.2.2.1, .int v_pace, .int v_signNumber, .int v_rotorNumber, .ref a_signs, .ref a_rotors])), (a_signs, .inl (cI, 16, .inl v_signs)), (a_rotors, rfn cR 4 a_rotors_e), rcell a_rotors_e res.2.2.2 0, rcell a_rotors_e res.2.2.2 1, rcell a_rotors_e res.2.2.2 2, rcell a_rotors_e res.2.2.2 3] res.1 :=
  MI_of (by decide) (Nat.le_of_ble_eq_true rfl) (fun p e s m args below meth c A ls C hr hlk hK hA hP hD hS hl => by
    have C : CX p m c cX0_goFailing 5 s args RX0 := C
    have hl : lv_has ls 5 [(0, .ref a_this), (1, .int x1), (2, .int x2)] := hl
    unfold F_X0_goFailing at hF
    refine lv_iconst (v := 0) C.1 C.2.1 dX0_goFailing_0 (by decide) ?_
    refine lv_istore_n (lv' := [(3, .int (0 : Int32)), (0, .ref a_this), (1, .int x1), (2, .int x2)]) C.1 C.2.1 dX0_goFailing_1 rfl hl (by decide) rfl (fun ls hl => ?_)
    refine lv_iconst (v := 0) C.1 C.2.1 dX0_goFailing_2 (by decide) ?_
    refine lv_istore (lv' := [(4, .int (0 : Int32)), (3, .int (0 : Int32)), (0, .ref a_this), (1, .int x1), (2, .int x2)]) C.1 C.2.1 dX0_goFailing_3 hl (by decide) rfl (fun ls hl => ?_)
    exact b_X0_goFailing_5 C hr hlk hK hA FU v_field v_tick v_pace v_signNumber v_rotorNumber v_signs v_rotorsF x1 x2 (0 : Int32) (0 : Int32) _ _ _ hF hP hD hS (lv_sub hl [2, 3, 4, 1, 0] rfl))
theorem c_X0_goFailing {l : Launch} {D : va_G} {cI cB cZ cR cM cS : ClassId} {a_this : Nat} {a_signs : Nat} {a_rotors : Nat} {a_rotors_e : Nat → Nat} {v_field : Int32} {v_tick : Int32} {v_pace : Int32} {v_signNumber : Int32} {v_rotorNumber : Int32} {v_signs : Nat → Int32} {v_rotorsF : Nat → Rot} {x1 : Int32} {x2 : Int32} {r_ : Int32} {v_field' : Int32} {v_tick' : Int32} {v_rotorsF' : Nat → Rot} (hF : F_X0_goFailing v_field v_tick v_pace v_signNumber v_rotorNumber v_signs v_rotorsF x1 x2 = some (r_, v_field', v_tick', v_rotorsF')) : MI l yX0_goFailing cX0_goFailing 5 .int rm_X0_goFailing D (TS cI cB cZ cR cM cS) [.ref a_this, .int x1, .int x2] [(a_this, .inr (0, [.int v_field, .int v_tick, .int v_pace, .int v_signNumber, .int v_rotorNumber, .ref a_signs, .ref a_rotors])), (a_signs, .inl (cI, 16, .inl v_signs)), (a_rotors, rfn cR 4 a_rotors_e), rcell a_rotors_e v_rotorsF 0, rcell a_rotors_e v_rotorsF 1, rcell a_rotors_e v_rotorsF 2, rcell a_rotors_e v_rotorsF 3] [(a_this, .inr (0, [.int v_field', .int v_tick', .int v_pace, .int v_signNumber, .int v_rotorNumber, .ref a_signs, .ref a_rotors])), (a_signs, .inl (cI, 16, .inl v_signs)), (a_rotors, rfn cR 4 a_rotors_e), rcell a_rotors_e v_rotorsF' 0, rcell a_rotors_e v_rotorsF' 1, rcell a_rotors_e v_rotorsF' 2, rcell a_rotors_e v_rotorsF' 3] r_ :=
  c0_X0_goFailing (res := (r_, v_field', v_tick', v_rotorsF')) hF
def rm_J6_bitCount_0f7a4 : Room := { frames := 0, cells := 0, slots := 0, locals := 0 }
theorem cs_J6_bitCount_0f7a4 : CS yJ6_bitCount_0f7a4 cJ6_bitCount_0f7a4 1 (some .int) rm_J6_bitCount_0f7a4 RJ6 1 := ⟨kw3_76, kw1_15, kw3_77, by decide +kernel, rfl, rfl⟩
set_option maxHeartbeats 4000000 in
set_option maxRecDepth 100000 in
theorem c_J6_bitCount_0f7a4 {l : Launch} {D : va_G} {cI cB cZ cR cM cS : ClassId} {x0 : Int32} {res : Int32} (hF : F_J6_bitCount_0f7a4 x0 = some res) : MI l yJ6_bitCount_0f7a4 cJ6_bitCount_0f7a4 1 .int rm_J6_bitCount_0f7a4 D (TS cI cB cZ cR cM cS) [.int x0] [] [] res :=
  MI_of (by decide +kernel) (Nat.le_of_ble_eq_true rfl) (fun p e s m args below meth c A ls C hr hlk hK hA hP hD hS hl => by
    have C : CX p m c cJ6_bitCount_0f7a4 1 s args RJ6 := C
    have hl : lv_has ls 1 [(0, .int x0)] := hl
    unfold F_J6_bitCount_0f7a4 at hF
    refine lv_iload_n C.1 C.2.1 dJ6_bitCount_0f7a4_0 rfl (lv_at hl 0 rfl) ?_
    refine lv_iload_n C.1 C.2.1 dJ6_bitCount_0f7a4_1 rfl (lv_at hl 0 rfl) ?_
    refine lv_iconst (v := 1) C.1 C.2.1 dJ6_bitCount_0f7a4_2 (by decide) ?_
    refine lv_iushr (v := iushr x0 (1 : Int32)) C.1 C.2.1 dJ6_bitCount_0f7a4_3 rfl ?_
    refine lv_ldcw (v := 1431655765) C.1 C.2.1 C.2.2.2.1 (C.2.2.2.2 _ kw3_78) dJ6_bitCount_0f7a4_4 ?_
    refine lv_iand C.1 C.2.1 dJ6_bitCount_0f7a4_7 ?_
    refine lv_isub C.1 C.2.1 dJ6_bitCount_0f7a4_8 ?_
    refine lv_istore_n (lv' := [(0, .int (x0 - ((iushr x0 (1 : Int32)) &&& (1431655765 : Int32))))]) C.1 C.2.1 dJ6_bitCount_0f7a4_9 rfl hl (by decide) rfl (fun ls hl => ?_)
    refine lv_iload_n C.1 C.2.1 dJ6_bitCount_0f7a4_10 rfl (lv_at hl 0 rfl) ?_
    refine lv_ldcw (v := 858993459) C.1 C.2.1 C.2.2.2.1 (C.2.2.2.2 _ kw3_79) dJ6_bitCount_0f7a4_11 ?_
    refine lv_iand C.1 C.2.1 dJ6_bitCount_0f7a4_14 ?_
    refine lv_iload_n C.1 C.2.1 dJ6_bitCount_0f7a4_15 rfl (lv_at hl 0 rfl) ?_
    refine lv_iconst (v := 2) C.1 C.2.1 dJ6_bitCount_0f7a4_16 (by decide) ?_
    refine lv_iushr (v := iushr (x0 - ((iushr x0 (1 : Int32)) &&& (1431655765 : Int32))) (2 : Int32)) C.1 C.2.1 dJ6_bitCount_0f7a4_17 rfl ?_
    refine lv_ldcw (v := 858993459) C.1 C.2.1 C.2.2.2.1 (C.2.2.2.2 _ kw3_79) dJ6_bitCount_0f7a4_18 ?_
    refine lv_iand C.1 C.2.1 dJ6_bitCount_0f7a4_21 ?_
    refine lv_iadd C.1 C.2.1 dJ6_bitCount_0f7a4_22 ?_
    refine lv_istore_n (lv' := [(0, .int (((x0 - ((iushr x0 (1 : Int32)) &&& (1431655765 : Int32))) &&& (858993459 : Int32)) + ((iushr (x0 - ((iushr x0 (1 : Int32)) &&& (1431655765 : Int32))) (2 : Int32)) &&& (858993459 : Int32))))]) C.1 C.2.1 dJ6_bitCount_0f7a4_23 rfl hl (by decide) rfl (fun ls hl => ?_)
    refine lv_iload_n C.1 C.2.1 dJ6_bitCount_0f7a4_24 rfl (lv_at hl 0 rfl) ?_
    refine lv_iload_n C.1 C.2.1 dJ6_bitCount_0f7a4_25 rfl (lv_at hl 0 rfl) ?_
    refine lv_iconst (v := 4) C.1 C.2.1 dJ6_bitCount_0f7a4_26 (by decide) ?_
    refine lv_iushr (v := iushr (((x0 - ((iushr x0 (1 : Int32)) &&& (1431655765 : Int32))) &&& (858993459 : Int32)) + ((iushr (x0 - ((iushr x0 (1 : Int32)) &&& (1431655765 : Int32))) (2 : Int32)) &&& (858993459 : Int32))) (4 : Int32)) C.1 C.2.1 dJ6_bitCount_0f7a4_27 rfl ?_
    refine lv_iadd C.1 C.2.1 dJ6_bitCount_0f7a4_28 ?_
    refine lv_ldcw (v := 252645135) C.1 C.2.1 C.2.2.2.1 (C.2.2.2.2 _ kw3_80) dJ6_bitCount_0f7a4_29 ?_
    refine lv_iand C.1 C.2.1 dJ6_bitCount_0f7a4_32 ?_
    refine lv_istore_n (lv' := [(0, .int (((((x0 - ((iushr x0 (1 : Int32)) &&& (1431655765 : Int32))) &&& (858993459 : Int32)) + ((iushr (x0 - ((iushr x0 (1 : Int32)) &&& (1431655765 : Int32))) (2 : Int32)) &&& (858993459 : Int32))) + (iushr (((x0 - ((iushr x0 (1 : Int32)) &&& (1431655765 : Int32))) &&& (858993459 : Int32)) + ((iushr (x0 - ((iushr x0 (1 : Int32)) &&& (1431655765 : Int32))) (2 : Int32)) &&& (858993459 : Int32))) (4 : Int32))) &&& (252645135 : Int32)))]) C.1 C.2.1 dJ6_bitCount_0f7a4_33 rfl hl (by decide) rfl (fun ls hl => ?_)
    refine lv_iload_n C.1 C.2.1 dJ6_bitCount_0f7a4_34 rfl (lv_at hl 0 rfl) ?_
    refine lv_iload_n C.1 C.2.1 dJ6_bitCount_0f7a4_35 rfl (lv_at hl 0 rfl) ?_
    refine lv_bipush (v := 8) C.1 C.2.1 dJ6_bitCount_0f7a4_36 (by decide) ?_
    refine lv_iushr (v := iushr (((((x0 - ((iushr x0 (1 : Int32)) &&& (1431655765 : Int32))) &&& (858993459 : Int32)) + ((iushr (x0 - ((iushr x0 (1 : Int32)) &&& (1431655765 : Int32))) (2 : Int32)) &&& (858993459 : Int32))) + (iushr (((x0 - ((iushr x0 (1 : Int32)) &&& (1431655765 : Int32))) &&& (858993459 : Int32)) + ((iushr (x0 - ((iushr x0 (1 : Int32)) &&& (1431655765 : Int32))) (2 : Int32)) &&& (858993459 : Int32))) (4 : Int32))) &&& (252645135 : Int32)) (8 : Int32)) C.1 C.2.1 dJ6_bitCount_0f7a4_38 rfl ?_
    refine lv_iadd C.1 C.2.1 dJ6_bitCount_0f7a4_39 ?_
    refine lv_istore_n (lv' := [(0, .int ((((((x0 - ((iushr x0 (1 : Int32)) &&& (1431655765 : Int32))) &&& (858993459 : Int32)) + ((iushr (x0 - ((iushr x0 (1 : Int32)) &&& (1431655765 : Int32))) (2 : Int32)) &&& (858993459 : Int32))) + (iushr (((x0 - ((iushr x0 (1 : Int32)) &&& (1431655765 : Int32))) &&& (858993459 : Int32)) + ((iushr (x0 - ((iushr x0 (1 : Int32)) &&& (1431655765 : Int32))) (2 : Int32)) &&& (858993459 : Int32))) (4 : Int32))) &&& (252645135 : Int32)) + (iushr (((((x0 - ((iushr x0 (1 : Int32)) &&& (1431655765 : Int32))) &&& (858993459 : Int32)) + ((iushr (x0 - ((iushr x0 (1 : Int32)) &&& (1431655765 : Int32))) (2 : Int32)) &&& (858993459 : Int32))) + (iushr (((x0 - ((iushr x0 (1 : Int32)) &&& (1431655765 : Int32))) &&& (858993459 : Int32)) + ((iushr (x0 - ((iushr x0 (1 : Int32)) &&& (1431655765 : Int32))) (2 : Int32)) &&& (858993459 : Int32))) (4 : Int32))) &&& (252645135 : Int32)) (8 : Int32))))]) C.1 C.2.1 dJ6_bitCount_0f7a4_40 rfl hl (by decide) rfl (fun ls hl => ?_)
    refine lv_iload_n C.1 C.2.1 dJ6_bitCount_0f7a4_41 rfl (lv_at hl 0 rfl) ?_
    refine lv_iload_n C.1 C.2.1 dJ6_bitCount_0f7a4_42 rfl (lv_at hl 0 rfl) ?_
    refine lv_bipush (v := 16) C.1 C.2.1 dJ6_bitCount_0f7a4_43 (by decide) ?_
    refine lv_iushr (v := iushr ((((((x0 - ((iushr x0 (1 : Int32)) &&& (1431655765 : Int32))) &&& (858993459 : Int32)) + ((iushr (x0 - ((iushr x0 (1 : Int32)) &&& (1431655765 : Int32))) (2 : Int32)) &&& (858993459 : Int32))) + (iushr (((x0 - ((iushr x0 (1 : Int32)) &&& (1431655765 : Int32))) &&& (858993459 : Int32)) + ((iushr (x0 - ((iushr x0 (1 : Int32)) &&& (1431655765 : Int32))) (2 : Int32)) &&& (858993459 : Int32))) (4 : Int32))) &&& (252645135 : Int32)) + (iushr (((((x0 - ((iushr x0 (1 : Int32)) &&& (1431655765 : Int32))) &&& (858993459 : Int32)) + ((iushr (x0 - ((iushr x0 (1 : Int32)) &&& (1431655765 : Int32))) (2 : Int32)) &&& (858993459 : Int32))) + (iushr (((x0 - ((iushr x0 (1 : Int32)) &&& (1431655765 : Int32))) &&& (858993459 : Int32)) + ((iushr (x0 - ((iushr x0 (1 : Int32)) &&& (1431655765 : Int32))) (2 : Int32)) &&& (858993459 : Int32))) (4 : Int32))) &&& (252645135 : Int32)) (8 : Int32))) (16 : Int32)) C.1 C.2.1 dJ6_bitCount_0f7a4_45 rfl ?_
    refine lv_iadd C.1 C.2.1 dJ6_bitCount_0f7a4_46 ?_
    refine lv_istore_n (lv' := [(0, .int (((((((x0 - ((iushr x0 (1 : Int32)) &&& (1431655765 : Int32))) &&& (858993459 : Int32)) + ((iushr (x0 - ((iushr x0 (1 : Int32)) &&& (1431655765 : Int32))) (2 : Int32)) &&& (858993459 : Int32))) + (iushr (((x0 - ((iushr x0 (1 : Int32)) &&& (1431655765 : Int32))) &&& (858993459 : Int32)) + ((iushr (x0 - ((iushr x0 (1 : Int32)) &&& (1431655765 : Int32))) (2 : Int32)) &&& (858993459 : Int32))) (4 : Int32))) &&& (252645135 : Int32)) + (iushr (((((x0 - ((iushr x0 (1 : Int32)) &&& (1431655765 : Int32))) &&& (858993459 : Int32)) + ((iushr (x0 - ((iushr x0 (1 : Int32)) &&& (1431655765 : Int32))) (2 : Int32)) &&& (858993459 : Int32))) + (iushr (((x0 - ((iushr x0 (1 : Int32)) &&& (1431655765 : Int32))) &&& (858993459 : Int32)) + ((iushr (x0 - ((iushr x0 (1 : Int32)) &&& (1431655765 : Int32))) (2 : Int32)) &&& (858993459 : Int32))) (4 : Int32))) &&& (252645135 : Int32)) (8 : Int32))) + (iushr ((((((x0 - ((iushr x0 (1 : Int32)) &&& (1431655765 : Int32))) &&& (858993459 : Int32)) + ((iushr (x0 - ((iushr x0 (1 : Int32)) &&& (1431655765 : Int32))) (2 : Int32)) &&& (858993459 : Int32))) + (iushr (((x0 - ((iushr x0 (1 : Int32)) &&& (1431655765 : Int32))) &&& (858993459 : Int32)) + ((iushr (x0 - ((iushr x0 (1 : Int32)) &&& (1431655765 : Int32))) (2 : Int32)) &&& (858993459 : Int32))) (4 : Int32))) &&& (252645135 : Int32)) + (iushr (((((x0 - ((iushr x0 (1 : Int32)) &&& (1431655765 : Int32))) &&& (858993459 : Int32)) + ((iushr (x0 - ((iushr x0 (1 : Int32)) &&& (1431655765 : Int32))) (2 : Int32)) &&& (858993459 : Int32))) + (iushr (((x0 - ((iushr x0 (1 : Int32)) &&& (1431655765 : Int32))) &&& (858993459 : Int32)) + ((iushr (x0 - ((iushr x0 (1 : Int32)) &&& (1431655765 : Int32))) (2 : Int32)) &&& (858993459 : Int32))) (4 : Int32))) &&& (252645135 : Int32)) (8 : Int32))) (16 : Int32))))]) C.1 C.2.1 dJ6_bitCount_0f7a4_47 rfl hl (by decide) rfl (fun ls hl => ?_)
    refine lv_iload_n C.1 C.2.1 dJ6_bitCount_0f7a4_48 rfl (lv_at hl 0 rfl) ?_
    refine lv_bipush (v := 63) C.1 C.2.1 dJ6_bitCount_0f7a4_49 (by decide) ?_
    refine lv_iand C.1 C.2.1 dJ6_bitCount_0f7a4_51 ?_
    have hF := Option.some.inj hF
    subst hF
    exact retI C hr hlk hP hD hS dJ6_bitCount_0f7a4_52)
def rm_X4_note : Room := { frames := 0, cells := 0, slots := 0, locals := 0 }
theorem cv_X4_note : CV yX4_note cX4_note 4 (some .boolean) rm_X4_note RX4 3 := ⟨kw3_102, kw3_103, kw1_5, kw3_104, by decide +kernel, rfl, rfl⟩
set_option maxHeartbeats 4000000 in
set_option maxRecDepth 100000 in
theorem c0_X4_note {l : Launch} {D : va_G} {cI cB cZ cR cM cS : ClassId} {a_this : Nat} {a_ticksOn : Nat} {a_who : Nat} {a_left : Nat} {v_number : Int32} {v_ticksOn : Nat → Int32} {v_who : Nat → Int32} {v_left : Nat → Int32} {x1 : Int32} {x2 : Int32} {x3 : Int32} {res : Int32 × Int32 × (Nat → Int32) × (Nat → Int32) × (Nat → Int32)} (hF : F_X4_note v_number v_ticksOn v_who v_left x1 x2 x3 = some res) : MI l yX4_note cX4_note 4 .boolean rm_X4_note D (TS cI cB cZ cR cM cS) [.ref a_this, .int x1, .int x2, .int x3] [(a_this, .inr (4, [.int v_number, .ref a_ticksOn, .ref a_who, .ref a_left])), (a_ticksOn, .inl (cI, 6, .inl v_ticksOn)), (a_who, .inl (cI, 6, .inl v_who)), (a_left, .inl (cI, 6, .inl v_left))] [(a_this, .inr (4, [.int res.2.1, .ref a_ticksOn, .ref a_who, .ref a_left])), (a_ticksOn, .inl (cI, 6, .inl res.2.2.1)), (a_who, .inl (cI, 6, .inl res.2.2.2.1)), (a_left, .inl (cI, 6, .inl res.2.2.2.2))] res.1 :=
  MI_of (by decide) (Nat.le_of_ble_eq_true rfl) (fun p e s m args below meth c A ls C hr hlk hK hA hP hD hS hl => by
    have C : CX p m c cX4_note 4 s args RX4 := C
    have hl : lv_has ls 4 [(0, .ref a_this), (1, .int x1), (2, .int x2), (3, .int x3)] := hl
    unfold F_X4_note at hF
    refine lv_aload_n C.1 C.2.1 dX4_note_0 rfl (lv_at hl 0 rfl) ?_
    refine gf_4_4_number C hK hP 0 rfl rfl dX4_note_1 ?_
    refine lv_bipush (v := 6) C.1 C.2.1 dX4_note_4 (by decide) ?_
    refine lv_icmp_lt (tgt := 11) C.1 C.2.1 dX4_note_6 (by decide) (fun c1 => ?_) (fun c1 => ?_)
    · have hF := fp hF c1
      refine lv_aload_n C.1 C.2.1 dX4_note_11 rfl (lv_at hl 0 rfl) ?_
      refine gf_4_4_ticksOn C hK hP 0 rfl rfl dX4_note_12 ?_
      refine lv_aload_n C.1 C.2.1 dX4_note_15 rfl (lv_at hl 0 rfl) ?_
      refine gf_4_4_number C hK hP 0 rfl rfl dX4_note_16 ?_
      refine lv_iload_n C.1 C.2.1 dX4_note_19 rfl (lv_at hl 1 rfl) ?_
      obtain ⟨h2, hF⟩ := fk hF
      refine va_iast C.1 C.2.1 hK.1 hP hD hS 1 0 rfl rfl h2 dX4_note_20 (fun H locs hP hD hS => ?_)
      have hP : va_P D vwCl [(a_this, .inr (4, [.int v_number, .ref a_ticksOn, .ref a_who, .ref a_left])), (a_ticksOn, .inl (cI, 6, .inl (upd v_ticksOn v_number.toNatClampNeg x1))), (a_who, .inl (cI, 6, .inl v_who)), (a_left, .inl (cI, 6, .inl v_left))] H := hP
      have hD : va_D A [(a_this, .inr (4, [.int v_number, .ref a_ticksOn, .ref a_who, .ref a_left])), (a_ticksOn, .inl (cI, 6, .inl (upd v_ticksOn v_number.toNatClampNeg x1))), (a_who, .inl (cI, 6, .inl v_who)), (a_left, .inl (cI, 6, .inl v_left))] := hD
      refine lv_aload_n C.1 C.2.1 dX4_note_21 rfl (lv_at hl 0 rfl) ?_
      refine gf_4_4_who C hK hP 0 rfl rfl dX4_note_22 ?_
      refine lv_aload_n C.1 C.2.1 dX4_note_25 rfl (lv_at hl 0 rfl) ?_
      refine gf_4_4_number C hK hP 0 rfl rfl dX4_note_26 ?_
      refine lv_iload_n C.1 C.2.1 dX4_note_29 rfl (lv_at hl 2 rfl) ?_
      obtain ⟨h3, hF⟩ := fk hF
      refine va_iast C.1 C.2.1 hK.1 hP hD hS 2 0 rfl rfl h3 dX4_note_30 (fun H locs hP hD hS => ?_)
      have hP : va_P D vwCl [(a_this, .inr (4, [.int v_number, .ref a_ticksOn, .ref a_who, .ref a_left])), (a_ticksOn, .inl (cI, 6, .inl (upd v_ticksOn v_number.toNatClampNeg x1))), (a_who, .inl (cI, 6, .inl (upd v_who v_number.toNatClampNeg x2))), (a_left, .inl (cI, 6, .inl v_left))] H := hP
      have hD : va_D A [(a_this, .inr (4, [.int v_number, .ref a_ticksOn, .ref a_who, .ref a_left])), (a_ticksOn, .inl (cI, 6, .inl (upd v_ticksOn v_number.toNatClampNeg x1))), (a_who, .inl (cI, 6, .inl (upd v_who v_number.toNatClampNeg x2))), (a_left, .inl (cI, 6, .inl v_left))] := hD
      refine lv_aload_n C.1 C.2.1 dX4_note_31 rfl (lv_at hl 0 rfl) ?_
      refine gf_4_4_left C hK hP 0 rfl rfl dX4_note_32 ?_
      refine lv_aload_n C.1 C.2.1 dX4_note_35 rfl (lv_at hl 0 rfl) ?_
      refine gf_4_4_number C hK hP 0 rfl rfl dX4_note_36 ?_
      refine lv_iload_n C.1 C.2.1 dX4_note_39 rfl (lv_at hl 3 rfl) ?_
      obtain ⟨h4, hF⟩ := fk hF
      refine va_iast C.1 C.2.1 hK.1 hP hD hS 3 0 rfl rfl h4 dX4_note_40 (fun H locs hP hD hS => ?_)
      have hP : va_P D vwCl [(a_this, .inr (4, [.int v_number, .ref a_ticksOn, .ref a_who, .ref a_left])), (a_ticksOn, .inl (cI, 6, .inl (upd v_ticksOn v_number.toNatClampNeg x1))), (a_who, .inl (cI, 6, .inl (upd v_who v_number.toNatClampNeg x2))), (a_left, .inl (cI, 6, .inl (upd v_left v_number.toNatClampNeg x3)))] H := hP
      have hD : va_D A [(a_this, .inr (4, [.int v_number, .ref a_ticksOn, .ref a_who, .ref a_left])), (a_ticksOn, .inl (cI, 6, .inl (upd v_ticksOn v_number.toNatClampNeg x1))), (a_who, .inl (cI, 6, .inl (upd v_who v_number.toNatClampNeg x2))), (a_left, .inl (cI, 6, .inl (upd v_left v_number.toNatClampNeg x3)))] := hD
      refine lv_aload_n C.1 C.2.1 dX4_note_41 rfl (lv_at hl 0 rfl) ?_
      refine lv_dup C.1 C.2.1 dX4_note_42 rfl ?_
      refine gf_4_4_number C hK hP 0 rfl rfl dX4_note_43 ?_
      refine lv_iconst (v := 1) C.1 C.2.1 dX4_note_46 (by decide) ?_
      refine lv_iadd C.1 C.2.1 dX4_note_47 ?_
      refine pf_4_4_number C hK hP hD hS 0 rfl rfl dX4_note_48 (fun H locs hP hD hS => ?_)
      have hP : va_P D vwCl [(a_this, .inr (4, [.int (v_number + (1 : Int32)), .ref a_ticksOn, .ref a_who, .ref a_left])), (a_ticksOn, .inl (cI, 6, .inl (upd v_ticksOn v_number.toNatClampNeg x1))), (a_who, .inl (cI, 6, .inl (upd v_who v_number.toNatClampNeg x2))), (a_left, .inl (cI, 6, .inl (upd v_left v_number.toNatClampNeg x3)))] H := hP
      have hD : va_D A [(a_this, .inr (4, [.int (v_number + (1 : Int32)), .ref a_ticksOn, .ref a_who, .ref a_left])), (a_ticksOn, .inl (cI, 6, .inl (upd v_ticksOn v_number.toNatClampNeg x1))), (a_who, .inl (cI, 6, .inl (upd v_who v_number.toNatClampNeg x2))), (a_left, .inl (cI, 6, .inl (upd v_left v_number.toNatClampNeg x3)))] := hD
      refine lv_iconst (v := 1) C.1 C.2.1 dX4_note_51 (by decide) ?_
      have hF := Option.some.inj hF
      subst hF
      exact retZ (v := 1) C hr hlk (by decide) hP hD hS dX4_note_52
    · have hF := fn hF c1
      refine lv_iconst (v := 0) C.1 C.2.1 dX4_note_9 (by decide) ?_
      have hF := Option.some.inj hF
      subst hF
      exact retZ (v := 0) C hr hlk (by decide) hP hD hS dX4_note_10)
theorem c_X4_note {l : Launch} {D : va_G} {cI cB cZ cR cM cS : ClassId} {a_this : Nat} {a_ticksOn : Nat} {a_who : Nat} {a_left : Nat} {v_number : Int32} {v_ticksOn : Nat → Int32} {v_who : Nat → Int32} {v_left : Nat → Int32} {x1 : Int32} {x2 : Int32} {x3 : Int32} {r_ : Int32} {v_number' : Int32} {v_ticksOn' : Nat → Int32} {v_who' : Nat → Int32} {v_left' : Nat → Int32} (hF : F_X4_note v_number v_ticksOn v_who v_left x1 x2 x3 = some (r_, v_number', v_ticksOn', v_who', v_left')) : MI l yX4_note cX4_note 4 .boolean rm_X4_note D (TS cI cB cZ cR cM cS) [.ref a_this, .int x1, .int x2, .int x3] [(a_this, .inr (4, [.int v_number, .ref a_ticksOn, .ref a_who, .ref a_left])), (a_ticksOn, .inl (cI, 6, .inl v_ticksOn)), (a_who, .inl (cI, 6, .inl v_who)), (a_left, .inl (cI, 6, .inl v_left))] [(a_this, .inr (4, [.int v_number', .ref a_ticksOn, .ref a_who, .ref a_left])), (a_ticksOn, .inl (cI, 6, .inl v_ticksOn')), (a_who, .inl (cI, 6, .inl v_who')), (a_left, .inl (cI, 6, .inl v_left'))] r_ :=
  c0_X4_note (res := (r_, v_number', v_ticksOn', v_who', v_left')) hF
def rm_X4_last : Room := { frames := 1, cells := 0, slots := 0, locals := 23 }
theorem cv_X4_last : CV yX4_last cX4_last 3 (some .int) rm_X4_last RX4 0 := ⟨kw3_122, kw3_123, kw1_5, kw3_124, by decide +kernel, rfl, rfl⟩
set_option maxHeartbeats 4000000 in
set_option maxRecDepth 100000 in
theorem b_X4_last_4 {l : Launch} {D : va_G} {cI cB cZ cR cM cS : ClassId} {a_this : Nat} {a_ticksOn : Nat} {a_who : Nat} {a_left : Nat} {p : Program} {e : Env} {s : State} {m : MethodId} {args : Array Value} {below : List Frame} {meth : Method} {c : Code} {A : Nat → Prop} {res : Int32} (C : CX p m c cX4_last 3 s args RX4) (hr : meth.sig.returnType = (some .int)) (hlk : meth.locks = false) (hK : KK D (TS cI cB cZ cR cM cS) s) (hA : ∀ q, s.heap.size ≤ q → A q) : ∀ (fu : Nat) (v_number : Int32) (v_ticksOn : Nat → Int32) (x1 : Int32) (x2 : Int32) (H : Heap) (locs : List Loc) (ls : Array Slot), F_X4_last_4 fu v_number v_ticksOn x1 x2 = some res → va_P D vwCl [(a_this, .inr (4, [.int v_number, .ref a_ticksOn, .ref a_who, .ref a_left])), (a_ticksOn, .inl (cI, 6, .inl v_ticksOn))] H → va_D A [(a_this, .inr (4, [.int v_number, .ref a_ticksOn, .ref a_who, .ref a_left])), (a_ticksOn, .inl (cI, 6, .inl v_ticksOn))] → va_S A s.heap H locs → lv_has ls 3 [(0, .ref a_this), (1, .int x1), (2, .int x2)] → W p l e rm_X4_last s m args below meth c H locs 0 0 (MQ below (va_Qi (fun x (_ : Unit) => x = res) (BW D A [(a_this, .inr (4, [.int v_number, .ref a_ticksOn, .ref a_who, .ref a_left])), (a_ticksOn, .inl (cI, 6, .inl v_ticksOn))]) A) args s 0 0 A) (F0 m 4 ls []) := by
  intro fu
  induction fu with
  | zero => intro v_number v_ticksOn x1 x2 H locs ls hF; cases hF
  | succ fu ih =>
    intro v_number v_ticksOn x1 x2 H locs ls hF  hP hD hS hl
    unfold F_X4_last_4 at hF
    refine lv_iload_n C.1 C.2.1 dX4_last_4 rfl (lv_at hl 2 rfl) ?_
    refine lv_aload_n C.1 C.2.1 dX4_last_5 rfl (lv_at hl 0 rfl) ?_
    refine gf_4_4_number C hK hP 0 rfl rfl dX4_last_6 ?_
    refine lv_icmp_ge (tgt := 29) C.1 C.2.1 dX4_last_9 (by decide) (fun c1 => ?_) (fun c1 => ?_)
    · have hF := fp hF c1
      refine lv_iload_n C.1 C.2.1 dX4_last_29 rfl (lv_at hl 1 rfl) ?_
      have hF := Option.some.inj hF
      subst hF
      exact retI C hr hlk hP hD hS dX4_last_30
    · have hF := fn hF c1
      refine lv_iload_n C.1 C.2.1 dX4_last_12 rfl (lv_at hl 1 rfl) ?_
      refine lv_aload_n C.1 C.2.1 dX4_last_13 rfl (lv_at hl 0 rfl) ?_
      refine gf_4_4_ticksOn C hK hP 0 rfl rfl dX4_last_14 ?_
      refine lv_iload_n C.1 C.2.1 dX4_last_17 rfl (lv_at hl 2 rfl) ?_
      obtain ⟨h2, hF⟩ := fk hF
      refine va_iald C.1 C.2.1 hK.1 hP 1 0 rfl rfl h2 dX4_last_18 ?_
      refine va_mmax C.1 C.2.1 (C.2.2.1.trans hl.1.symm) C.2.2.2.1 (C.2.2.2.2 _ kw3_125) (C.2.2.2.2 _ kw3_126) (C.2.2.2.2 _ kw1_14) (C.2.2.2.2 _ kw3_127) (Nat.le_of_ble_eq_true rfl) (Nat.le_of_ble_eq_true rfl) (Nat.zero_le _) (Nat.zero_le _) dX4_last_19 ?_
      refine lv_istore_n (lv' := [(1, .int (imax x1 (v_ticksOn x2.toNatClampNeg))), (0, .ref a_this), (2, .int x2)]) C.1 C.2.1 dX4_last_22 rfl hl (by decide) rfl (fun ls hl => ?_)
      refine lv_iinc (v := x2 + 1) (lv' := [(2, .int (x2 + 1)), (1, .int (imax x1 (v_ticksOn x2.toNatClampNeg))), (0, .ref a_this)]) C.1 C.2.1 dX4_last_23 hl (k := 2) rfl rfl (by decide) rfl (fun ls hl => ?_)
      refine lv_goto (tgt := 4) C.1 C.2.1 dX4_last_26 (by decide) ?_
      exact ih v_number v_ticksOn (imax x1 (v_ticksOn x2.toNatClampNeg)) (x2 + 1) _ _ _ hF hP hD hS (lv_sub hl [2, 1, 0] rfl)
set_option maxHeartbeats 4000000 in
set_option maxRecDepth 100000 in
theorem c_X4_last {l : Launch} {D : va_G} {cI cB cZ cR cM cS : ClassId} {a_this : Nat} {a_ticksOn : Nat} {a_who : Nat} {a_left : Nat} {v_number : Int32} {v_ticksOn : Nat → Int32} {res : Int32} (hF : F_X4_last v_number v_ticksOn = some res) : MI l yX4_last cX4_last 3 .int rm_X4_last D (TS cI cB cZ cR cM cS) [.ref a_this] [(a_this, .inr (4, [.int v_number, .ref a_ticksOn, .ref a_who, .ref a_left])), (a_ticksOn, .inl (cI, 6, .inl v_ticksOn))] [(a_this, .inr (4, [.int v_number, .ref a_ticksOn, .ref a_who, .ref a_left])), (a_ticksOn, .inl (cI, 6, .inl v_ticksOn))] res :=
  MI_of (by decide) (Nat.le_of_ble_eq_true rfl) (fun p e s m args below meth c A ls C hr hlk hK hA hP hD hS hl => by
    have C : CX p m c cX4_last 3 s args RX4 := C
    have hl : lv_has ls 3 [(0, .ref a_this)] := hl
    unfold F_X4_last at hF
    refine lv_iconst (v := (-1)) C.1 C.2.1 dX4_last_0 (by decide) ?_
    refine lv_istore_n (lv' := [(1, .int ((-1) : Int32)), (0, .ref a_this)]) C.1 C.2.1 dX4_last_1 rfl hl (by decide) rfl (fun ls hl => ?_)
    refine lv_iconst (v := 0) C.1 C.2.1 dX4_last_2 (by decide) ?_
    refine lv_istore_n (lv' := [(2, .int (0 : Int32)), (1, .int ((-1) : Int32)), (0, .ref a_this)]) C.1 C.2.1 dX4_last_3 rfl hl (by decide) rfl (fun ls hl => ?_)
    exact b_X4_last_4 C hr hlk hK hA FU v_number v_ticksOn ((-1) : Int32) (0 : Int32) _ _ _ hF hP hD hS (lv_sub hl [2, 1, 0] rfl))
def rm_J9_floorMod_7cf53 : Room := { frames := 0, cells := 0, slots := 0, locals := 0 }
theorem cs_J9_floorMod_7cf53 : CS yJ9_floorMod_7cf53 cJ9_floorMod_7cf53 3 (some .int) rm_J9_floorMod_7cf53 RJ9 2 := ⟨kw3_133, kw1_14, kw3_134, by decide +kernel, rfl, rfl⟩
set_option maxHeartbeats 4000000 in
set_option maxRecDepth 100000 in
theorem c_J9_floorMod_7cf53 {l : Launch} {D : va_G} {cI cB cZ cR cM cS : ClassId} {x0 : Int32} {x1 : Int32} {res : Int32} (hF : F_J9_floorMod_7cf53 x0 x1 = some res) : MI l yJ9_floorMod_7cf53 cJ9_floorMod_7cf53 3 .int rm_J9_floorMod_7cf53 D (TS cI cB cZ cR cM cS) [.int x0, .int x1] [] [] res :=
  MI_of (by decide +kernel) (Nat.le_of_ble_eq_true rfl) (fun p e s m args below meth c A ls C hr hlk hK hA hP hD hS hl => by
    have C : CX p m c cJ9_floorMod_7cf53 3 s args RJ9 := C
    have hl : lv_has ls 3 [(0, .int x0), (1, .int x1)] := hl
    unfold F_J9_floorMod_7cf53 at hF
    refine lv_iload_n C.1 C.2.1 dJ9_floorMod_7cf53_0 rfl (lv_at hl 0 rfl) ?_
    refine lv_iload_n C.1 C.2.1 dJ9_floorMod_7cf53_1 rfl (lv_at hl 1 rfl) ?_
    obtain ⟨h1, hF⟩ := fk hF
    refine lv_irem C.1 C.2.1 dJ9_floorMod_7cf53_2 h1 ?_
    refine lv_istore_n (lv' := [(2, .int (irem x0 x1)), (0, .int x0), (1, .int x1)]) C.1 C.2.1 dJ9_floorMod_7cf53_3 rfl hl (by decide) rfl (fun ls hl => ?_)
    refine lv_iload_n C.1 C.2.1 dJ9_floorMod_7cf53_4 rfl (lv_at hl 1 rfl) ?_
    refine lv_iload_n C.1 C.2.1 dJ9_floorMod_7cf53_5 rfl (lv_at hl 2 rfl) ?_
    refine lv_ixor C.1 C.2.1 dJ9_floorMod_7cf53_6 ?_
    refine lv_if_ge (tgt := 18) C.1 C.2.1 dJ9_floorMod_7cf53_7 (by decide) (fun c2 => ?_) (fun c2 => ?_)
    · have hF := fp hF c2
      refine lv_iload_n C.1 C.2.1 dJ9_floorMod_7cf53_18 rfl (lv_at hl 0 rfl) ?_
      have hF := Option.some.inj hF
      subst hF
      exact retI C hr hlk hP hD hS dJ9_floorMod_7cf53_19
    · have hF := fn hF c2
      refine lv_iload_n C.1 C.2.1 dJ9_floorMod_7cf53_10 rfl (lv_at hl 0 rfl) ?_
      refine lv_if_eq (tgt := 18) C.1 C.2.1 dJ9_floorMod_7cf53_11 (by decide) (fun c3 => ?_) (fun c3 => ?_)
      · have hF := fp hF c3
        refine lv_iload_n C.1 C.2.1 dJ9_floorMod_7cf53_18 rfl (lv_at hl 0 rfl) ?_
        have hF := Option.some.inj hF
        subst hF
        exact retI C hr hlk hP hD hS dJ9_floorMod_7cf53_19
      · have hF := fn hF c3
        refine lv_iload_n C.1 C.2.1 dJ9_floorMod_7cf53_14 rfl (lv_at hl 0 rfl) ?_
        refine lv_iload_n C.1 C.2.1 dJ9_floorMod_7cf53_15 rfl (lv_at hl 2 rfl) ?_
        refine lv_iadd C.1 C.2.1 dJ9_floorMod_7cf53_16 ?_
        have hF := Option.some.inj hF
        subst hF
        exact retI C hr hlk hP hD hS dJ9_floorMod_7cf53_17)
def rm_X4_fit : Room := { frames := 1, cells := 0, slots := 0, locals := 22 }
theorem cv_X4_fit : CV yX4_fit cX4_fit 4 (some .boolean) rm_X4_fit RX4 2 := ⟨kw3_129, kw3_130, kw1_5, kw3_131, by decide +kernel, rfl, rfl⟩
set_option maxHeartbeats 4000000 in
set_option maxRecDepth 100000 in
theorem b_X4_fit_2 {l : Launch} {D : va_G} {cI cB cZ cR cM cS : ClassId} {a_this : Nat} {a_ticksOn : Nat} {a_who : Nat} {a_left : Nat} {a_o1 : Nat} {a_o1_signs : Nat} {a_o1_rotors : Nat} {a_o1_rotors_e : Nat → Nat} {v_o1_field : Int32} {v_o1_tick : Int32} {v_o1_pace : Int32} {v_o1_signNumber : Int32} {v_o1_rotorNumber : Int32} {p : Program} {e : Env} {s : State} {m : MethodId} {args : Array Value} {below : List Frame} {meth : Method} {c : Code} {A : Nat → Prop} {res : Int32} (C : CX p m c cX4_fit 4 s args RX4) (hr : meth.sig.returnType = (some .boolean)) (hlk : meth.locks = false) (hK : KK D (TS cI cB cZ cR cM cS) s) (hA : ∀ q, s.heap.size ≤ q → A q) : ∀ (fu : Nat) (v_number : Int32) (v_ticksOn : Nat → Int32) (v_who : Nat → Int32) (v_left : Nat → Int32) (v_o1_rotorsF : Nat → Rot) (x2 : Int32) (x3 : Int32) (H : Heap) (locs : List Loc) (ls : Array Slot), F_X4_fit_2 fu v_number v_ticksOn v_who v_left v_o1_rotorsF x2 x3 = some res → va_P D vwCl [(a_this, .inr (4, [.int v_number, .ref a_ticksOn, .ref a_who, .ref a_left])), (a_ticksOn, .inl (cI, 6, .inl v_ticksOn)), (a_who, .inl (cI, 6, .inl v_who)), (a_left, .inl (cI, 6, .inl v_left)), (a_o1, .inr (0, [.int v_o1_field, .int v_o1_tick, .int v_o1_pace, .int v_o1_signNumber, .int v_o1_rotorNumber, .ref a_o1_signs, .ref a_o1_rotors])), (a_o1_rotors, rfn cR 4 a_o1_rotors_e), rcell a_o1_rotors_e v_o1_rotorsF 0, rcell a_o1_rotors_e v_o1_rotorsF 1, rcell a_o1_rotors_e v_o1_rotorsF 2, rcell a_o1_rotors_e v_o1_rotorsF 3] H → va_D A [(a_this, .inr (4, [.int v_number, .ref a_ticksOn, .ref a_who, .ref a_left])), (a_ticksOn, .inl (cI, 6, .inl v_ticksOn)), (a_who, .inl (cI, 6, .inl v_who)), (a_left, .inl (cI, 6, .inl v_left)), (a_o1, .inr (0, [.int v_o1_field, .int v_o1_tick, .int v_o1_pace, .int v_o1_signNumber, .int v_o1_rotorNumber, .ref a_o1_signs, .ref a_o1_rotors])), (a_o1_rotors, rfn cR 4 a_o1_rotors_e), rcell a_o1_rotors_e v_o1_rotorsF 0, rcell a_o1_rotors_e v_o1_rotorsF 1, rcell a_o1_rotors_e v_o1_rotorsF 2, rcell a_o1_rotors_e v_o1_rotorsF 3] → va_S A s.heap H locs → lv_has ls 4 [(0, .ref a_this), (1, .ref a_o1), (2, .int x2), (3, .int x3)] → W p l e rm_X4_fit s m args below meth c H locs 0 0 (MQ below (va_Qi (fun x (_ : Unit) => x = res) (BW D A [(a_this, .inr (4, [.int v_number, .ref a_ticksOn, .ref a_who, .ref a_left])), (a_ticksOn, .inl (cI, 6, .inl v_ticksOn)), (a_who, .inl (cI, 6, .inl v_who)), (a_left, .inl (cI, 6, .inl v_left)), (a_o1, .inr (0, [.int v_o1_field, .int v_o1_tick, .int v_o1_pace, .int v_o1_signNumber, .int v_o1_rotorNumber, .ref a_o1_signs, .ref a_o1_rotors])), (a_o1_rotors, rfn cR 4 a_o1_rotors_e), rcell a_o1_rotors_e v_o1_rotorsF 0, rcell a_o1_rotors_e v_o1_rotorsF 1, rcell a_o1_rotors_e v_o1_rotorsF 2, rcell a_o1_rotors_e v_o1_rotorsF 3]) A) args s 0 0 A) (F0 m 2 ls []) := by
  intro fu
  induction fu with
  | zero => intro v_number v_ticksOn v_who v_left v_o1_rotorsF x2 x3 H locs ls hF; cases hF
  | succ fu ih =>
    intro v_number v_ticksOn v_who v_left v_o1_rotorsF x2 x3 H locs ls hF  hP hD hS hl
    unfold F_X4_fit_2 at hF
    refine lv_iload_n C.1 C.2.1 dX4_fit_2 rfl (lv_at hl 3 rfl) ?_
    refine lv_aload_n C.1 C.2.1 dX4_fit_3 rfl (lv_at hl 0 rfl) ?_
    refine gf_4_4_number C hK hP 0 rfl rfl dX4_fit_4 ?_
    refine lv_icmp_ge (tgt := 56) C.1 C.2.1 dX4_fit_7 (by decide) (fun c1 => ?_) (fun c1 => ?_)
    · have hF := fp hF c1
      refine lv_iconst (v := 1) C.1 C.2.1 dX4_fit_56 (by decide) ?_
      have hF := Option.some.inj hF
      subst hF
      exact retZ (v := 1) C hr hlk (by decide) hP hD hS dX4_fit_57
    · have hF := fn hF c1
      refine lv_aload_n C.1 C.2.1 dX4_fit_10 rfl (lv_at hl 0 rfl) ?_
      refine gf_4_4_ticksOn C hK hP 0 rfl rfl dX4_fit_11 ?_
      refine lv_iload_n C.1 C.2.1 dX4_fit_14 rfl (lv_at hl 3 rfl) ?_
      obtain ⟨h2, hF⟩ := fk hF
      refine va_iald C.1 C.2.1 hK.1 hP 1 0 rfl rfl h2 dX4_fit_15 ?_
      refine lv_iload_n C.1 C.2.1 dX4_fit_16 rfl (lv_at hl 2 rfl) ?_
      refine lv_icmp_ne (tgt := 50) C.1 C.2.1 dX4_fit_17 (by decide) (fun c3 => ?_) (fun c3 => ?_)
      · have hF := fn hF c3
        refine lv_iinc (v := x3 + 1) (lv' := [(3, .int (x3 + 1)), (0, .ref a_this), (1, .ref a_o1), (2, .int x2)]) C.1 C.2.1 dX4_fit_50 hl (k := 3) rfl rfl (by decide) rfl (fun ls hl => ?_)
        refine lv_goto (tgt := 2) C.1 C.2.1 dX4_fit_53 (by decide) ?_
        exact ih v_number v_ticksOn v_who v_left v_o1_rotorsF x2 (x3 + 1) _ _ _ hF hP hD hS (lv_sub hl [1, 2, 3, 0] rfl)
      · have hF := fp hF c3
        refine lv_aload_n C.1 C.2.1 dX4_fit_20 rfl (lv_at hl 1 rfl) ?_
        refine gf_4_0_rotors C hK hP 4 rfl rfl dX4_fit_21 ?_
        refine lv_aload_n C.1 C.2.1 dX4_fit_24 rfl (lv_at hl 0 rfl) ?_
        refine gf_4_4_who C hK hP 0 rfl rfl dX4_fit_25 ?_
        refine lv_iload_n C.1 C.2.1 dX4_fit_28 rfl (lv_at hl 3 rfl) ?_
        obtain ⟨h4, hF⟩ := fk hF
        refine va_iald C.1 C.2.1 hK.1 hP 2 0 rfl rfl h4 dX4_fit_29 ?_
        obtain ⟨h5, hF⟩ := fk hF
        refine aldR C hK hP 5 3 rfl rfl h5 dX4_fit_30 ?_
        have hk6 : (v_who x3.toNatClampNeg).toNatClampNeg < 4 := Nat.not_le.mp (fun q => h5 (Or.inr q))
        refine gf_4_2_place C hK hP (6 + ((v_who x3.toNatClampNeg).toNatClampNeg)) (famget 6 (rcell a_o1_rotors_e v_o1_rotorsF) rfl rfl rfl rfl hk6) rfl dX4_fit_31 ?_
        refine lv_bipush (v := 8) C.1 C.2.1 dX4_fit_34 (by decide) ?_
        obtain ⟨r7, h8, hF⟩ := fb hF
        refine callSX C hK hA hP hD hS (c_J9_floorMod_7cf53  h8) cs_J9_floorMod_7cf53 kw3_132 ⟨Nat.le_of_ble_eq_true rfl, Nat.le_of_ble_eq_true rfl⟩ ⟨Nat.zero_le _, Nat.zero_le _⟩ hl.1 rfl (Nat.le_of_ble_eq_true rfl) dX4_fit_36 (fun H locs hP hD hS => ?_)
        refine lv_aload_n C.1 C.2.1 dX4_fit_39 rfl (lv_at hl 0 rfl) ?_
        refine gf_4_4_left C hK hP 0 rfl rfl dX4_fit_40 ?_
        refine lv_iload_n C.1 C.2.1 dX4_fit_43 rfl (lv_at hl 3 rfl) ?_
        obtain ⟨h9, hF⟩ := fk hF
        refine va_iald C.1 C.2.1 hK.1 hP 3 0 rfl rfl h9 dX4_fit_44 ?_
        refine lv_icmp_eq (tgt := 50) C.1 C.2.1 dX4_fit_45 (by decide) (fun c10 => ?_) (fun c10 => ?_)
        · have hF := fp hF c10
          refine lv_iinc (v := x3 + 1) (lv' := [(3, .int (x3 + 1)), (0, .ref a_this), (1, .ref a_o1), (2, .int x2)]) C.1 C.2.1 dX4_fit_50 hl (k := 3) rfl rfl (by decide) rfl (fun ls hl => ?_)
          refine lv_goto (tgt := 2) C.1 C.2.1 dX4_fit_53 (by decide) ?_
          exact ih v_number v_ticksOn v_who v_left v_o1_rotorsF x2 (x3 + 1) _ _ _ hF hP hD hS (lv_sub hl [1, 2, 3, 0] rfl)
        · have hF := fn hF c10
          refine lv_iconst (v := 0) C.1 C.2.1 dX4_fit_48 (by decide) ?_
          have hF := Option.some.inj hF
          subst hF
          exact retZ (v := 0) C hr hlk (by decide) hP hD hS dX4_fit_49
set_option maxHeartbeats 4000000 in
set_option maxRecDepth 100000 in
theorem c_X4_fit {l : Launch} {D : va_G} {cI cB cZ cR cM cS : ClassId} {a_this : Nat} {a_ticksOn : Nat} {a_who : Nat} {a_left : Nat} {a_o1 : Nat} {a_o1_signs : Nat} {a_o1_rotors : Nat} {a_o1_rotors_e : Nat → Nat} {v_number : Int32} {v_ticksOn : Nat → Int32} {v_who : Nat → Int32} {v_left : Nat → Int32} {v_o1_field : Int32} {v_o1_tick : Int32} {v_o1_pace : Int32} {v_o1_signNumber : Int32} {v_o1_rotorNumber : Int32} {v_o1_rotorsF : Nat → Rot} {x2 : Int32} {res : Int32} (hF : F_X4_fit v_number v_ticksOn v_who v_left v_o1_rotorsF x2 = some res) : MI l yX4_fit cX4_fit 4 .boolean rm_X4_fit D (TS cI cB cZ cR cM cS) [.ref a_this, .ref a_o1, .int x2] [(a_this, .inr (4, [.int v_number, .ref a_ticksOn, .ref a_who, .ref a_left])), (a_ticksOn, .inl (cI, 6, .inl v_ticksOn)), (a_who, .inl (cI, 6, .inl v_who)), (a_left, .inl (cI, 6, .inl v_left)), (a_o1, .inr (0, [.int v_o1_field, .int v_o1_tick, .int v_o1_pace, .int v_o1_signNumber, .int v_o1_rotorNumber, .ref a_o1_signs, .ref a_o1_rotors])), (a_o1_rotors, rfn cR 4 a_o1_rotors_e), rcell a_o1_rotors_e v_o1_rotorsF 0, rcell a_o1_rotors_e v_o1_rotorsF 1, rcell a_o1_rotors_e v_o1_rotorsF 2, rcell a_o1_rotors_e v_o1_rotorsF 3] [(a_this, .inr (4, [.int v_number, .ref a_ticksOn, .ref a_who, .ref a_left])), (a_ticksOn, .inl (cI, 6, .inl v_ticksOn)), (a_who, .inl (cI, 6, .inl v_who)), (a_left, .inl (cI, 6, .inl v_left)), (a_o1, .inr (0, [.int v_o1_field, .int v_o1_tick, .int v_o1_pace, .int v_o1_signNumber, .int v_o1_rotorNumber, .ref a_o1_signs, .ref a_o1_rotors])), (a_o1_rotors, rfn cR 4 a_o1_rotors_e), rcell a_o1_rotors_e v_o1_rotorsF 0, rcell a_o1_rotors_e v_o1_rotorsF 1, rcell a_o1_rotors_e v_o1_rotorsF 2, rcell a_o1_rotors_e v_o1_rotorsF 3] res :=
  MI_of (by decide) (Nat.le_of_ble_eq_true rfl) (fun p e s m args below meth c A ls C hr hlk hK hA hP hD hS hl => by
    have C : CX p m c cX4_fit 4 s args RX4 := C
    have hl : lv_has ls 4 [(0, .ref a_this), (1, .ref a_o1), (2, .int x2)] := hl
    unfold F_X4_fit at hF
    refine lv_iconst (v := 0) C.1 C.2.1 dX4_fit_0 (by decide) ?_
    refine lv_istore_n (lv' := [(3, .int (0 : Int32)), (0, .ref a_this), (1, .ref a_o1), (2, .int x2)]) C.1 C.2.1 dX4_fit_1 rfl hl (by decide) rfl (fun ls hl => ?_)
    exact b_X4_fit_2 C hr hlk hK hA FU v_number v_ticksOn v_who v_left v_o1_rotorsF x2 (0 : Int32) _ _ _ hF hP hD hS (lv_sub hl [1, 2, 3, 0] rfl))
def rm_X4_copyFrom : Room := { frames := 1, cells := 0, slots := 0, locals := 60 }
theorem cv_X4_copyFrom : CV yX4_copyFrom cX4_copyFrom 2 none rm_X4_copyFrom RX4 1 := ⟨kw3_158, kw3_159, kw1_5, kw3_160, by decide +kernel, rfl, rfl⟩
set_option maxHeartbeats 4000000 in
set_option maxRecDepth 100000 in
theorem c0_X4_copyFrom {l : Launch} {D : va_G} {cI cB cZ cR cM cS : ClassId} {a_this : Nat} {a_ticksOn : Nat} {a_who : Nat} {a_left : Nat} {a_o1 : Nat} {a_o1_ticksOn : Nat} {a_o1_who : Nat} {a_o1_left : Nat} {v_number : Int32} {v_ticksOn : Nat → Int32} {v_who : Nat → Int32} {v_left : Nat → Int32} {v_o1_number : Int32} {v_o1_ticksOn : Nat → Int32} {v_o1_who : Nat → Int32} {v_o1_left : Nat → Int32} {res : Int32 × (Nat → Int32) × (Nat → Int32) × (Nat → Int32)} (hF : F_X4_copyFrom v_number v_ticksOn v_who v_left v_o1_number v_o1_ticksOn v_o1_who v_o1_left = some res) : MV l yX4_copyFrom cX4_copyFrom 2 rm_X4_copyFrom D (TS cI cB cZ cR cM cS) [.ref a_this, .ref a_o1] [(a_this, .inr (4, [.int v_number, .ref a_ticksOn, .ref a_who, .ref a_left])), (a_ticksOn, .inl (cI, 6, .inl v_ticksOn)), (a_who, .inl (cI, 6, .inl v_who)), (a_left, .inl (cI, 6, .inl v_left)), (a_o1, .inr (4, [.int v_o1_number, .ref a_o1_ticksOn, .ref a_o1_who, .ref a_o1_left])), (a_o1_ticksOn, .inl (cI, 6, .inl v_o1_ticksOn)), (a_o1_who, .inl (cI, 6, .inl v_o1_who)), (a_o1_left, .inl (cI, 6, .inl v_o1_left))] [(a_this, .inr (4, [.int res.1, .ref a_ticksOn, .ref a_who, .ref a_left])), (a_ticksOn, .inl (cI, 6, .inl res.2.1)), (a_who, .inl (cI, 6, .inl res.2.2.1)), (a_left, .inl (cI, 6, .inl res.2.2.2)), (a_o1, .inr (4, [.int v_o1_number, .ref a_o1_ticksOn, .ref a_o1_who, .ref a_o1_left])), (a_o1_ticksOn, .inl (cI, 6, .inl v_o1_ticksOn)), (a_o1_who, .inl (cI, 6, .inl v_o1_who)), (a_o1_left, .inl (cI, 6, .inl v_o1_left))] :=
  MV_of (by decide) (Nat.le_of_ble_eq_true rfl) (fun p e s m args below meth c A ls C hr hlk hK hA hP hD hS hl => by
    have C : CX p m c cX4_copyFrom 2 s args RX4 := C
    have hl : lv_has ls 2 [(0, .ref a_this), (1, .ref a_o1)] := hl
    unfold F_X4_copyFrom at hF
    refine lv_aload_n C.1 C.2.1 dX4_copyFrom_0 rfl (lv_at hl 0 rfl) ?_
    refine lv_aload_n C.1 C.2.1 dX4_copyFrom_1 rfl (lv_at hl 1 rfl) ?_
    refine gf_4_4_number C hK hP 4 rfl rfl dX4_copyFrom_2 ?_
    refine pf_4_4_number C hK hP hD hS 0 rfl rfl dX4_copyFrom_5 (fun H locs hP hD hS => ?_)
    have hP : va_P D vwCl [(a_this, .inr (4, [.int v_o1_number, .ref a_ticksOn, .ref a_who, .ref a_left])), (a_ticksOn, .inl (cI, 6, .inl v_ticksOn)), (a_who, .inl (cI, 6, .inl v_who)), (a_left, .inl (cI, 6, .inl v_left)), (a_o1, .inr (4, [.int v_o1_number, .ref a_o1_ticksOn, .ref a_o1_who, .ref a_o1_left])), (a_o1_ticksOn, .inl (cI, 6, .inl v_o1_ticksOn)), (a_o1_who, .inl (cI, 6, .inl v_o1_who)), (a_o1_left, .inl (cI, 6, .inl v_o1_left))] H := hP
    have hD : va_D A [(a_this, .inr (4, [.int v_o1_number, .ref a_ticksOn, .ref a_who, .ref a_left])), (a_ticksOn, .inl (cI, 6, .inl v_ticksOn)), (a_who, .inl (cI, 6, .inl v_who)), (a_left, .inl (cI, 6, .inl v_left)), (a_o1, .inr (4, [.int v_o1_number, .ref a_o1_ticksOn, .ref a_o1_who, .ref a_o1_left])), (a_o1_ticksOn, .inl (cI, 6, .inl v_o1_ticksOn)), (a_o1_who, .inl (cI, 6, .inl v_o1_who)), (a_o1_left, .inl (cI, 6, .inl v_o1_left))] := hD
    refine lv_aload_n C.1 C.2.1 dX4_copyFrom_8 rfl (lv_at hl 1 rfl) ?_
    refine gf_4_4_ticksOn C hK hP 4 rfl rfl dX4_copyFrom_9 ?_
    refine lv_iconst (v := 0) C.1 C.2.1 dX4_copyFrom_12 (by decide) ?_
    refine lv_aload_n C.1 C.2.1 dX4_copyFrom_13 rfl (lv_at hl 0 rfl) ?_
    refine gf_4_4_ticksOn C hK hP 0 rfl rfl dX4_copyFrom_14 ?_
    refine lv_iconst (v := 0) C.1 C.2.1 dX4_copyFrom_17 (by decide) ?_
    refine lv_bipush (v := 6) C.1 C.2.1 dX4_copyFrom_18 (by decide) ?_
    refine va_copyi C.1 C.2.1 (C.2.2.1.trans hl.1.symm) C.2.2.2.1 (C.2.2.2.2 _ kw3_161) (C.2.2.2.2 _ kw2_130) (C.2.2.2.2 _ kw2_129) (C.2.2.2.2 _ kw1_13) hK.1 hP hD hS 5 1 0 0 rfl rfl rfl rfl rfl (by decide) (by decide) (by decide) (by decide) (by decide) (fun _ _ => rfl) (Nat.le_of_ble_eq_true rfl) (Nat.le_of_ble_eq_true rfl) dX4_copyFrom_20 (fun H locs hP hD hS => ?_)
    have hP : va_P D vwCl [(a_this, .inr (4, [.int v_o1_number, .ref a_ticksOn, .ref a_who, .ref a_left])), (a_ticksOn, .inl (cI, 6, .inl (va_cpy v_o1_ticksOn v_ticksOn (0 : Int32).toNatClampNeg (0 : Int32).toNatClampNeg (6 : Int32).toNatClampNeg))), (a_who, .inl (cI, 6, .inl v_who)), (a_left, .inl (cI, 6, .inl v_left)), (a_o1, .inr (4, [.int v_o1_number, .ref a_o1_ticksOn, .ref a_o1_who, .ref a_o1_left])), (a_o1_ticksOn, .inl (cI, 6, .inl v_o1_ticksOn)), (a_o1_who, .inl (cI, 6, .inl v_o1_who)), (a_o1_left, .inl (cI, 6, .inl v_o1_left))] H := hP
    have hD : va_D A [(a_this, .inr (4, [.int v_o1_number, .ref a_ticksOn, .ref a_who, .ref a_left])), (a_ticksOn, .inl (cI, 6, .inl (va_cpy v_o1_ticksOn v_ticksOn (0 : Int32).toNatClampNeg (0 : Int32).toNatClampNeg (6 : Int32).toNatClampNeg))), (a_who, .inl (cI, 6, .inl v_who)), (a_left, .inl (cI, 6, .inl v_left)), (a_o1, .inr (4, [.int v_o1_number, .ref a_o1_ticksOn, .ref a_o1_who, .ref a_o1_left])), (a_o1_ticksOn, .inl (cI, 6, .inl v_o1_ticksOn)), (a_o1_who, .inl (cI, 6, .inl v_o1_who)), (a_o1_left, .inl (cI, 6, .inl v_o1_left))] := hD
    refine lv_aload_n C.1 C.2.1 dX4_copyFrom_23 rfl (lv_at hl 1 rfl) ?_
    refine gf_4_4_who C hK hP 4 rfl rfl dX4_copyFrom_24 ?_
    refine lv_iconst (v := 0) C.1 C.2.1 dX4_copyFrom_27 (by decide) ?_
    refine lv_aload_n C.1 C.2.1 dX4_copyFrom_28 rfl (lv_at hl 0 rfl) ?_
    refine gf_4_4_who C hK hP 0 rfl rfl dX4_copyFrom_29 ?_
    refine lv_iconst (v := 0) C.1 C.2.1 dX4_copyFrom_32 (by decide) ?_
    refine lv_bipush (v := 6) C.1 C.2.1 dX4_copyFrom_33 (by decide) ?_
    refine va_copyi C.1 C.2.1 (C.2.2.1.trans hl.1.symm) C.2.2.2.1 (C.2.2.2.2 _ kw3_161) (C.2.2.2.2 _ kw2_130) (C.2.2.2.2 _ kw2_129) (C.2.2.2.2 _ kw1_13) hK.1 hP hD hS 6 2 0 0 rfl rfl rfl rfl rfl (by decide) (by decide) (by decide) (by decide) (by decide) (fun _ _ => rfl) (Nat.le_of_ble_eq_true rfl) (Nat.le_of_ble_eq_true rfl) dX4_copyFrom_35 (fun H locs hP hD hS => ?_)
    have hP : va_P D vwCl [(a_this, .inr (4, [.int v_o1_number, .ref a_ticksOn, .ref a_who, .ref a_left])), (a_ticksOn, .inl (cI, 6, .inl (va_cpy v_o1_ticksOn v_ticksOn (0 : Int32).toNatClampNeg (0 : Int32).toNatClampNeg (6 : Int32).toNatClampNeg))), (a_who, .inl (cI, 6, .inl (va_cpy v_o1_who v_who (0 : Int32).toNatClampNeg (0 : Int32).toNatClampNeg (6 : Int32).toNatClampNeg))), (a_left, .inl (cI, 6, .inl v_left)), (a_o1, .inr (4, [.int v_o1_number, .ref a_o1_ticksOn, .ref a_o1_who, .ref a_o1_left])), (a_o1_ticksOn, .inl (cI, 6, .inl v_o1_ticksOn)), (a_o1_who, .inl (cI, 6, .inl v_o1_who)), (a_o1_left, .inl (cI, 6, .inl v_o1_left))] H := hP
    have hD : va_D A [(a_this, .inr (4, [.int v_o1_number, .ref a_ticksOn, .ref a_who, .ref a_left])), (a_ticksOn, .inl (cI, 6, .inl (va_cpy v_o1_ticksOn v_ticksOn (0 : Int32).toNatClampNeg (0 : Int32).toNatClampNeg (6 : Int32).toNatClampNeg))), (a_who, .inl (cI, 6, .inl (va_cpy v_o1_who v_who (0 : Int32).toNatClampNeg (0 : Int32).toNatClampNeg (6 : Int32).toNatClampNeg))), (a_left, .inl (cI, 6, .inl v_left)), (a_o1, .inr (4, [.int v_o1_number, .ref a_o1_ticksOn, .ref a_o1_who, .ref a_o1_left])), (a_o1_ticksOn, .inl (cI, 6, .inl v_o1_ticksOn)), (a_o1_who, .inl (cI, 6, .inl v_o1_who)), (a_o1_left, .inl (cI, 6, .inl v_o1_left))] := hD
    refine lv_aload_n C.1 C.2.1 dX4_copyFrom_38 rfl (lv_at hl 1 rfl) ?_
    refine gf_4_4_left C hK hP 4 rfl rfl dX4_copyFrom_39 ?_
    refine lv_iconst (v := 0) C.1 C.2.1 dX4_copyFrom_42 (by decide) ?_
    refine lv_aload_n C.1 C.2.1 dX4_copyFrom_43 rfl (lv_at hl 0 rfl) ?_
    refine gf_4_4_left C hK hP 0 rfl rfl dX4_copyFrom_44 ?_
    refine lv_iconst (v := 0) C.1 C.2.1 dX4_copyFrom_47 (by decide) ?_
    refine lv_bipush (v := 6) C.1 C.2.1 dX4_copyFrom_48 (by decide) ?_
    refine va_copyi C.1 C.2.1 (C.2.2.1.trans hl.1.symm) C.2.2.2.1 (C.2.2.2.2 _ kw3_161) (C.2.2.2.2 _ kw2_130) (C.2.2.2.2 _ kw2_129) (C.2.2.2.2 _ kw1_13) hK.1 hP hD hS 7 3 0 0 rfl rfl rfl rfl rfl (by decide) (by decide) (by decide) (by decide) (by decide) (fun _ _ => rfl) (Nat.le_of_ble_eq_true rfl) (Nat.le_of_ble_eq_true rfl) dX4_copyFrom_50 (fun H locs hP hD hS => ?_)
    have hP : va_P D vwCl [(a_this, .inr (4, [.int v_o1_number, .ref a_ticksOn, .ref a_who, .ref a_left])), (a_ticksOn, .inl (cI, 6, .inl (va_cpy v_o1_ticksOn v_ticksOn (0 : Int32).toNatClampNeg (0 : Int32).toNatClampNeg (6 : Int32).toNatClampNeg))), (a_who, .inl (cI, 6, .inl (va_cpy v_o1_who v_who (0 : Int32).toNatClampNeg (0 : Int32).toNatClampNeg (6 : Int32).toNatClampNeg))), (a_left, .inl (cI, 6, .inl (va_cpy v_o1_left v_left (0 : Int32).toNatClampNeg (0 : Int32).toNatClampNeg (6 : Int32).toNatClampNeg))), (a_o1, .inr (4, [.int v_o1_number, .ref a_o1_ticksOn, .ref a_o1_who, .ref a_o1_left])), (a_o1_ticksOn, .inl (cI, 6, .inl v_o1_ticksOn)), (a_o1_who, .inl (cI, 6, .inl v_o1_who)), (a_o1_left, .inl (cI, 6, .inl v_o1_left))] H := hP
    have hD : va_D A [(a_this, .inr (4, [.int v_o1_number, .ref a_ticksOn, .ref a_who, .ref a_left])), (a_ticksOn, .inl (cI, 6, .inl (va_cpy v_o1_ticksOn v_ticksOn (0 : Int32).toNatClampNeg (0 : Int32).toNatClampNeg (6 : Int32).toNatClampNeg))), (a_who, .inl (cI, 6, .inl (va_cpy v_o1_who v_who (0 : Int32).toNatClampNeg (0 : Int32).toNatClampNeg (6 : Int32).toNatClampNeg))), (a_left, .inl (cI, 6, .inl (va_cpy v_o1_left v_left (0 : Int32).toNatClampNeg (0 : Int32).toNatClampNeg (6 : Int32).toNatClampNeg))), (a_o1, .inr (4, [.int v_o1_number, .ref a_o1_ticksOn, .ref a_o1_who, .ref a_o1_left])), (a_o1_ticksOn, .inl (cI, 6, .inl v_o1_ticksOn)), (a_o1_who, .inl (cI, 6, .inl v_o1_who)), (a_o1_left, .inl (cI, 6, .inl v_o1_left))] := hD
    have hF := Option.some.inj hF
    subst hF
    exact retV C hr hlk hP hD hS dX4_copyFrom_53)
theorem c_X4_copyFrom {l : Launch} {D : va_G} {cI cB cZ cR cM cS : ClassId} {a_this : Nat} {a_ticksOn : Nat} {a_who : Nat} {a_left : Nat} {a_o1 : Nat} {a_o1_ticksOn : Nat} {a_o1_who : Nat} {a_o1_left : Nat} {v_number : Int32} {v_ticksOn : Nat → Int32} {v_who : Nat → Int32} {v_left : Nat → Int32} {v_o1_number : Int32} {v_o1_ticksOn : Nat → Int32} {v_o1_who : Nat → Int32} {v_o1_left : Nat → Int32} {v_number' : Int32} {v_ticksOn' : Nat → Int32} {v_who' : Nat → Int32} {v_left' : Nat → Int32} (hF : F_X4_copyFrom v_number v_ticksOn v_who v_left v_o1_number v_o1_ticksOn v_o1_who v_o1_left = some (v_number', v_ticksOn', v_who', v_left')) : MV l yX4_copyFrom cX4_copyFrom 2 rm_X4_copyFrom D (TS cI cB cZ cR cM cS) [.ref a_this, .ref a_o1] [(a_this, .inr (4, [.int v_number, .ref a_ticksOn, .ref a_who, .ref a_left])), (a_ticksOn, .inl (cI, 6, .inl v_ticksOn)), (a_who, .inl (cI, 6, .inl v_who)), (a_left, .inl (cI, 6, .inl v_left)), (a_o1, .inr (4, [.int v_o1_number, .ref a_o1_ticksOn, .ref a_o1_who, .ref a_o1_left])), (a_o1_ticksOn, .inl (cI, 6, .inl v_o1_ticksOn)), (a_o1_who, .inl (cI, 6, .inl v_o1_who)), (a_o1_left, .inl (cI, 6, .inl v_o1_left))] [(a_this, .inr (4, [.int v_number', .ref a_ticksOn, .ref a_who, .ref a_left])), (a_ticksOn, .inl (cI, 6, .inl v_ticksOn')), (a_who, .inl (cI, 6, .inl v_who')), (a_left, .inl (cI, 6, .inl v_left')), (a_o1, .inr (4, [.int v_o1_number, .ref a_o1_ticksOn, .ref a_o1_who, .ref a_o1_left])), (a_o1_ticksOn, .inl (cI, 6, .inl v_o1_ticksOn)), (a_o1_who, .inl (cI, 6, .inl v_o1_who)), (a_o1_left, .inl (cI, 6, .inl v_o1_left))] :=
  c0_X4_copyFrom (res := (v_number', v_ticksOn', v_who', v_left')) hF
def rm_X3_renew : Room := { frames := 0, cells := 0, slots := 0, locals := 0 }
theorem cv_X3_renew : CV yX3_renew cX3_renew 4 none rm_X3_renew RX3 2 := ⟨kw3_171, kw3_172, kw1_7, kw3_173, by decide +kernel, rfl, rfl⟩
set_option maxHeartbeats 4000000 in
set_option maxRecDepth 100000 in
theorem b_X3_renew_12 {l : Launch} {D : va_G} {cI cB cZ cR cM cS : ClassId} {a_this : Nat} {a_cells : Nat} {p : Program} {e : Env} {s : State} {m : MethodId} {args : Array Value} {below : List Frame} {meth : Method} {c : Code} {A : Nat → Prop} {res : Int32 × Int32 × (Nat → Int32)} (C : CX p m c cX3_renew 4 s args RX3) (hr : meth.sig.returnType = none) (hlk : meth.locks = false) (hK : KK D (TS cI cB cZ cR cM cS) s) (hA : ∀ q, s.heap.size ≤ q → A q) : ∀ (fu : Nat) (v_lane : Int32) (v_size : Int32) (v_cells : Nat → Int32) (x3 : Int32) (H : Heap) (locs : List Loc) (ls : Array Slot), F_X3_renew_12 fu v_lane v_size v_cells x3 = some res → va_P D vwCl [(a_this, .inr (3, [.int v_lane, .int v_size, .ref a_cells])), (a_cells, .inl (cI, 40, .inl v_cells))] H → va_D A [(a_this, .inr (3, [.int v_lane, .int v_size, .ref a_cells])), (a_cells, .inl (cI, 40, .inl v_cells))] → va_S A s.heap H locs → lv_has ls 4 [(0, .ref a_this), (3, .int x3)] → W p l e rm_X3_renew s m args below meth c H locs 0 0 (MQ below (va_Qv (fun (_ : Unit) => True) (BW D A [(a_this, .inr (3, [.int res.1, .int res.2.1, .ref a_cells])), (a_cells, .inl (cI, 40, .inl res.2.2))]) A) args s 0 0 A) (F0 m 12 ls []) := by
  intro fu
  induction fu with
  | zero => intro v_lane v_size v_cells x3 H locs ls hF; cases hF
  | succ fu ih =>
    intro v_lane v_size v_cells x3 H locs ls hF  hP hD hS hl
    unfold F_X3_renew_12 at hF
    refine lv_iload_n C.1 C.2.1 dX3_renew_12 rfl (lv_at hl 1 rfl) ?_
    refine lv_bipush (v := 40) C.1 C.2.1 dX3_renew_13 (by decide) ?_
    refine lv_icmp_ge (tgt := 31) C.1 C.2.1 dX3_renew_15 (by decide) (fun c1 => ?_) (fun c1 => ?_)
    · have hF := fp hF c1
      have hF := Option.some.inj hF
      subst hF
      exact retV C hr hlk hP hD hS dX3_renew_31
    · have hF := fn hF c1
      refine lv_aload_n C.1 C.2.1 dX3_renew_18 rfl (lv_at hl 0 rfl) ?_
      refine gf_3_3_cells C hK hP 0 rfl rfl dX3_renew_19 ?_
      refine lv_iload_n C.1 C.2.1 dX3_renew_22 rfl (lv_at hl 1 rfl) ?_
      refine lv_iconst (v := 0) C.1 C.2.1 dX3_renew_23 (by decide) ?_
      obtain ⟨h2, hF⟩ := fk hF
      refine va_iast C.1 C.2.1 hK.1 hP hD hS 1 0 rfl rfl h2 dX3_renew_24 (fun H locs hP hD hS => ?_)
      have hP : va_P D vwCl [(a_this, .inr (3, [.int v_lane, .int v_size, .ref a_cells])), (a_cells, .inl (cI, 40, .inl (upd v_cells x3.toNatClampNeg (0 : Int32))))] H := hP
      have hD : va_D A [(a_this, .inr (3, [.int v_lane, .int v_size, .ref a_cells])), (a_cells, .inl (cI, 40, .inl (upd v_cells x3.toNatClampNeg (0 : Int32))))] := hD
      refine lv_iinc (v := x3 + 1) (lv' := [(3, .int (x3 + 1)), (0, .ref a_this)]) C.1 C.2.1 dX3_renew_25 hl (k := 1) rfl rfl (by decide) rfl (fun ls hl => ?_)
      refine lv_goto (tgt := 12) C.1 C.2.1 dX3_renew_28 (by decide) ?_
      exact ih v_lane v_size (upd v_cells x3.toNatClampNeg (0 : Int32)) (x3 + 1) _ _ _ hF hP hD hS (lv_sub hl [1, 0] rfl)
set_option maxHeartbeats 4000000 in
set_option maxRecDepth 100000 in
theorem c0_X3_renew {l : Launch} {D : va_G} {cI cB cZ cR cM cS : ClassId} {a_this : Nat} {a_cells : Nat} {v_lane : Int32} {v_size : Int32} {v_cells : Nat → Int32} {x1 : Int32} {x2 : Int32} {res : Int32 × Int32 × (Nat → Int32)} (hF : F_X3_renew v_lane v_size v_cells x1 x2 = some res) : MV l yX3_renew cX3_renew 4 rm_X3_renew D (TS cI cB cZ cR cM cS) [.ref a_this, .int x1, .int x2] [(a_this, .inr (3, [.int v_lane, .int v_size, .ref a_cells])), (a_cells, .inl (cI, 40, .inl v_cells))] [(a_this, .inr (3, [.int res.1, .int res.2.1, .ref a_cells])), (a_cells, .inl (cI, 40, .inl res.2.2))] :=
  MV_of (by decide) (Nat.le_of_ble_eq_true rfl) (fun p e s m args below meth c A ls C hr hlk hK hA hP hD hS hl => by
    have C : CX p m c cX3_renew 4 s args RX3 := C
    have hl : lv_has ls 4 [(0, .ref a_this), (1, .int x1), (2, .int x2)] := hl
    unfold F_X3_renew at hF
    refine lv_aload_n C.1 C.2.1 dX3_renew_0 rfl (lv_at hl 0 rfl) ?_
    refine lv_iload_n C.1 C.2.1 dX3_renew_1 rfl (lv_at hl 1 rfl) ?_
    refine pf_3_3_lane C hK hP hD hS 0 rfl rfl dX3_renew_2 (fun H locs hP hD hS => ?_)
    have hP : va_P D vwCl [(a_this, .inr (3, [.int x1, .int v_size, .ref a_cells])), (a_cells, .inl (cI, 40, .inl v_cells))] H := hP
    have hD : va_D A [(a_this, .inr (3, [.int x1, .int v_size, .ref a_cells])), (a_cells, .inl (cI, 40, .inl v_cells))] := hD
    refine lv_aload_n C.1 C.2.1 dX3_renew_5 rfl (lv_at hl 0 rfl) ?_
    refine lv_iload_n C.1 C.2.1 dX3_renew_6 rfl (lv_at hl 2 rfl) ?_
    refine pf_3_3_size C hK hP hD hS 0 rfl rfl dX3_renew_7 (fun H locs hP hD hS => ?_)
    have hP : va_P D vwCl [(a_this, .inr (3, [.int x1, .int x2, .ref a_cells])), (a_cells, .inl (cI, 40, .inl v_cells))] H := hP
    have hD : va_D A [(a_this, .inr (3, [.int x1, .int x2, .ref a_cells])), (a_cells, .inl (cI, 40, .inl v_cells))] := hD
    refine lv_iconst (v := 0) C.1 C.2.1 dX3_renew_10 (by decide) ?_
    refine lv_istore_n (lv' := [(3, .int (0 : Int32)), (0, .ref a_this), (1, .int x1), (2, .int x2)]) C.1 C.2.1 dX3_renew_11 rfl hl (by decide) rfl (fun ls hl => ?_)
    exact b_X3_renew_12 C hr hlk hK hA FU x1 x2 v_cells (0 : Int32) _ _ _ hF hP hD hS (lv_sub hl [1, 0] rfl))
theorem c_X3_renew {l : Launch} {D : va_G} {cI cB cZ cR cM cS : ClassId} {a_this : Nat} {a_cells : Nat} {v_lane : Int32} {v_size : Int32} {v_cells : Nat → Int32} {x1 : Int32} {x2 : Int32} {v_lane' : Int32} {v_size' : Int32} {v_cells' : Nat → Int32} (hF : F_X3_renew v_lane v_size v_cells x1 x2 = some (v_lane', v_size', v_cells')) : MV l yX3_renew cX3_renew 4 rm_X3_renew D (TS cI cB cZ cR cM cS) [.ref a_this, .int x1, .int x2] [(a_this, .inr (3, [.int v_lane, .int v_size, .ref a_cells])), (a_cells, .inl (cI, 40, .inl v_cells))] [(a_this, .inr (3, [.int v_lane', .int v_size', .ref a_cells])), (a_cells, .inl (cI, 40, .inl v_cells'))] :=
  c0_X3_renew (res := (v_lane', v_size', v_cells')) hF
def rm_X3_faultAt : Room := { frames := 0, cells := 0, slots := 0, locals := 0 }
theorem cv_X3_faultAt : CV yX3_faultAt cX3_faultAt 2 (some .int) rm_X3_faultAt RX3 1 := ⟨kw3_179, kw3_180, kw1_7, kw3_181, by decide +kernel, rfl, rfl⟩
set_option maxHeartbeats 4000000 in
set_option maxRecDepth 100000 in
theorem b_X3_faultAt_22 {l : Launch} {D : va_G} {cI cB cZ cR cM cS : ClassId} {a_this : Nat} {a_cells : Nat} {p : Program} {e : Env} {s : State} {m : MethodId} {args : Array Value} {below : List Frame} {meth : Method} {c : Code} {A : Nat → Prop} {res : Int32} (C : CX p m c cX3_faultAt 2 s args RX3) (hr : meth.sig.returnType = (some .int)) (hlk : meth.locks = false) (hK : KK D (TS cI cB cZ cR cM cS) s) (hA : ∀ q, s.heap.size ≤ q → A q) : ∀ (v_lane : Int32) (v_size : Int32) (H : Heap) (locs : List Loc) (ls : Array Slot), F_X3_faultAt_22 v_lane v_size = some res → va_P D vwCl [(a_this, .inr (3, [.int v_lane, .int v_size, .ref a_cells]))] H → va_D A [(a_this, .inr (3, [.int v_lane, .int v_size, .ref a_cells]))] → va_S A s.heap H locs → lv_has ls 2 [] → W p l e rm_X3_faultAt s m args below meth c H locs 0 0 (MQ below (va_Qi (fun x (_ : Unit) => x = res) (BW D A [(a_this, .inr (3, [.int v_lane, .int v_size, .ref a_cells]))]) A) args s 0 0 A) (F0 m 22 ls []) := by
  intro v_lane v_size H locs ls hF  hP hD hS hl
  unfold F_X3_faultAt_22 at hF
  refine lv_iconst (v := 2) C.1 C.2.1 dX3_faultAt_22 (by decide) ?_
  refine lv_goto (tgt := 27) C.1 C.2.1 dX3_faultAt_23 (by decide) ?_
  have hF := Option.some.inj hF
  subst hF
  exact retI C hr hlk hP hD hS dX3_faultAt_27
set_option maxHeartbeats 4000000 in
set_option maxRecDepth 100000 in
theorem c_X3_faultAt {l : Launch} {D : va_G} {cI cB cZ cR cM cS : ClassId} {a_this : Nat} {a_cells : Nat} {v_lane : Int32} {v_size : Int32} {x1 : Int32} {res : Int32} (hF : F_X3_faultAt v_lane v_size x1 = some res) : MI l yX3_faultAt cX3_faultAt 2 .int rm_X3_faultAt D (TS cI cB cZ cR cM cS) [.ref a_this, .int x1] [(a_this, .inr (3, [.int v_lane, .int v_size, .ref a_cells]))] [(a_this, .inr (3, [.int v_lane, .int v_size, .ref a_cells]))] res :=
  MI_of (by decide) (Nat.le_of_ble_eq_true rfl) (fun p e s m args below meth c A ls C hr hlk hK hA hP hD hS hl => by
    have C : CX p m c cX3_faultAt 2 s args RX3 := C
    have hl : lv_has ls 2 [(0, .ref a_this), (1, .int x1)] := hl
    unfold F_X3_faultAt at hF
    refine lv_aload_n C.1 C.2.1 dX3_faultAt_0 rfl (lv_at hl 0 rfl) ?_
    refine gf_3_3_lane C hK hP 0 rfl rfl dX3_faultAt_1 ?_
    refine lv_iconst (v := (-1)) C.1 C.2.1 dX3_faultAt_4 (by decide) ?_
    refine lv_icmp_ne (tgt := 10) C.1 C.2.1 dX3_faultAt_5 (by decide) (fun c1 => ?_) (fun c1 => ?_)
    · have hF := fn hF c1
      refine lv_iload_n C.1 C.2.1 dX3_faultAt_10 rfl (lv_at hl 1 rfl) ?_
      refine lv_if_lt (tgt := 22) C.1 C.2.1 dX3_faultAt_11 (by decide) (fun c2 => ?_) (fun c2 => ?_)
      · have hF := fp hF c2
        exact b_X3_faultAt_22 C hr hlk hK hA v_lane v_size _ _ _ hF hP hD hS (lv_sub hl [] rfl)
      · have hF := fn hF c2
        refine lv_iload_n C.1 C.2.1 dX3_faultAt_14 rfl (lv_at hl 1 rfl) ?_
        refine lv_aload_n C.1 C.2.1 dX3_faultAt_15 rfl (lv_at hl 0 rfl) ?_
        refine gf_3_3_size C hK hP 0 rfl rfl dX3_faultAt_16 ?_
        refine lv_icmp_lt (tgt := 26) C.1 C.2.1 dX3_faultAt_19 (by decide) (fun c3 => ?_) (fun c3 => ?_)
        · have hF := fp hF c3
          refine lv_iconst (v := 0) C.1 C.2.1 dX3_faultAt_26 (by decide) ?_
          have hF := Option.some.inj hF
          subst hF
          exact retI C hr hlk hP hD hS dX3_faultAt_27
        · have hF := fn hF c3
          exact b_X3_faultAt_22 C hr hlk hK hA v_lane v_size _ _ _ hF hP hD hS (lv_sub hl [] rfl)
    · have hF := fp hF c1
      refine lv_iconst (v := 1) C.1 C.2.1 dX3_faultAt_8 (by decide) ?_
      have hF := Option.some.inj hF
      subst hF
      exact retI C hr hlk hP hD hS dX3_faultAt_9)
def rm_X3_put : Room := { frames := 0, cells := 0, slots := 0, locals := 0 }
theorem cv_X3_put : CV yX3_put cX3_put 3 none rm_X3_put RX3 2 := ⟨kw3_183, kw3_184, kw1_7, kw3_185, by decide +kernel, rfl, rfl⟩
set_option maxHeartbeats 4000000 in
set_option maxRecDepth 100000 in
theorem c_X3_put {l : Launch} {D : va_G} {cI cB cZ cR cM cS : ClassId} {a_this : Nat} {a_cells : Nat} {v_lane : Int32} {v_size : Int32} {v_cells : Nat → Int32} {x1 : Int32} {x2 : Int32} {res : (Nat → Int32)} (hF : F_X3_put v_lane v_cells x1 x2 = some res) : MV l yX3_put cX3_put 3 rm_X3_put D (TS cI cB cZ cR cM cS) [.ref a_this, .int x1, .int x2] [(a_this, .inr (3, [.int v_lane, .int v_size, .ref a_cells])), (a_cells, .inl (cI, 40, .inl v_cells))] [(a_this, .inr (3, [.int v_lane, .int v_size, .ref a_cells])), (a_cells, .inl (cI, 40, .inl res))] :=
  MV_of (by decide) (Nat.le_of_ble_eq_true rfl) (fun p e s m args below meth c A ls C hr hlk hK hA hP hD hS hl => by
    have C : CX p m c cX3_put 3 s args RX3 := C
    have hl : lv_has ls 3 [(0, .ref a_this), (1, .int x1), (2, .int x2)] := hl
    unfold F_X3_put at hF
    refine lv_aload_n C.1 C.2.1 dX3_put_0 rfl (lv_at hl 0 rfl) ?_
    refine gf_3_3_lane C hK hP 0 rfl rfl dX3_put_1 ?_
    by_cases c1 : v_lane = (0 : Int32)
    · have hF := fp hF c1
      refine lv_lookup (tgt := 32) C.1 C.2.1 dX3_put_4 (by decide) (by rw [c1] <;> rfl) (by decide) ?_
      refine lv_aload_n C.1 C.2.1 dX3_put_32 rfl (lv_at hl 0 rfl) ?_
      refine gf_3_3_cells C hK hP 0 rfl rfl dX3_put_33 ?_
      refine lv_iload_n C.1 C.2.1 dX3_put_36 rfl (lv_at hl 1 rfl) ?_
      refine lv_iload_n C.1 C.2.1 dX3_put_37 rfl (lv_at hl 2 rfl) ?_
      refine lv_i2b (v := x2.toInt8.toInt32) C.1 C.2.1 dX3_put_38 rfl ?_
      obtain ⟨h2, hF⟩ := fk hF
      refine va_iast C.1 C.2.1 hK.1 hP hD hS 1 0 rfl rfl h2 dX3_put_39 (fun H locs hP hD hS => ?_)
      have hP : va_P D vwCl [(a_this, .inr (3, [.int v_lane, .int v_size, .ref a_cells])), (a_cells, .inl (cI, 40, .inl (upd v_cells x1.toNatClampNeg x2.toInt8.toInt32)))] H := hP
      have hD : va_D A [(a_this, .inr (3, [.int v_lane, .int v_size, .ref a_cells])), (a_cells, .inl (cI, 40, .inl (upd v_cells x1.toNatClampNeg x2.toInt8.toInt32)))] := hD
      refine lv_goto (tgt := 61) C.1 C.2.1 dX3_put_40 (by decide) ?_
      have hF := Option.some.inj hF
      subst hF
      exact retV C hr hlk hP hD hS dX3_put_61
    · have hF := fn hF c1
      by_cases c3 : v_lane = (1 : Int32)
      · have hF := fp hF c3
        refine lv_lookup (tgt := 43) C.1 C.2.1 dX3_put_4 (by decide) (by rw [c3] <;> rfl) (by decide) ?_
        refine lv_aload_n C.1 C.2.1 dX3_put_43 rfl (lv_at hl 0 rfl) ?_
        refine gf_3_3_cells C hK hP 0 rfl rfl dX3_put_44 ?_
        refine lv_iload_n C.1 C.2.1 dX3_put_47 rfl (lv_at hl 1 rfl) ?_
        refine lv_iload_n C.1 C.2.1 dX3_put_48 rfl (lv_at hl 2 rfl) ?_
        refine lv_i2s (v := x2.toInt16.toInt32) C.1 C.2.1 dX3_put_49 rfl ?_
        obtain ⟨h4, hF⟩ := fk hF
        refine va_iast C.1 C.2.1 hK.1 hP hD hS 1 0 rfl rfl h4 dX3_put_50 (fun H locs hP hD hS => ?_)
        have hP : va_P D vwCl [(a_this, .inr (3, [.int v_lane, .int v_size, .ref a_cells])), (a_cells, .inl (cI, 40, .inl (upd v_cells x1.toNatClampNeg x2.toInt16.toInt32)))] H := hP
        have hD : va_D A [(a_this, .inr (3, [.int v_lane, .int v_size, .ref a_cells])), (a_cells, .inl (cI, 40, .inl (upd v_cells x1.toNatClampNeg x2.toInt16.toInt32)))] := hD
        refine lv_goto (tgt := 61) C.1 C.2.1 dX3_put_51 (by decide) ?_
        have hF := Option.some.inj hF
        subst hF
        exact retV C hr hlk hP hD hS dX3_put_61
      · have hF := fn hF c3
        refine lv_lookup (off := 50) (tgt := 54) C.1 C.2.1 dX3_put_4 (by decide) ((lv_osw (k := 0) c1 (by decide)).trans ((lv_osw (k := 1) c3 (by decide)).trans rfl)) (by decide) ?_
        refine lv_aload_n C.1 C.2.1 dX3_put_54 rfl (lv_at hl 0 rfl) ?_
        refine gf_3_3_cells C hK hP 0 rfl rfl dX3_put_55 ?_
        refine lv_iload_n C.1 C.2.1 dX3_put_58 rfl (lv_at hl 1 rfl) ?_
        refine lv_iload_n C.1 C.2.1 dX3_put_59 rfl (lv_at hl 2 rfl) ?_
        obtain ⟨h5, hF⟩ := fk hF
        refine va_iast C.1 C.2.1 hK.1 hP hD hS 1 0 rfl rfl h5 dX3_put_60 (fun H locs hP hD hS => ?_)
        have hP : va_P D vwCl [(a_this, .inr (3, [.int v_lane, .int v_size, .ref a_cells])), (a_cells, .inl (cI, 40, .inl (upd v_cells x1.toNatClampNeg x2)))] H := hP
        have hD : va_D A [(a_this, .inr (3, [.int v_lane, .int v_size, .ref a_cells])), (a_cells, .inl (cI, 40, .inl (upd v_cells x1.toNatClampNeg x2)))] := hD
        have hF := Option.some.inj hF
        subst hF
        exact retV C hr hlk hP hD hS dX3_put_61)
def rm_X3_faultOfPair : Room := { frames := 1, cells := 0, slots := 0, locals := 21 }
theorem cv_X3_faultOfPair : CV yX3_faultOfPair cX3_faultOfPair 4 (some .int) rm_X3_faultOfPair RX3 2 := ⟨kw3_191, kw3_192, kw1_7, kw3_193, by decide +kernel, rfl, rfl⟩
set_option maxHeartbeats 4000000 in
set_option maxRecDepth 100000 in
theorem b_X3_faultOfPair_18 {l : Launch} {D : va_G} {cI cB cZ cR cM cS : ClassId} {a_this : Nat} {a_cells : Nat} {p : Program} {e : Env} {s : State} {m : MethodId} {args : Array Value} {below : List Frame} {meth : Method} {c : Code} {A : Nat → Prop} {res : Int32} (C : CX p m c cX3_faultOfPair 4 s args RX3) (hr : meth.sig.returnType = (some .int)) (hlk : meth.locks = false) (hK : KK D (TS cI cB cZ cR cM cS) s) (hA : ∀ q, s.heap.size ≤ q → A q) : ∀ (v_lane : Int32) (v_size : Int32) (x2 : Int32) (H : Heap) (locs : List Loc) (ls : Array Slot), F_X3_faultOfPair_18 v_lane v_size x2 = some res → va_P D vwCl [(a_this, .inr (3, [.int v_lane, .int v_size, .ref a_cells]))] H → va_D A [(a_this, .inr (3, [.int v_lane, .int v_size, .ref a_cells]))] → va_S A s.heap H locs → lv_has ls 4 [(0, .ref a_this), (2, .int x2)] → W p l e rm_X3_faultOfPair s m args below meth c H locs 0 0 (MQ below (va_Qi (fun x (_ : Unit) => x = res) (BW D A [(a_this, .inr (3, [.int v_lane, .int v_size, .ref a_cells]))]) A) args s 0 0 A) (F0 m 18 ls []) := by
  intro v_lane v_size x2 H locs ls hF  hP hD hS hl
  unfold F_X3_faultOfPair_18 at hF
  refine lv_aload_n C.1 C.2.1 dX3_faultOfPair_18 rfl (lv_at hl 0 rfl) ?_
  refine lv_iload_n C.1 C.2.1 dX3_faultOfPair_19 rfl (lv_at hl 1 rfl) ?_
  obtain ⟨r1, h2, hF⟩ := fb hF
  refine callVI C hK hA hP hD hS [0] (c_X3_faultAt (a_this := a_this) (a_cells := a_cells) (v_lane := v_lane) (v_size := v_size) h2) cv_X3_faultAt kw3_194 rfl (by decide) rfl rfl rfl ⟨Nat.le_of_ble_eq_true rfl, Nat.le_of_ble_eq_true rfl⟩ ⟨Nat.zero_le _, Nat.zero_le _⟩ hl.1 rfl (Nat.le_of_ble_eq_true rfl) dX3_faultOfPair_20 (fun H locs hP hD hS => ?_)
  have hP : va_P D vwCl [(a_this, .inr (3, [.int v_lane, .int v_size, .ref a_cells]))] H := hP
  have hD : va_D A [(a_this, .inr (3, [.int v_lane, .int v_size, .ref a_cells]))] := hD
  refine lv_istore_n (lv' := [(3, .int r1), (0, .ref a_this), (2, .int x2)]) C.1 C.2.1 dX3_faultOfPair_23 rfl hl (by decide) rfl (fun ls hl => ?_)
  refine lv_iload_n C.1 C.2.1 dX3_faultOfPair_24 rfl (lv_at hl 0 rfl) ?_
  refine lv_if_eq (tgt := 32) C.1 C.2.1 dX3_faultOfPair_25 (by decide) (fun c3 => ?_) (fun c3 => ?_)
  · have hF := fp hF c3
    refine lv_aload_n C.1 C.2.1 dX3_faultOfPair_32 rfl (lv_at hl 1 rfl) ?_
    refine lv_iload_n C.1 C.2.1 dX3_faultOfPair_33 rfl (lv_at hl 2 rfl) ?_
    refine lv_iconst (v := 1) C.1 C.2.1 dX3_faultOfPair_34 (by decide) ?_
    refine lv_iadd C.1 C.2.1 dX3_faultOfPair_35 ?_
    obtain ⟨r4, h5, hF⟩ := fb hF
    refine callVI C hK hA hP hD hS [0] (c_X3_faultAt (a_this := a_this) (a_cells := a_cells) (v_lane := v_lane) (v_size := v_size) h5) cv_X3_faultAt kw3_194 rfl (by decide) rfl rfl rfl ⟨Nat.le_of_ble_eq_true rfl, Nat.le_of_ble_eq_true rfl⟩ ⟨Nat.zero_le _, Nat.zero_le _⟩ hl.1 rfl (Nat.le_of_ble_eq_true rfl) dX3_faultOfPair_36 (fun H locs hP hD hS => ?_)
    have hP : va_P D vwCl [(a_this, .inr (3, [.int v_lane, .int v_size, .ref a_cells]))] H := hP
    have hD : va_D A [(a_this, .inr (3, [.int v_lane, .int v_size, .ref a_cells]))] := hD
    have hF := Option.some.inj hF
    subst hF
    exact retI C hr hlk hP hD hS dX3_faultOfPair_39
  · have hF := fn hF c3
    refine lv_iload_n C.1 C.2.1 dX3_faultOfPair_28 rfl (lv_at hl 0 rfl) ?_
    refine lv_goto (tgt := 39) C.1 C.2.1 dX3_faultOfPair_29 (by decide) ?_
    have hF := Option.some.inj hF
    subst hF
    exact retI C hr hlk hP hD hS dX3_faultOfPair_39
set_option maxHeartbeats 4000000 in
set_option maxRecDepth 100000 in
theorem c_X3_faultOfPair {l : Launch} {D : va_G} {cI cB cZ cR cM cS : ClassId} {a_this : Nat} {a_cells : Nat} {v_lane : Int32} {v_size : Int32} {x1 : Int32} {x2 : Int32} {res : Int32} (hF : F_X3_faultOfPair v_lane v_size x1 x2 = some res) : MI l yX3_faultOfPair cX3_faultOfPair 4 .int rm_X3_faultOfPair D (TS cI cB cZ cR cM cS) [.ref a_this, .int x1, .int x2] [(a_this, .inr (3, [.int v_lane, .int v_size, .ref a_cells]))] [(a_this, .inr (3, [.int v_lane, .int v_size, .ref a_cells]))] res :=
  MI_of (by decide) (Nat.le_of_ble_eq_true rfl) (fun p e s m args below meth c A ls C hr hlk hK hA hP hD hS hl => by
    have C : CX p m c cX3_faultOfPair 4 s args RX3 := C
    have hl : lv_has ls 4 [(0, .ref a_this), (1, .int x1), (2, .int x2)] := hl
    unfold F_X3_faultOfPair at hF
    refine lv_aload_n C.1 C.2.1 dX3_faultOfPair_0 rfl (lv_at hl 0 rfl) ?_
    refine gf_3_3_lane C hK hP 0 rfl rfl dX3_faultOfPair_1 ?_
    refine lv_iconst (v := (-1)) C.1 C.2.1 dX3_faultOfPair_4 (by decide) ?_
    refine lv_icmp_eq (tgt := 18) C.1 C.2.1 dX3_faultOfPair_5 (by decide) (fun c1 => ?_) (fun c1 => ?_)
    · have hF := fp hF c1
      exact b_X3_faultOfPair_18 C hr hlk hK hA v_lane v_size x2 _ _ _ hF hP hD hS (lv_sub hl [0, 2] rfl)
    · have hF := fn hF c1
      refine lv_aload_n C.1 C.2.1 dX3_faultOfPair_8 rfl (lv_at hl 0 rfl) ?_
      refine gf_3_3_lane C hK hP 0 rfl rfl dX3_faultOfPair_9 ?_
      refine lv_iload_n C.1 C.2.1 dX3_faultOfPair_12 rfl (lv_at hl 1 rfl) ?_
      refine lv_icmp_eq (tgt := 18) C.1 C.2.1 dX3_faultOfPair_13 (by decide) (fun c2 => ?_) (fun c2 => ?_)
      · have hF := fp hF c2
        exact b_X3_faultOfPair_18 C hr hlk hK hA v_lane v_size x2 _ _ _ hF hP hD hS (lv_sub hl [0, 2] rfl)
      · have hF := fn hF c2
        refine lv_iconst (v := 3) C.1 C.2.1 dX3_faultOfPair_16 (by decide) ?_
        have hF := Option.some.inj hF
        subst hF
        exact retI C hr hlk hP hD hS dX3_faultOfPair_17)
def rm_X0_allGrips : Room := { frames := 0, cells := 0, slots := 0, locals := 0 }
theorem cv_X0_allGrips : CV yX0_allGrips cX0_allGrips 3 (some .int) rm_X0_allGrips RX0 0 := ⟨kw3_204, kw3_205, kw1_3, kw3_206, by decide +kernel, rfl, rfl⟩
set_option maxHeartbeats 4000000 in
set_option maxRecDepth 100000 in
theorem b_X0_allGrips_4 {l : Launch} {D : va_G} {cI cB cZ cR cM cS : ClassId} {a_this : Nat} {a_signs : Nat} {a_rotors : Nat} {a_rotors_e : Nat → Nat} {v_field : Int32} {v_tick : Int32} {v_pace : Int32} {v_signNumber : Int32} {p : Program} {e : Env} {s : State} {m : MethodId} {args : Array Value} {below : List Frame} {meth : Method} {c : Code} {A : Nat → Prop} {res : Int32} (C : CX p m c cX0_allGrips 3 s args RX0) (hr : meth.sig.returnType = (some .int)) (hlk : meth.locks = false) (hK : KK D (TS cI cB cZ cR cM cS) s) (hA : ∀ q, s.heap.size ≤ q → A q) : ∀ (fu : Nat) (v_rotorNumber : Int32) (v_rotorsF : Nat → Rot) (x1 : Int32) (x2 : Int32) (H : Heap) (locs : List Loc) (ls : Array Slot), F_X0_allGrips_4 fu v_rotorNumber v_rotorsF x1 x2 = some res → va_P D vwCl [(a_this, .inr (0, [.int v_field, .int v_tick, .int v_pace, .int v_signNumber, .int v_rotorNumber, .ref a_signs, .ref a_rotors])), (a_rotors, rfn cR 4 a_rotors_e), rcell a_rotors_e v_rotorsF 0, rcell a_rotors_e v_rotorsF 1, rcell a_rotors_e v_rotorsF 2, rcell a_rotors_e v_rotorsF 3] H → va_D A [(a_this, .inr (0, [.int v_field, .int v_tick, .int v_pace, .int v_signNumber, .int v_rotorNumber, .ref a_signs, .ref a_rotors])), (a_rotors, rfn cR 4 a_rotors_e), rcell a_rotors_e v_rotorsF 0, rcell a_rotors_e v_rotorsF 1, rcell a_rotors_e v_rotorsF 2, rcell a_rotors_e v_rotorsF 3] → va_S A s.heap H locs → lv_has ls 3 [(0, .ref a_this), (1, .int x1), (2, .int x2)] → W p l e rm_X0_allGrips s m args below meth c H locs 0 0 (MQ below (va_Qi (fun x (_ : Unit) => x = res) (BW D A [(a_this, .inr (0, [.int v_field, .int v_tick, .int v_pace, .int v_signNumber, .int v_rotorNumber, .ref a_signs, .ref a_rotors])), (a_rotors, rfn cR 4 a_rotors_e), rcell a_rotors_e v_rotorsF 0, rcell a_rotors_e v_rotorsF 1, rcell a_rotors_e v_rotorsF 2, rcell a_rotors_e v_rotorsF 3]) A) args s 0 0 A) (F0 m 4 ls []) := by
  intro fu
  induction fu with
  | zero => intro v_rotorNumber v_rotorsF x1 x2 H locs ls hF; cases hF
  | succ fu ih =>
    intro v_rotorNumber v_rotorsF x1 x2 H locs ls hF  hP hD hS hl
    unfold F_X0_allGrips_4 at hF
    refine lv_iload_n C.1 C.2.1 dX0_allGrips_4 rfl (lv_at hl 2 rfl) ?_
    refine lv_aload_n C.1 C.2.1 dX0_allGrips_5 rfl (lv_at hl 0 rfl) ?_
    refine gf_0_0_rotorNumber C hK hP 0 rfl rfl dX0_allGrips_6 ?_
    refine lv_icmp_ge (tgt := 30) C.1 C.2.1 dX0_allGrips_9 (by decide) (fun c1 => ?_) (fun c1 => ?_)
    · have hF := fp hF c1
      refine lv_iload_n C.1 C.2.1 dX0_allGrips_30 rfl (lv_at hl 1 rfl) ?_
      have hF := Option.some.inj hF
      subst hF
      exact retI C hr hlk hP hD hS dX0_allGrips_31
    · have hF := fn hF c1
      refine lv_iload_n C.1 C.2.1 dX0_allGrips_12 rfl (lv_at hl 1 rfl) ?_
      refine lv_aload_n C.1 C.2.1 dX0_allGrips_13 rfl (lv_at hl 0 rfl) ?_
      refine gf_0_0_rotors C hK hP 0 rfl rfl dX0_allGrips_14 ?_
      refine lv_iload_n C.1 C.2.1 dX0_allGrips_17 rfl (lv_at hl 2 rfl) ?_
      obtain ⟨h2, hF⟩ := fk hF
      refine aldR C hK hP 1 3 rfl rfl h2 dX0_allGrips_18 ?_
      have hk3 : x2.toNatClampNeg < 4 := Nat.not_le.mp (fun q => h2 (Or.inr q))
      refine gf_0_2_grip C hK hP (2 + x2.toNatClampNeg) (famget 2 (rcell a_rotors_e v_rotorsF) rfl rfl rfl rfl hk3) rfl dX0_allGrips_19 ?_
      refine lv_iadd C.1 C.2.1 dX0_allGrips_22 ?_
      refine lv_istore_n (lv' := [(1, .int (x1 + ((v_rotorsF x2.toNatClampNeg).2.1))), (0, .ref a_this), (2, .int x2)]) C.1 C.2.1 dX0_allGrips_23 rfl hl (by decide) rfl (fun ls hl => ?_)
      refine lv_iinc (v := x2 + 1) (lv' := [(2, .int (x2 + 1)), (1, .int (x1 + ((v_rotorsF x2.toNatClampNeg).2.1))), (0, .ref a_this)]) C.1 C.2.1 dX0_allGrips_24 hl (k := 2) rfl rfl (by decide) rfl (fun ls hl => ?_)
      refine lv_goto (tgt := 4) C.1 C.2.1 dX0_allGrips_27 (by decide) ?_
      exact ih v_rotorNumber v_rotorsF (x1 + ((v_rotorsF x2.toNatClampNeg).2.1)) (x2 + 1) _ _ _ hF hP hD hS (lv_sub hl [2, 1, 0] rfl)
set_option maxHeartbeats 4000000 in
set_option maxRecDepth 100000 in
theorem c_X0_allGrips {l : Launch} {D : va_G} {cI cB cZ cR cM cS : ClassId} {a_this : Nat} {a_signs : Nat} {a_rotors : Nat} {a_rotors_e : Nat → Nat} {v_field : Int32} {v_tick : Int32} {v_pace : Int32} {v_signNumber : Int32} {v_rotorNumber : Int32} {v_rotorsF : Nat → Rot} {res : Int32} (hF : F_X0_allGrips v_rotorNumber v_rotorsF = some res) : MI l yX0_allGrips cX0_allGrips 3 .int rm_X0_allGrips D (TS cI cB cZ cR cM cS) [.ref a_this] [(a_this, .inr (0, [.int v_field, .int v_tick, .int v_pace, .int v_signNumber, .int v_rotorNumber, .ref a_signs, .ref a_rotors])), (a_rotors, rfn cR 4 a_rotors_e), rcell a_rotors_e v_rotorsF 0, rcell a_rotors_e v_rotorsF 1, rcell a_rotors_e v_rotorsF 2, rcell a_rotors_e v_rotorsF 3] [(a_this, .inr (0, [.int v_field, .int v_tick, .int v_pace, .int v_signNumber, .int v_rotorNumber, .ref a_signs, .ref a_rotors])), (a_rotors, rfn cR 4 a_rotors_e), rcell a_rotors_e v_rotorsF 0, rcell a_rotors_e v_rotorsF 1, rcell a_rotors_e v_rotorsF 2, rcell a_rotors_e v_rotorsF 3] res :=
  MI_of (by decide) (Nat.le_of_ble_eq_true rfl) (fun p e s m args below meth c A ls C hr hlk hK hA hP hD hS hl => by
    have C : CX p m c cX0_allGrips 3 s args RX0 := C
    have hl : lv_has ls 3 [(0, .ref a_this)] := hl
    unfold F_X0_allGrips at hF
    refine lv_iconst (v := 0) C.1 C.2.1 dX0_allGrips_0 (by decide) ?_
    refine lv_istore_n (lv' := [(1, .int (0 : Int32)), (0, .ref a_this)]) C.1 C.2.1 dX0_allGrips_1 rfl hl (by decide) rfl (fun ls hl => ?_)
    refine lv_iconst (v := 0) C.1 C.2.1 dX0_allGrips_2 (by decide) ?_
    refine lv_istore_n (lv' := [(2, .int (0 : Int32)), (1, .int (0 : Int32)), (0, .ref a_this)]) C.1 C.2.1 dX0_allGrips_3 rfl hl (by decide) rfl (fun ls hl => ?_)
    exact b_X0_allGrips_4 C hr hlk hK hA FU v_rotorNumber v_rotorsF (0 : Int32) (0 : Int32) _ _ _ hF hP hD hS (lv_sub hl [2, 1, 0] rfl))
def rm_X0_allSigns : Room := { frames := 0, cells := 0, slots := 0, locals := 0 }
theorem cv_X0_allSigns : CV yX0_allSigns cX0_allSigns 3 (some .int) rm_X0_allSigns RX0 0 := ⟨kw3_208, kw3_209, kw1_3, kw3_210, by decide +kernel, rfl, rfl⟩
set_option maxHeartbeats 4000000 in
set_option maxRecDepth 100000 in
theorem b_X0_allSigns_4 {l : Launch} {D : va_G} {cI cB cZ cR cM cS : ClassId} {a_this : Nat} {a_signs : Nat} {a_rotors : Nat} {v_field : Int32} {v_tick : Int32} {v_pace : Int32} {v_rotorNumber : Int32} {p : Program} {e : Env} {s : State} {m : MethodId} {args : Array Value} {below : List Frame} {meth : Method} {c : Code} {A : Nat → Prop} {res : Int32} (C : CX p m c cX0_allSigns 3 s args RX0) (hr : meth.sig.returnType = (some .int)) (hlk : meth.locks = false) (hK : KK D (TS cI cB cZ cR cM cS) s) (hA : ∀ q, s.heap.size ≤ q → A q) : ∀ (fu : Nat) (v_signNumber : Int32) (v_signs : Nat → Int32) (x1 : Int32) (x2 : Int32) (H : Heap) (locs : List Loc) (ls : Array Slot), F_X0_allSigns_4 fu v_signNumber v_signs x1 x2 = some res → va_P D vwCl [(a_this, .inr (0, [.int v_field, .int v_tick, .int v_pace, .int v_signNumber, .int v_rotorNumber, .ref a_signs, .ref a_rotors])), (a_signs, .inl (cI, 16, .inl v_signs))] H → va_D A [(a_this, .inr (0, [.int v_field, .int v_tick, .int v_pace, .int v_signNumber, .int v_rotorNumber, .ref a_signs, .ref a_rotors])), (a_signs, .inl (cI, 16, .inl v_signs))] → va_S A s.heap H locs → lv_has ls 3 [(0, .ref a_this), (1, .int x1), (2, .int x2)] → W p l e rm_X0_allSigns s m args below meth c H locs 0 0 (MQ below (va_Qi (fun x (_ : Unit) => x = res) (BW D A [(a_this, .inr (0, [.int v_field, .int v_tick, .int v_pace, .int v_signNumber, .int v_rotorNumber, .ref a_signs, .ref a_rotors])), (a_signs, .inl (cI, 16, .inl v_signs))]) A) args s 0 0 A) (F0 m 4 ls []) := by
  intro fu
  induction fu with
  | zero => intro v_signNumber v_signs x1 x2 H locs ls hF; cases hF
  | succ fu ih =>
    intro v_signNumber v_signs x1 x2 H locs ls hF  hP hD hS hl
    unfold F_X0_allSigns_4 at hF
    refine lv_iload_n C.1 C.2.1 dX0_allSigns_4 rfl (lv_at hl 2 rfl) ?_
    refine lv_aload_n C.1 C.2.1 dX0_allSigns_5 rfl (lv_at hl 0 rfl) ?_
    refine gf_0_0_signNumber C hK hP 0 rfl rfl dX0_allSigns_6 ?_
    refine lv_icmp_ge (tgt := 27) C.1 C.2.1 dX0_allSigns_9 (by decide) (fun c1 => ?_) (fun c1 => ?_)
    · have hF := fp hF c1
      refine lv_iload_n C.1 C.2.1 dX0_allSigns_27 rfl (lv_at hl 1 rfl) ?_
      have hF := Option.some.inj hF
      subst hF
      exact retI C hr hlk hP hD hS dX0_allSigns_28
    · have hF := fn hF c1
      refine lv_iload_n C.1 C.2.1 dX0_allSigns_12 rfl (lv_at hl 1 rfl) ?_
      refine lv_aload_n C.1 C.2.1 dX0_allSigns_13 rfl (lv_at hl 0 rfl) ?_
      refine gf_0_0_signs C hK hP 0 rfl rfl dX0_allSigns_14 ?_
      refine lv_iload_n C.1 C.2.1 dX0_allSigns_17 rfl (lv_at hl 2 rfl) ?_
      obtain ⟨h2, hF⟩ := fk hF
      refine va_iald C.1 C.2.1 hK.1 hP 1 0 rfl rfl h2 dX0_allSigns_18 ?_
      refine lv_iadd C.1 C.2.1 dX0_allSigns_19 ?_
      refine lv_istore_n (lv' := [(1, .int (x1 + (v_signs x2.toNatClampNeg))), (0, .ref a_this), (2, .int x2)]) C.1 C.2.1 dX0_allSigns_20 rfl hl (by decide) rfl (fun ls hl => ?_)
      refine lv_iinc (v := x2 + 1) (lv' := [(2, .int (x2 + 1)), (1, .int (x1 + (v_signs x2.toNatClampNeg))), (0, .ref a_this)]) C.1 C.2.1 dX0_allSigns_21 hl (k := 2) rfl rfl (by decide) rfl (fun ls hl => ?_)
      refine lv_goto (tgt := 4) C.1 C.2.1 dX0_allSigns_24 (by decide) ?_
      exact ih v_signNumber v_signs (x1 + (v_signs x2.toNatClampNeg)) (x2 + 1) _ _ _ hF hP hD hS (lv_sub hl [2, 1, 0] rfl)
set_option maxHeartbeats 4000000 in
set_option maxRecDepth 100000 in
theorem c_X0_allSigns {l : Launch} {D : va_G} {cI cB cZ cR cM cS : ClassId} {a_this : Nat} {a_signs : Nat} {a_rotors : Nat} {v_field : Int32} {v_tick : Int32} {v_pace : Int32} {v_signNumber : Int32} {v_rotorNumber : Int32} {v_signs : Nat → Int32} {res : Int32} (hF : F_X0_allSigns v_signNumber v_signs = some res) : MI l yX0_allSigns cX0_allSigns 3 .int rm_X0_allSigns D (TS cI cB cZ cR cM cS) [.ref a_this] [(a_this, .inr (0, [.int v_field, .int v_tick, .int v_pace, .int v_signNumber, .int v_rotorNumber, .ref a_signs, .ref a_rotors])), (a_signs, .inl (cI, 16, .inl v_signs))] [(a_this, .inr (0, [.int v_field, .int v_tick, .int v_pace, .int v_signNumber, .int v_rotorNumber, .ref a_signs, .ref a_rotors])), (a_signs, .inl (cI, 16, .inl v_signs))] res :=
  MI_of (by decide) (Nat.le_of_ble_eq_true rfl) (fun p e s m args below meth c A ls C hr hlk hK hA hP hD hS hl => by
    have C : CX p m c cX0_allSigns 3 s args RX0 := C
    have hl : lv_has ls 3 [(0, .ref a_this)] := hl
    unfold F_X0_allSigns at hF
    refine lv_iconst (v := 0) C.1 C.2.1 dX0_allSigns_0 (by decide) ?_
    refine lv_istore_n (lv' := [(1, .int (0 : Int32)), (0, .ref a_this)]) C.1 C.2.1 dX0_allSigns_1 rfl hl (by decide) rfl (fun ls hl => ?_)
    refine lv_iconst (v := 0) C.1 C.2.1 dX0_allSigns_2 (by decide) ?_
    refine lv_istore_n (lv' := [(2, .int (0 : Int32)), (1, .int (0 : Int32)), (0, .ref a_this)]) C.1 C.2.1 dX0_allSigns_3 rfl hl (by decide) rfl (fun ls hl => ?_)
    exact b_X0_allSigns_4 C hr hlk hK hA FU v_signNumber v_signs (0 : Int32) (0 : Int32) _ _ _ hF hP hD hS (lv_sub hl [2, 1, 0] rfl))
