def rm_X6_ease : Room := { frames := 5, cells := 0, slots := 0, locals := 114 }
theorem cv_X6_ease : CV yX6_ease cX6_ease 7 (some .int) rm_X6_ease RX6 2 := ⟨kw3_55, kw3_56, kw1_1, kw3_57, by decide +kernel, rfl, rfl⟩
set_option maxHeartbeats 4000000 in
set_option maxRecDepth 100000 in
theorem b_X6_ease_115 {l : Launch} {D : va_G} {cI cB cZ cR cM cS : ClassId} {a_this : Nat} {a_tape : Nat} {a_now : Nat} {a_trial : Nat} {a_sights : Nat} {a_images : Nat} {a_sheets : Nat} {a_now_signs : Nat} {a_now_rotors : Nat} {a_now_rotors_e : Nat → Nat} {a_trial_signs : Nat} {a_trial_rotors : Nat} {a_trial_rotors_e : Nat → Nat} {v_readFault : Int32} {p : Program} {e : Env} {s : State} {m : MethodId} {args : Array Value} {below : List Frame} {meth : Method} {c : Code} {A : Nat → Prop} {res : Int32 × Int32 × Int32 × Int32 × Int32 × Int32 × (Nat → Int32) × (Nat → Rot)} (C : CX p m c cX6_ease 7 s args RX6) (hr : meth.sig.returnType = (some .int)) (hlk : meth.locks = false) (hK : KK D (TS cI cB cZ cR cM cS) s) (hA : ∀ q, s.heap.size ≤ q → A q) : ∀ (v_now_field : Int32) (v_now_tick : Int32) (v_now_pace : Int32) (v_now_signNumber : Int32) (v_now_rotorNumber : Int32) (v_now_signs : Nat → Int32) (v_now_rotorsF : Nat → Rot) (v_trial_field : Int32) (v_trial_tick : Int32) (v_trial_pace : Int32) (v_trial_signNumber : Int32) (v_trial_rotorNumber : Int32) (v_trial_signs : Nat → Int32) (v_trial_rotorsF : Nat → Rot) (x4 : Int32) (H : Heap) (locs : List Loc) (ls : Array Slot), F_X6_ease_115 v_now_field v_now_tick v_now_pace v_now_signNumber v_now_rotorNumber v_now_signs v_now_rotorsF v_trial_field v_trial_tick v_trial_pace v_trial_signNumber v_trial_rotorNumber v_trial_signs v_trial_rotorsF x4 = some res → va_P D vwCl [(a_this, .inr (6, [.ref a_tape, .ref a_now, .ref a_trial, .ref a_sights, .ref a_images, .ref a_sheets, .int v_readFault])), (a_now, .inr (0, [.int v_now_field, .int v_now_tick, .int v_now_pace, .int v_now_signNumber, .int v_now_rotorNumber, .ref a_now_signs, .ref a_now_rotors])), (a_now_signs, .inl (cI, 16, .inl v_now_signs)), (a_now_rotors, rfn cR 4 a_now_rotors_e), rcell a_now_rotors_e v_now_rotorsF 0, rcell a_now_rotors_e v_now_rotorsF 1, rcell a_now_rotors_e v_now_rotorsF 2, rcell a_now_rotors_e v_now_rotorsF 3, (a_trial, .inr (0, [.int v_trial_field, .int v_trial_tick, .int v_trial_pace, .int v_trial_signNumber, .int v_trial_rotorNumber, .ref a_trial_signs, .ref a_trial_rotors])), (a_trial_signs, .inl (cI, 16, .inl v_trial_signs)), (a_trial_rotors, rfn cR 4 a_trial_rotors_e), rcell a_trial_rotors_e v_trial_rotorsF 0, rcell a_trial_rotors_e v_trial_rotorsF 1, rcell a_trial_rotors_e v_trial_rotorsF 2, rcell a_trial_rotors_e v_trial_rotorsF 3] H → va_D A [(a_this, .inr (6, [.ref a_tape, .ref a_now, .ref a_trial, .ref a_sights, .ref a_images, .ref a_sheets, .int v_readFault])), (a_now, .inr (0, [.int v_now_field, .int v_now_tick, .int v_now_pace, .int v_now_signNumber, .int v_now_rotorNumber, .ref a_now_signs, .ref a_now_rotors])), (a_now_signs, .inl (cI, 16, .inl v_now_signs)), (a_now_rotors, rfn cR 4 a_now_rotors_e), rcell a_now_rotors_e v_now_rotorsF 0, rcell a_now_rotors_e v_now_rotorsF 1, rcell a_now_rotors_e v_now_rotorsF 2, rcell a_now_rotors_e v_now_rotorsF 3, (a_trial, .inr (0, [.int v_trial_field, .int v_trial_tick, .int v_trial_pace, .int v_trial_signNumber, .int v_trial_rotorNumber, .ref a_trial_signs, .ref a_trial_rotors])), (a_trial_signs, .inl (cI, 16, .inl v_trial_signs)), (a_trial_rotors, rfn cR 4 a_trial_rotors_e), rcell a_trial_rotors_e v_trial_rotorsF 0, rcell a_trial_rotors_e v_trial_rotorsF 1, rcell a_trial_rotors_e v_trial_rotorsF 2, rcell a_trial_rotors_e v_trial_rotorsF 3] → va_S A s.heap H locs → lv_has ls 7 [(4, .int x4)] → W p l e rm_X6_ease s m args below meth c H locs 0 0 (MQ below (va_Qi (fun x (_ : Unit) => x = res.1) (BW D A [(a_this, .inr (6, [.ref a_tape, .ref a_now, .ref a_trial, .ref a_sights, .ref a_images, .ref a_sheets, .int v_readFault])), (a_now, .inr (0, [.int v_now_field, .int v_now_tick, .int v_now_pace, .int v_now_signNumber, .int v_now_rotorNumber, .ref a_now_signs, .ref a_now_rotors])), (a_now_signs, .inl (cI, 16, .inl v_now_signs)), (a_now_rotors, rfn cR 4 a_now_rotors_e), rcell a_now_rotors_e v_now_rotorsF 0, rcell a_now_rotors_e v_now_rotorsF 1, rcell a_now_rotors_e v_now_rotorsF 2, rcell a_now_rotors_e v_now_rotorsF 3, (a_trial, .inr (0, [.int res.2.1, .int res.2.2.1, .int res.2.2.2.1, .int res.2.2.2.2.1, .int res.2.2.2.2.2.1, .ref a_trial_signs, .ref a_trial_rotors])), (a_trial_signs, .inl (cI, 16, .inl res.2.2.2.2.2.2.1)), (a_trial_rotors, rfn cR 4 a_trial_rotors_e), rcell a_trial_rotors_e res.2.2.2.2.2.2.2 0, rcell a_trial_rotors_e res.2.2.2.2.2.2.2 1, rcell a_trial_rotors_e res.2.2.2.2.2.2.2 2, rcell a_trial_rotors_e res.2.2.2.2.2.2.2 3]) A) args s 0 0 A) (F0 m 115 ls []) := by
  intro v_now_field v_now_tick v_now_pace v_now_signNumber v_now_rotorNumber v_now_signs v_now_rotorsF v_trial_field v_trial_tick v_trial_pace v_trial_signNumber v_trial_rotorNumber v_trial_signs v_trial_rotorsF x4 H locs ls hF  hP hD hS hl
  unfold F_X6_ease_115 at hF
  refine lv_iload C.1 C.2.1 dX6_ease_115 (lv_at hl 0 rfl) ?_
  refine lv_goto (tgt := 121) C.1 C.2.1 dX6_ease_117 (by decide) ?_
  have hF := Option.some.inj hF
  subst hF
  exact retI C hr hlk hP hD hS dX6_ease_121
set_option maxHeartbeats 4000000 in
set_option maxRecDepth 100000 in
theorem b_X6_ease_44 {l : Launch} {D : va_G} {cI cB cZ cR cM cS : ClassId} {a_this : Nat} {a_tape : Nat} {a_now : Nat} {a_trial : Nat} {a_sights : Nat} {a_images : Nat} {a_sheets : Nat} {a_now_signs : Nat} {a_now_rotors : Nat} {a_now_rotors_e : Nat → Nat} {a_trial_signs : Nat} {a_trial_rotors : Nat} {a_trial_rotors_e : Nat → Nat} {v_readFault : Int32} {p : Program} {e : Env} {s : State} {m : MethodId} {args : Array Value} {below : List Frame} {meth : Method} {c : Code} {A : Nat → Prop} {res : Int32 × Int32 × Int32 × Int32 × Int32 × Int32 × (Nat → Int32) × (Nat → Rot)} (C : CX p m c cX6_ease 7 s args RX6) (hr : meth.sig.returnType = (some .int)) (hlk : meth.locks = false) (hK : KK D (TS cI cB cZ cR cM cS) s) (hA : ∀ q, s.heap.size ≤ q → A q) : ∀ (fu : Nat) (v_now_field : Int32) (v_now_tick : Int32) (v_now_pace : Int32) (v_now_signNumber : Int32) (v_now_rotorNumber : Int32) (v_now_signs : Nat → Int32) (v_now_rotorsF : Nat → Rot) (v_trial_field : Int32) (v_trial_tick : Int32) (v_trial_pace : Int32) (v_trial_signNumber : Int32) (v_trial_rotorNumber : Int32) (v_trial_signs : Nat → Int32) (v_trial_rotorsF : Nat → Rot) (x1 : Int32) (x2 : Int32) (x3 : Int32) (x4 : Int32) (x5 : Int32) (H : Heap) (locs : List Loc) (ls : Array Slot), F_X6_ease_44 fu v_now_field v_now_tick v_now_pace v_now_signNumber v_now_rotorNumber v_now_signs v_now_rotorsF v_trial_field v_trial_tick v_trial_pace v_trial_signNumber v_trial_rotorNumber v_trial_signs v_trial_rotorsF x1 x2 x3 x4 x5 = some res → va_P D vwCl [(a_this, .inr (6, [.ref a_tape, .ref a_now, .ref a_trial, .ref a_sights, .ref a_images, .ref a_sheets, .int v_readFault])), (a_now, .inr (0, [.int v_now_field, .int v_now_tick, .int v_now_pace, .int v_now_signNumber, .int v_now_rotorNumber, .ref a_now_signs, .ref a_now_rotors])), (a_now_signs, .inl (cI, 16, .inl v_now_signs)), (a_now_rotors, rfn cR 4 a_now_rotors_e), rcell a_now_rotors_e v_now_rotorsF 0, rcell a_now_rotors_e v_now_rotorsF 1, rcell a_now_rotors_e v_now_rotorsF 2, rcell a_now_rotors_e v_now_rotorsF 3, (a_trial, .inr (0, [.int v_trial_field, .int v_trial_tick, .int v_trial_pace, .int v_trial_signNumber, .int v_trial_rotorNumber, .ref a_trial_signs, .ref a_trial_rotors])), (a_trial_signs, .inl (cI, 16, .inl v_trial_signs)), (a_trial_rotors, rfn cR 4 a_trial_rotors_e), rcell a_trial_rotors_e v_trial_rotorsF 0, rcell a_trial_rotors_e v_trial_rotorsF 1, rcell a_trial_rotors_e v_trial_rotorsF 2, rcell a_trial_rotors_e v_trial_rotorsF 3] H → va_D A [(a_this, .inr (6, [.ref a_tape, .ref a_now, .ref a_trial, .ref a_sights, .ref a_images, .ref a_sheets, .int v_readFault])), (a_now, .inr (0, [.int v_now_field, .int v_now_tick, .int v_now_pace, .int v_now_signNumber, .int v_now_rotorNumber, .ref a_now_signs, .ref a_now_rotors])), (a_now_signs, .inl (cI, 16, .inl v_now_signs)), (a_now_rotors, rfn cR 4 a_now_rotors_e), rcell a_now_rotors_e v_now_rotorsF 0, rcell a_now_rotors_e v_now_rotorsF 1, rcell a_now_rotors_e v_now_rotorsF 2, rcell a_now_rotors_e v_now_rotorsF 3, (a_trial, .inr (0, [.int v_trial_field, .int v_trial_tick, .int v_trial_pace, .int v_trial_signNumber, .int v_trial_rotorNumber, .ref a_trial_signs, .ref a_trial_rotors])), (a_trial_signs, .inl (cI, 16, .inl v_trial_signs)), (a_trial_rotors, rfn cR 4 a_trial_rotors_e), rcell a_trial_rotors_e v_trial_rotorsF 0, rcell a_trial_rotors_e v_trial_rotorsF 1, rcell a_trial_rotors_e v_trial_rotorsF 2, rcell a_trial_rotors_e v_trial_rotorsF 3] → va_S A s.heap H locs → lv_has ls 7 [(0, .ref a_this), (1, .int x1), (2, .int x2), (3, .int x3), (4, .int x4), (5, .int x5)] → W p l e rm_X6_ease s m args below meth c H locs 0 0 (MQ below (va_Qi (fun x (_ : Unit) => x = res.1) (BW D A [(a_this, .inr (6, [.ref a_tape, .ref a_now, .ref a_trial, .ref a_sights, .ref a_images, .ref a_sheets, .int v_readFault])), (a_now, .inr (0, [.int v_now_field, .int v_now_tick, .int v_now_pace, .int v_now_signNumber, .int v_now_rotorNumber, .ref a_now_signs, .ref a_now_rotors])), (a_now_signs, .inl (cI, 16, .inl v_now_signs)), (a_now_rotors, rfn cR 4 a_now_rotors_e), rcell a_now_rotors_e v_now_rotorsF 0, rcell a_now_rotors_e v_now_rotorsF 1, rcell a_now_rotors_e v_now_rotorsF 2, rcell a_now_rotors_e v_now_rotorsF 3, (a_trial, .inr (0, [.int res.2.1, .int res.2.2.1, .int res.2.2.2.1, .int res.2.2.2.2.1, .int res.2.2.2.2.2.1, .ref a_trial_signs, .ref a_trial_rotors])), (a_trial_signs, .inl (cI, 16, .inl res.2.2.2.2.2.2.1)), (a_trial_rotors, rfn cR 4 a_trial_rotors_e), rcell a_trial_rotors_e res.2.2.2.2.2.2.2 0, rcell a_trial_rotors_e res.2.2.2.2.2.2.2 1, rcell a_trial_rotors_e res.2.2.2.2.2.2.2 2, rcell a_trial_rotors_e res.2.2.2.2.2.2.2 3]) A) args s 0 0 A) (F0 m 44 ls []) := by
  intro fu
  induction fu with
  | zero => intro v_now_field v_now_tick v_now_pace v_now_signNumber v_now_rotorNumber v_now_signs v_now_rotorsF v_trial_field v_trial_tick v_trial_pace v_trial_signNumber v_trial_rotorNumber v_trial_signs v_trial_rotorsF x1 x2 x3 x4 x5 H locs ls hF; cases hF
  | succ fu ih =>
    intro v_now_field v_now_tick v_now_pace v_now_signNumber v_now_rotorNumber v_now_signs v_now_rotorsF v_trial_field v_trial_tick v_trial_pace v_trial_signNumber v_trial_rotorNumber v_trial_signs v_trial_rotorsF x1 x2 x3 x4 x5 H locs ls hF  hP hD hS hl
    unfold F_X6_ease_44 at hF
    refine lv_iload C.1 C.2.1 dX6_ease_44 (lv_at hl 5 rfl) ?_
    refine lv_aload_n C.1 C.2.1 dX6_ease_46 rfl (lv_at hl 0 rfl) ?_
    refine gf_6_6_now C hK hP 0 rfl rfl dX6_ease_47 ?_
    refine gf_6_0_signNumber C hK hP 1 rfl rfl dX6_ease_50 ?_
    refine lv_icmp_ge (tgt := 104) C.1 C.2.1 dX6_ease_53 (by decide) (fun c1 => ?_) (fun c1 => ?_)
    · have hF := fp hF c1
      refine lv_iload C.1 C.2.1 dX6_ease_104 (lv_at hl 4 rfl) ?_
      refine lv_bipush (v := (-4)) C.1 C.2.1 dX6_ease_106 (by decide) ?_
      refine lv_icmp_eq (tgt := 115) C.1 C.2.1 dX6_ease_108 (by decide) (fun c2 => ?_) (fun c2 => ?_)
      · have hF := fp hF c2
        exact b_X6_ease_115 C hr hlk hK hA v_now_field v_now_tick v_now_pace v_now_signNumber v_now_rotorNumber v_now_signs v_now_rotorsF v_trial_field v_trial_tick v_trial_pace v_trial_signNumber v_trial_rotorNumber v_trial_signs v_trial_rotorsF x4 _ _ _ hF hP hD hS (lv_sub hl [4] rfl)
      · have hF := fn hF c2
        refine lv_iload_n C.1 C.2.1 dX6_ease_111 rfl (lv_at hl 2 rfl) ?_
        refine lv_if_ne (tgt := 120) C.1 C.2.1 dX6_ease_112 (by decide) (fun c3 => ?_) (fun c3 => ?_)
        · have hF := fn hF c3
          refine lv_iload_n C.1 C.2.1 dX6_ease_120 rfl (lv_at hl 3 rfl) ?_
          have hF := Option.some.inj hF
          subst hF
          exact retI C hr hlk hP hD hS dX6_ease_121
        · have hF := fp hF c3
          exact b_X6_ease_115 C hr hlk hK hA v_now_field v_now_tick v_now_pace v_now_signNumber v_now_rotorNumber v_now_signs v_now_rotorsF v_trial_field v_trial_tick v_trial_pace v_trial_signNumber v_trial_rotorNumber v_trial_signs v_trial_rotorsF x4 _ _ _ hF hP hD hS (lv_sub hl [4] rfl)
    · have hF := fn hF c1
      refine lv_aload_n C.1 C.2.1 dX6_ease_56 rfl (lv_at hl 0 rfl) ?_
      refine gf_6_6_trial C hK hP 0 rfl rfl dX6_ease_57 ?_
      refine lv_aload_n C.1 C.2.1 dX6_ease_60 rfl (lv_at hl 0 rfl) ?_
      refine gf_6_6_now C hK hP 0 rfl rfl dX6_ease_61 ?_
      obtain ⟨⟨w4, w5, w6, w7, w8, w9, w10⟩, h11, hF⟩ := fb hF
      refine callVV C hK hA hP hD hS [8, 9, 10, 11, 12, 13, 14, 1, 2, 3, 4, 5, 6, 7] (c_X0_copyFrom (a_this := a_trial) (a_signs := a_trial_signs) (a_rotors := a_trial_rotors) (a_rotors_e := a_trial_rotors_e) (a_o1 := a_now) (a_o1_signs := a_now_signs) (a_o1_rotors := a_now_rotors) (a_o1_rotors_e := a_now_rotors_e) (v_field := v_trial_field) (v_tick := v_trial_tick) (v_pace := v_trial_pace) (v_signNumber := v_trial_signNumber) (v_rotorNumber := v_trial_rotorNumber) (v_signs := v_trial_signs) (v_rotorsF := v_trial_rotorsF) (v_o1_field := v_now_field) (v_o1_tick := v_now_tick) (v_o1_pace := v_now_pace) (v_o1_signNumber := v_now_signNumber) (v_o1_rotorNumber := v_now_rotorNumber) (v_o1_signs := v_now_signs) (v_o1_rotorsF := v_now_rotorsF) h11) cv_X0_copyFrom kw2_124 rfl (by decide) rfl rfl rfl ⟨Nat.le_of_ble_eq_true rfl, Nat.le_of_ble_eq_true rfl⟩ ⟨Nat.zero_le _, Nat.zero_le _⟩ hl.1 rfl (Nat.le_of_ble_eq_true rfl) dX6_ease_64 (fun H locs hP hD hS => ?_)
      have hP : va_P D vwCl [(a_this, .inr (6, [.ref a_tape, .ref a_now, .ref a_trial, .ref a_sights, .ref a_images, .ref a_sheets, .int v_readFault])), (a_now, .inr (0, [.int v_now_field, .int v_now_tick, .int v_now_pace, .int v_now_signNumber, .int v_now_rotorNumber, .ref a_now_signs, .ref a_now_rotors])), (a_now_signs, .inl (cI, 16, .inl v_now_signs)), (a_now_rotors, rfn cR 4 a_now_rotors_e), rcell a_now_rotors_e v_now_rotorsF 0, rcell a_now_rotors_e v_now_rotorsF 1, rcell a_now_rotors_e v_now_rotorsF 2, rcell a_now_rotors_e v_now_rotorsF 3, (a_trial, .inr (0, [.int w4, .int w5, .int w6, .int w7, .int w8, .ref a_trial_signs, .ref a_trial_rotors])), (a_trial_signs, .inl (cI, 16, .inl w9)), (a_trial_rotors, rfn cR 4 a_trial_rotors_e), rcell a_trial_rotors_e w10 0, rcell a_trial_rotors_e w10 1, rcell a_trial_rotors_e w10 2, rcell a_trial_rotors_e w10 3] H := hP
      have hD : va_D A [(a_this, .inr (6, [.ref a_tape, .ref a_now, .ref a_trial, .ref a_sights, .ref a_images, .ref a_sheets, .int v_readFault])), (a_now, .inr (0, [.int v_now_field, .int v_now_tick, .int v_now_pace, .int v_now_signNumber, .int v_now_rotorNumber, .ref a_now_signs, .ref a_now_rotors])), (a_now_signs, .inl (cI, 16, .inl v_now_signs)), (a_now_rotors, rfn cR 4 a_now_rotors_e), rcell a_now_rotors_e v_now_rotorsF 0, rcell a_now_rotors_e v_now_rotorsF 1, rcell a_now_rotors_e v_now_rotorsF 2, rcell a_now_rotors_e v_now_rotorsF 3, (a_trial, .inr (0, [.int w4, .int w5, .int w6, .int w7, .int w8, .ref a_trial_signs, .ref a_trial_rotors])), (a_trial_signs, .inl (cI, 16, .inl w9)), (a_trial_rotors, rfn cR 4 a_trial_rotors_e), rcell a_trial_rotors_e w10 0, rcell a_trial_rotors_e w10 1, rcell a_trial_rotors_e w10 2, rcell a_trial_rotors_e w10 3] := hD
      refine lv_aload_n C.1 C.2.1 dX6_ease_67 rfl (lv_at hl 0 rfl) ?_
      refine gf_6_6_trial C hK hP 0 rfl rfl dX6_ease_68 ?_
      refine gf_6_0_signs C hK hP 8 rfl rfl dX6_ease_71 ?_
      refine lv_iload C.1 C.2.1 dX6_ease_74 (lv_at hl 5 rfl) ?_
      refine lv_iconst (v := 0) C.1 C.2.1 dX6_ease_76 (by decide) ?_
      obtain ⟨h12, hF⟩ := fk hF
      refine va_iast C.1 C.2.1 hK.1 hP hD hS 9 0 rfl rfl h12 dX6_ease_77 (fun H locs hP hD hS => ?_)
      have hP : va_P D vwCl [(a_this, .inr (6, [.ref a_tape, .ref a_now, .ref a_trial, .ref a_sights, .ref a_images, .ref a_sheets, .int v_readFault])), (a_now, .inr (0, [.int v_now_field, .int v_now_tick, .int v_now_pace, .int v_now_signNumber, .int v_now_rotorNumber, .ref a_now_signs, .ref a_now_rotors])), (a_now_signs, .inl (cI, 16, .inl v_now_signs)), (a_now_rotors, rfn cR 4 a_now_rotors_e), rcell a_now_rotors_e v_now_rotorsF 0, rcell a_now_rotors_e v_now_rotorsF 1, rcell a_now_rotors_e v_now_rotorsF 2, rcell a_now_rotors_e v_now_rotorsF 3, (a_trial, .inr (0, [.int w4, .int w5, .int w6, .int w7, .int w8, .ref a_trial_signs, .ref a_trial_rotors])), (a_trial_signs, .inl (cI, 16, .inl (upd w9 x5.toNatClampNeg (0 : Int32)))), (a_trial_rotors, rfn cR 4 a_trial_rotors_e), rcell a_trial_rotors_e w10 0, rcell a_trial_rotors_e w10 1, rcell a_trial_rotors_e w10 2, rcell a_trial_rotors_e w10 3] H := hP
      have hD : va_D A [(a_this, .inr (6, [.ref a_tape, .ref a_now, .ref a_trial, .ref a_sights, .ref a_images, .ref a_sheets, .int v_readFault])), (a_now, .inr (0, [.int v_now_field, .int v_now_tick, .int v_now_pace, .int v_now_signNumber, .int v_now_rotorNumber, .ref a_now_signs, .ref a_now_rotors])), (a_now_signs, .inl (cI, 16, .inl v_now_signs)), (a_now_rotors, rfn cR 4 a_now_rotors_e), rcell a_now_rotors_e v_now_rotorsF 0, rcell a_now_rotors_e v_now_rotorsF 1, rcell a_now_rotors_e v_now_rotorsF 2, rcell a_now_rotors_e v_now_rotorsF 3, (a_trial, .inr (0, [.int w4, .int w5, .int w6, .int w7, .int w8, .ref a_trial_signs, .ref a_trial_rotors])), (a_trial_signs, .inl (cI, 16, .inl (upd w9 x5.toNatClampNeg (0 : Int32)))), (a_trial_rotors, rfn cR 4 a_trial_rotors_e), rcell a_trial_rotors_e w10 0, rcell a_trial_rotors_e w10 1, rcell a_trial_rotors_e w10 2, rcell a_trial_rotors_e w10 3] := hD
      refine lv_aload_n C.1 C.2.1 dX6_ease_78 rfl (lv_at hl 0 rfl) ?_
      refine lv_iload_n C.1 C.2.1 dX6_ease_79 rfl (lv_at hl 1 rfl) ?_
      obtain ⟨⟨r13, w14, w15, w16⟩, h17, hF⟩ := fb hF
      refine callVI C hK hA hP hD hS [0, 8, 9, 10, 11, 12, 13, 14] (c_X6_allLostBehind (a_this := a_this) (a_tape := a_tape) (a_now := a_now) (a_trial := a_trial) (a_sights := a_sights) (a_images := a_images) (a_sheets := a_sheets) (a_trial_signs := a_trial_signs) (a_trial_rotors := a_trial_rotors) (a_trial_rotors_e := a_trial_rotors_e) (v_readFault := v_readFault) (v_trial_field := w4) (v_trial_tick := w5) (v_trial_pace := w6) (v_trial_signNumber := w7) (v_trial_rotorNumber := w8) (v_trial_signs := upd w9 x5.toNatClampNeg (0 : Int32)) (v_trial_rotorsF := w10) h17) cv_X6_allLostBehind kw3_46 rfl (by decide) rfl rfl rfl ⟨Nat.le_of_ble_eq_true rfl, Nat.le_of_ble_eq_true rfl⟩ ⟨Nat.zero_le _, Nat.zero_le _⟩ hl.1 rfl (Nat.le_of_ble_eq_true rfl) dX6_ease_80 (fun H locs hP hD hS => ?_)
      have hP : va_P D vwCl [(a_this, .inr (6, [.ref a_tape, .ref a_now, .ref a_trial, .ref a_sights, .ref a_images, .ref a_sheets, .int v_readFault])), (a_now, .inr (0, [.int v_now_field, .int v_now_tick, .int v_now_pace, .int v_now_signNumber, .int v_now_rotorNumber, .ref a_now_signs, .ref a_now_rotors])), (a_now_signs, .inl (cI, 16, .inl v_now_signs)), (a_now_rotors, rfn cR 4 a_now_rotors_e), rcell a_now_rotors_e v_now_rotorsF 0, rcell a_now_rotors_e v_now_rotorsF 1, rcell a_now_rotors_e v_now_rotorsF 2, rcell a_now_rotors_e v_now_rotorsF 3, (a_trial, .inr (0, [.int w14, .int w15, .int w6, .int w7, .int w8, .ref a_trial_signs, .ref a_trial_rotors])), (a_trial_signs, .inl (cI, 16, .inl (upd w9 x5.toNatClampNeg (0 : Int32)))), (a_trial_rotors, rfn cR 4 a_trial_rotors_e), rcell a_trial_rotors_e w16 0, rcell a_trial_rotors_e w16 1, rcell a_trial_rotors_e w16 2, rcell a_trial_rotors_e w16 3] H := hP
      have hD : va_D A [(a_this, .inr (6, [.ref a_tape, .ref a_now, .ref a_trial, .ref a_sights, .ref a_images, .ref a_sheets, .int v_readFault])), (a_now, .inr (0, [.int v_now_field, .int v_now_tick, .int v_now_pace, .int v_now_signNumber, .int v_now_rotorNumber, .ref a_now_signs, .ref a_now_rotors])), (a_now_signs, .inl (cI, 16, .inl v_now_signs)), (a_now_rotors, rfn cR 4 a_now_rotors_e), rcell a_now_rotors_e v_now_rotorsF 0, rcell a_now_rotors_e v_now_rotorsF 1, rcell a_now_rotors_e v_now_rotorsF 2, rcell a_now_rotors_e v_now_rotorsF 3, (a_trial, .inr (0, [.int w14, .int w15, .int w6, .int w7, .int w8, .ref a_trial_signs, .ref a_trial_rotors])), (a_trial_signs, .inl (cI, 16, .inl (upd w9 x5.toNatClampNeg (0 : Int32)))), (a_trial_rotors, rfn cR 4 a_trial_rotors_e), rcell a_trial_rotors_e w16 0, rcell a_trial_rotors_e w16 1, rcell a_trial_rotors_e w16 2, rcell a_trial_rotors_e w16 3] := hD
      refine lv_istore (lv' := [(6, .int r13), (0, .ref a_this), (1, .int x1), (2, .int x2), (3, .int x3), (4, .int x4), (5, .int x5)]) C.1 C.2.1 dX6_ease_83 hl (by decide) rfl (fun ls hl => ?_)
      refine lv_iload C.1 C.2.1 dX6_ease_85 (lv_at hl 0 rfl) ?_
      refine lv_iload_n C.1 C.2.1 dX6_ease_87 rfl (lv_at hl 4 rfl) ?_
      refine lv_icmp_ge (tgt := 98) C.1 C.2.1 dX6_ease_88 (by decide) (fun c18 => ?_) (fun c18 => ?_)
      · have hF := fp hF c18
        refine lv_iinc (v := x5 + 1) (lv' := [(5, .int (x5 + 1)), (6, .int r13), (0, .ref a_this), (1, .int x1), (2, .int x2), (3, .int x3), (4, .int x4)]) C.1 C.2.1 dX6_ease_98 hl (k := 6) rfl rfl (by decide) rfl (fun ls hl => ?_)
        refine lv_goto (tgt := 44) C.1 C.2.1 dX6_ease_101 (by decide) ?_
        exact ih v_now_field v_now_tick v_now_pace v_now_signNumber v_now_rotorNumber v_now_signs v_now_rotorsF w14 w15 w6 w7 w8 (upd w9 x5.toNatClampNeg (0 : Int32)) w16 x1 x2 x3 x4 (x5 + 1) _ _ _ hF hP hD hS (lv_sub hl [2, 3, 4, 5, 6, 0] rfl)
      · have hF := fn hF c18
        refine lv_iload C.1 C.2.1 dX6_ease_91 (lv_at hl 0 rfl) ?_
        refine lv_istore_n (lv' := [(3, .int r13), (6, .int r13), (0, .ref a_this), (1, .int x1), (2, .int x2), (4, .int x4), (5, .int x5)]) C.1 C.2.1 dX6_ease_93 rfl hl (by decide) rfl (fun ls hl => ?_)
        refine lv_iload C.1 C.2.1 dX6_ease_94 (lv_at hl 6 rfl) ?_
        refine lv_istore (lv' := [(4, .int x5), (3, .int r13), (6, .int r13), (0, .ref a_this), (1, .int x1), (2, .int x2), (5, .int x5)]) C.1 C.2.1 dX6_ease_96 hl (by decide) rfl (fun ls hl => ?_)
        refine lv_iinc (v := x5 + 1) (lv' := [(5, .int (x5 + 1)), (4, .int x5), (3, .int r13), (6, .int r13), (0, .ref a_this), (1, .int x1), (2, .int x2)]) C.1 C.2.1 dX6_ease_98 hl (k := 6) rfl rfl (by decide) rfl (fun ls hl => ?_)
        refine lv_goto (tgt := 44) C.1 C.2.1 dX6_ease_101 (by decide) ?_
        exact ih v_now_field v_now_tick v_now_pace v_now_signNumber v_now_rotorNumber v_now_signs v_now_rotorsF w14 w15 w6 w7 w8 (upd w9 x5.toNatClampNeg (0 : Int32)) w16 x1 x2 r13 x5 (x5 + 1) _ _ _ hF hP hD hS (lv_sub hl [4, 5, 6, 2, 1, 0] rfl)
set_option maxHeartbeats 4000000 in
set_option maxRecDepth 100000 in
theorem c0_X6_ease {l : Launch} {D : va_G} {cI cB cZ cR cM cS : ClassId} {a_this : Nat} {a_tape : Nat} {a_now : Nat} {a_trial : Nat} {a_sights : Nat} {a_images : Nat} {a_sheets : Nat} {a_now_signs : Nat} {a_now_rotors : Nat} {a_now_rotors_e : Nat → Nat} {a_trial_signs : Nat} {a_trial_rotors : Nat} {a_trial_rotors_e : Nat → Nat} {v_readFault : Int32} {v_now_field : Int32} {v_now_tick : Int32} {v_now_pace : Int32} {v_now_signNumber : Int32} {v_now_rotorNumber : Int32} {v_now_signs : Nat → Int32} {v_now_rotorsF : Nat → Rot} {v_trial_field : Int32} {v_trial_tick : Int32} {v_trial_pace : Int32} {v_trial_signNumber : Int32} {v_trial_rotorNumber : Int32} {v_trial_signs : Nat → Int32} {v_trial_rotorsF : Nat → Rot} {x1 : Int32} {x2 : Int32} {res : Int32 × Int32 × Int32 × Int32 × Int32 × Int32 × (Nat → Int32) × (Nat → Rot)} (hF : F_X6_ease v_now_field v_now_tick v_now_pace v_now_signNumber v_now_rotorNumber v_now_signs v_now_rotorsF v_trial_field v_trial_tick v_trial_pace v_trial_signNumber v_trial_rotorNumber v_trial_signs v_trial_rotorsF x1 x2 = some res) : MI l yX6_ease cX6_ease 7 .int rm_X6_ease D (TS cI cB cZ cR cM cS) [.ref a_this, .int x1, .int x2] [(a_this, .inr (6, [.ref a_tape, .ref a_now, .ref a_trial, .ref a_sights, .ref a_images, .ref a_sheets, .int v_readFault])), (a_now, .inr (0, [.int v_now_field, .int v_now_tick, .int v_now_pace, .int v_now_signNumber, .int v_now_rotorNumber, .ref a_now_signs, .ref a_now_rotors])), (a_now_signs, .inl (cI, 16, .inl v_now_signs)), (a_now_rotors, rfn cR 4 a_now_rotors_e), rcell a_now_rotors_e v_now_rotorsF 0, rcell a_now_rotors_e v_now_rotorsF 1, rcell a_now_rotors_e v_now_rotorsF 2, rcell a_now_rotors_e v_now_rotorsF 3, (a_trial, .inr (0, [.int v_trial_field, .int v_trial_tick, .int v_trial_pace, .int v_trial_signNumber, .int v_trial_rotorNumber, .ref a_trial_signs, .ref a_trial_rotors])), (a_trial_signs, .inl (cI, 16, .inl v_trial_signs)), (a_trial_rotors, rfn cR 4 a_trial_rotors_e), rcell a_trial_rotors_e v_trial_rotorsF 0, rcell a_trial_rotors_e v_trial_rotorsF 1, rcell a_trial_rotors_e v_trial_rotorsF 2, rcell a_trial_rotors_e v_trial_rotorsF 3] [(a_this, .inr (6, [.ref a_tape, .ref a_now, .ref a_trial, .ref a_sights, .ref a_images, .ref a_sheets, .int v_readFault])), (a_now, .inr (0, [.int v_now_field, .int v_now_tick, .int v_now_pace, .int v_now_signNumber, .int v_now_rotorNumber, .ref a_now_signs, .ref a_now_rotors])), (a_now_signs, .inl (cI, 16, .inl v_now_signs)), (a_now_rotors, rfn cR 4 a_now_rotors_e), rcell a_now_rotors_e v_now_rotorsF 0, rcell a_now_rotors_e v_now_rotorsF 1, rcell a_now_rotors_e v_now_rotorsF 2, rcell a_now_rotors_e v_now_rotorsF 3, (a_trial, .inr (0, [.int res.2.1, .int res.2.2.1, .int res.2.2.2.1, .int res.2.2.2.2.1, .int res.2.2.2.2.2.1, .ref a_trial_signs, .ref a_trial_rotors])), (a_trial_signs, .inl (cI, 16, .inl res.2.2.2.2.2.2.1)), (a_trial_rotors, rfn cR 4 a_trial_rotors_e), rcell a_trial_rotors_e res.2.2.2.2.2.2.2 0, rcell a_trial_rotors_e res.2.2.2.2.2.2.2 1, rcell a_trial_rotors_e res.2.2.2.2.2.2.2 2, rcell a_trial_rotors_e res.2.2.2.2.2.2.2 3] res.1 :=
  MI_of (by decide) (Nat.le_of_ble_eq_true rfl) (fun p e s m args below meth c A ls C hr hlk hK hA hP hD hS hl => by
    have C : CX p m c cX6_ease 7 s args RX6 := C
    have hl : lv_has ls 7 [(0, .ref a_this), (1, .int x1), (2, .int x2)] := hl
    unfold F_X6_ease at hF
    refine lv_iload_n C.1 C.2.1 dX6_ease_0 rfl (lv_at hl 1 rfl) ?_
    refine lv_sipush (v := 200) C.1 C.2.1 dX6_ease_1 (by decide) ?_
    obtain ⟨r1, h2, hF⟩ := fb hF
    refine callSI C hK hA hP hD hS (c_X6_within  h2) cs_X6_within kw1_227 ⟨Nat.le_of_ble_eq_true rfl, Nat.le_of_ble_eq_true rfl⟩ ⟨Nat.zero_le _, Nat.zero_le _⟩ hl.1 rfl (Nat.le_of_ble_eq_true rfl) dX6_ease_4 (fun H locs hP hD hS => ?_)
    refine lv_if_eq (tgt := 18) C.1 C.2.1 dX6_ease_7 (by decide) (fun c3 => ?_) (fun c3 => ?_)
    · have hF := fp hF c3
      refine lv_iconst (v := (-1)) C.1 C.2.1 dX6_ease_18 (by decide) ?_
      have hF := Option.some.inj hF
      subst hF
      exact retI C hr hlk hP hD hS dX6_ease_19
    · have hF := fn hF c3
      refine lv_iload_n C.1 C.2.1 dX6_ease_10 rfl (lv_at hl 2 rfl) ?_
      refine lv_iconst (v := 1) C.1 C.2.1 dX6_ease_11 (by decide) ?_
      obtain ⟨r4, h5, hF⟩ := fb hF
      refine callSI C hK hA hP hD hS (c_X6_within  h5) cs_X6_within kw1_227 ⟨Nat.le_of_ble_eq_true rfl, Nat.le_of_ble_eq_true rfl⟩ ⟨Nat.zero_le _, Nat.zero_le _⟩ hl.1 rfl (Nat.le_of_ble_eq_true rfl) dX6_ease_12 (fun H locs hP hD hS => ?_)
      refine lv_if_ne (tgt := 20) C.1 C.2.1 dX6_ease_15 (by decide) (fun c6 => ?_) (fun c6 => ?_)
      · have hF := fn hF c6
        refine lv_aload_n C.1 C.2.1 dX6_ease_20 rfl (lv_at hl 0 rfl) ?_
        refine gf_6_6_trial C hK hP 0 rfl rfl dX6_ease_21 ?_
        refine lv_aload_n C.1 C.2.1 dX6_ease_24 rfl (lv_at hl 0 rfl) ?_
        refine gf_6_6_now C hK hP 0 rfl rfl dX6_ease_25 ?_
        obtain ⟨⟨w7, w8, w9, w10, w11, w12, w13⟩, h14, hF⟩ := fb hF
        refine callVV C hK hA hP hD hS [8, 9, 10, 11, 12, 13, 14, 1, 2, 3, 4, 5, 6, 7] (c_X0_copyFrom (a_this := a_trial) (a_signs := a_trial_signs) (a_rotors := a_trial_rotors) (a_rotors_e := a_trial_rotors_e) (a_o1 := a_now) (a_o1_signs := a_now_signs) (a_o1_rotors := a_now_rotors) (a_o1_rotors_e := a_now_rotors_e) (v_field := v_trial_field) (v_tick := v_trial_tick) (v_pace := v_trial_pace) (v_signNumber := v_trial_signNumber) (v_rotorNumber := v_trial_rotorNumber) (v_signs := v_trial_signs) (v_rotorsF := v_trial_rotorsF) (v_o1_field := v_now_field) (v_o1_tick := v_now_tick) (v_o1_pace := v_now_pace) (v_o1_signNumber := v_now_signNumber) (v_o1_rotorNumber := v_now_rotorNumber) (v_o1_signs := v_now_signs) (v_o1_rotorsF := v_now_rotorsF) h14) cv_X0_copyFrom kw2_124 rfl (by decide) rfl rfl rfl ⟨Nat.le_of_ble_eq_true rfl, Nat.le_of_ble_eq_true rfl⟩ ⟨Nat.zero_le _, Nat.zero_le _⟩ hl.1 rfl (Nat.le_of_ble_eq_true rfl) dX6_ease_28 (fun H locs hP hD hS => ?_)
        have hP : va_P D vwCl [(a_this, .inr (6, [.ref a_tape, .ref a_now, .ref a_trial, .ref a_sights, .ref a_images, .ref a_sheets, .int v_readFault])), (a_now, .inr (0, [.int v_now_field, .int v_now_tick, .int v_now_pace, .int v_now_signNumber, .int v_now_rotorNumber, .ref a_now_signs, .ref a_now_rotors])), (a_now_signs, .inl (cI, 16, .inl v_now_signs)), (a_now_rotors, rfn cR 4 a_now_rotors_e), rcell a_now_rotors_e v_now_rotorsF 0, rcell a_now_rotors_e v_now_rotorsF 1, rcell a_now_rotors_e v_now_rotorsF 2, rcell a_now_rotors_e v_now_rotorsF 3, (a_trial, .inr (0, [.int w7, .int w8, .int w9, .int w10, .int w11, .ref a_trial_signs, .ref a_trial_rotors])), (a_trial_signs, .inl (cI, 16, .inl w12)), (a_trial_rotors, rfn cR 4 a_trial_rotors_e), rcell a_trial_rotors_e w13 0, rcell a_trial_rotors_e w13 1, rcell a_trial_rotors_e w13 2, rcell a_trial_rotors_e w13 3] H := hP
        have hD : va_D A [(a_this, .inr (6, [.ref a_tape, .ref a_now, .ref a_trial, .ref a_sights, .ref a_images, .ref a_sheets, .int v_readFault])), (a_now, .inr (0, [.int v_now_field, .int v_now_tick, .int v_now_pace, .int v_now_signNumber, .int v_now_rotorNumber, .ref a_now_signs, .ref a_now_rotors])), (a_now_signs, .inl (cI, 16, .inl v_now_signs)), (a_now_rotors, rfn cR 4 a_now_rotors_e), rcell a_now_rotors_e v_now_rotorsF 0, rcell a_now_rotors_e v_now_rotorsF 1, rcell a_now_rotors_e v_now_rotorsF 2, rcell a_now_rotors_e v_now_rotorsF 3, (a_trial, .inr (0, [.int w7, .int w8, .int w9, .int w10, .int w11, .ref a_trial_signs, .ref a_trial_rotors])), (a_trial_signs, .inl (cI, 16, .inl w12)), (a_trial_rotors, rfn cR 4 a_trial_rotors_e), rcell a_trial_rotors_e w13 0, rcell a_trial_rotors_e w13 1, rcell a_trial_rotors_e w13 2, rcell a_trial_rotors_e w13 3] := hD
        refine lv_aload_n C.1 C.2.1 dX6_ease_31 rfl (lv_at hl 0 rfl) ?_
        refine lv_iload_n C.1 C.2.1 dX6_ease_32 rfl (lv_at hl 1 rfl) ?_
        obtain ⟨⟨r15, w16, w17, w18⟩, h19, hF⟩ := fb hF
        refine callVI C hK hA hP hD hS [0, 8, 9, 10, 11, 12, 13, 14] (c_X6_allLostBehind (a_this := a_this) (a_tape := a_tape) (a_now := a_now) (a_trial := a_trial) (a_sights := a_sights) (a_images := a_images) (a_sheets := a_sheets) (a_trial_signs := a_trial_signs) (a_trial_rotors := a_trial_rotors) (a_trial_rotors_e := a_trial_rotors_e) (v_readFault := v_readFault) (v_trial_field := w7) (v_trial_tick := w8) (v_trial_pace := w9) (v_trial_signNumber := w10) (v_trial_rotorNumber := w11) (v_trial_signs := w12) (v_trial_rotorsF := w13) h19) cv_X6_allLostBehind kw3_46 rfl (by decide) rfl rfl rfl ⟨Nat.le_of_ble_eq_true rfl, Nat.le_of_ble_eq_true rfl⟩ ⟨Nat.zero_le _, Nat.zero_le _⟩ hl.1 rfl (Nat.le_of_ble_eq_true rfl) dX6_ease_33 (fun H locs hP hD hS => ?_)
        have hP : va_P D vwCl [(a_this, .inr (6, [.ref a_tape, .ref a_now, .ref a_trial, .ref a_sights, .ref a_images, .ref a_sheets, .int v_readFault])), (a_now, .inr (0, [.int v_now_field, .int v_now_tick, .int v_now_pace, .int v_now_signNumber, .int v_now_rotorNumber, .ref a_now_signs, .ref a_now_rotors])), (a_now_signs, .inl (cI, 16, .inl v_now_signs)), (a_now_rotors, rfn cR 4 a_now_rotors_e), rcell a_now_rotors_e v_now_rotorsF 0, rcell a_now_rotors_e v_now_rotorsF 1, rcell a_now_rotors_e v_now_rotorsF 2, rcell a_now_rotors_e v_now_rotorsF 3, (a_trial, .inr (0, [.int w16, .int w17, .int w9, .int w10, .int w11, .ref a_trial_signs, .ref a_trial_rotors])), (a_trial_signs, .inl (cI, 16, .inl w12)), (a_trial_rotors, rfn cR 4 a_trial_rotors_e), rcell a_trial_rotors_e w18 0, rcell a_trial_rotors_e w18 1, rcell a_trial_rotors_e w18 2, rcell a_trial_rotors_e w18 3] H := hP
        have hD : va_D A [(a_this, .inr (6, [.ref a_tape, .ref a_now, .ref a_trial, .ref a_sights, .ref a_images, .ref a_sheets, .int v_readFault])), (a_now, .inr (0, [.int v_now_field, .int v_now_tick, .int v_now_pace, .int v_now_signNumber, .int v_now_rotorNumber, .ref a_now_signs, .ref a_now_rotors])), (a_now_signs, .inl (cI, 16, .inl v_now_signs)), (a_now_rotors, rfn cR 4 a_now_rotors_e), rcell a_now_rotors_e v_now_rotorsF 0, rcell a_now_rotors_e v_now_rotorsF 1, rcell a_now_rotors_e v_now_rotorsF 2, rcell a_now_rotors_e v_now_rotorsF 3, (a_trial, .inr (0, [.int w16, .int w17, .int w9, .int w10, .int w11, .ref a_trial_signs, .ref a_trial_rotors])), (a_trial_signs, .inl (cI, 16, .inl w12)), (a_trial_rotors, rfn cR 4 a_trial_rotors_e), rcell a_trial_rotors_e w18 0, rcell a_trial_rotors_e w18 1, rcell a_trial_rotors_e w18 2, rcell a_trial_rotors_e w18 3] := hD
        refine lv_istore_n (lv' := [(3, .int r15), (0, .ref a_this), (1, .int x1), (2, .int x2)]) C.1 C.2.1 dX6_ease_36 rfl hl (by decide) rfl (fun ls hl => ?_)
        refine lv_bipush (v := (-4)) C.1 C.2.1 dX6_ease_37 (by decide) ?_
        refine lv_istore (lv' := [(4, .int ((-4) : Int32)), (3, .int r15), (0, .ref a_this), (1, .int x1), (2, .int x2)]) C.1 C.2.1 dX6_ease_39 hl (by decide) rfl (fun ls hl => ?_)
        refine lv_iconst (v := 0) C.1 C.2.1 dX6_ease_41 (by decide) ?_
        refine lv_istore (lv' := [(5, .int (0 : Int32)), (4, .int ((-4) : Int32)), (3, .int r15), (0, .ref a_this), (1, .int x1), (2, .int x2)]) C.1 C.2.1 dX6_ease_42 hl (by decide) rfl (fun ls hl => ?_)
        exact b_X6_ease_44 C hr hlk hK hA FU v_now_field v_now_tick v_now_pace v_now_signNumber v_now_rotorNumber v_now_signs v_now_rotorsF w16 w17 w9 w10 w11 w12 w18 x1 x2 r15 ((-4) : Int32) (0 : Int32) _ _ _ hF hP hD hS (lv_sub hl [3, 4, 5, 2, 1, 0] rfl)
      · have hF := fp hF c6
        refine lv_iconst (v := (-1)) C.1 C.2.1 dX6_ease_18 (by decide) ?_
        have hF := Option.some.inj hF
        subst hF
        exact retI C hr hlk hP hD hS dX6_ease_19)
theorem c_X6_ease {l : Launch} {D : va_G} {cI cB cZ cR cM cS : ClassId} {a_this : Nat} {a_tape : Nat} {a_now : Nat} {a_trial : Nat} {a_sights : Nat} {a_images : Nat} {a_sheets : Nat} {a_now_signs : Nat} {a_now_rotors : Nat} {a_now_rotors_e : Nat → Nat} {a_trial_signs : Nat} {a_trial_rotors : Nat} {a_trial_rotors_e : Nat → Nat} {v_readFault : Int32} {v_now_field : Int32} {v_now_tick : Int32} {v_now_pace : Int32} {v_now_signNumber : Int32} {v_now_rotorNumber : Int32} {v_now_signs : Nat → Int32} {v_now_rotorsF : Nat → Rot} {v_trial_field : Int32} {v_trial_tick : Int32} {v_trial_pace : Int32} {v_trial_signNumber : Int32} {v_trial_rotorNumber : Int32} {v_trial_signs : Nat → Int32} {v_trial_rotorsF : Nat → Rot} {x1 : Int32} {x2 : Int32} {r_ : Int32} {v_trial_field' : Int32} {v_trial_tick' : Int32} {v_trial_pace' : Int32} {v_trial_signNumber' : Int32} {v_trial_rotorNumber' : Int32} {v_trial_signs' : Nat → Int32} {v_trial_rotorsF' : Nat → Rot} (hF : F_X6_ease v_now_field v_now_tick v_now_pace v_now_signNumber v_now_rotorNumber v_now_signs v_now_rotorsF v_trial_field v_trial_tick v_trial_pace v_trial_signNumber v_trial_rotorNumber v_trial_signs v_trial_rotorsF x1 x2 = some (r_, v_trial_field', v_trial_tick', v_trial_pace', v_trial_signNumber', v_trial_rotorNumber', v_trial_signs', v_trial_rotorsF')) : MI l yX6_ease cX6_ease 7 .int rm_X6_ease D (TS cI cB cZ cR cM cS) [.ref a_this, .int x1, .int x2] [(a_this, .inr (6, [.ref a_tape, .ref a_now, .ref a_trial, .ref a_sights, .ref a_images, .ref a_sheets, .int v_readFault])), (a_now, .inr (0, [.int v_now_field, .int v_now_tick, .int v_now_pace, .int v_now_signNumber, .int v_now_rotorNumber, .ref a_now_signs, .ref a_now_rotors])), (a_now_signs, .inl (cI, 16, .inl v_now_signs)), (a_now_rotors, rfn cR 4 a_now_rotors_e), rcell a_now_rotors_e v_now_rotorsF 0, rcell a_now_rotors_e v_now_rotorsF 1, rcell a_now_rotors_e v_now_rotorsF 2, rcell a_now_rotors_e v_now_rotorsF 3, (a_trial, .inr (0, [.int v_trial_field, .int v_trial_tick, .int v_trial_pace, .int v_trial_signNumber, .int v_trial_rotorNumber, .ref a_trial_signs, .ref a_trial_rotors])), (a_trial_signs, .inl (cI, 16, .inl v_trial_signs)), (a_trial_rotors, rfn cR 4 a_trial_rotors_e), rcell a_trial_rotors_e v_trial_rotorsF 0, rcell a_trial_rotors_e v_trial_rotorsF 1, rcell a_trial_rotors_e v_trial_rotorsF 2, rcell a_trial_rotors_e v_trial_rotorsF 3] [(a_this, .inr (6, [.ref a_tape, .ref a_now, .ref a_trial, .ref a_sights, .ref a_images, .ref a_sheets, .int v_readFault])), (a_now, .inr (0, [.int v_now_field, .int v_now_tick, .int v_now_pace, .int v_now_signNumber, .int v_now_rotorNumber, .ref a_now_signs, .ref a_now_rotors])), (a_now_signs, .inl (cI, 16, .inl v_now_signs)), (a_now_rotors, rfn cR 4 a_now_rotors_e), rcell a_now_rotors_e v_now_rotorsF 0, rcell a_now_rotors_e v_now_rotorsF 1, rcell a_now_rotors_e v_now_rotorsF 2, rcell a_now_rotors_e v_now_rotorsF 3, (a_trial, .inr (0, [.int v_trial_field', .int v_trial_tick', .int v_trial_pace', .int v_trial_signNumber', .int v_trial_rotorNumber', .ref a_trial_signs, .ref a_trial_rotors])), (a_trial_signs, .inl (cI, 16, .inl v_trial_signs')), (a_trial_rotors, rfn cR 4 a_trial_rotors_e), rcell a_trial_rotors_e v_trial_rotorsF' 0, rcell a_trial_rotors_e v_trial_rotorsF' 1, rcell a_trial_rotors_e v_trial_rotorsF' 2, rcell a_trial_rotors_e v_trial_rotorsF' 3] r_ :=
  c0_X6_ease (res := (r_, v_trial_field', v_trial_tick', v_trial_pace', v_trial_signNumber', v_trial_rotorNumber', v_trial_signs', v_trial_rotorsF')) hF
def rm_X6_begin : Room := { frames := 6, cells := 0, slots := 0, locals := 143 }
theorem cv_X6_begin : CV yX6_begin cX6_begin 4 (some .int) rm_X6_begin RX6 3 := ⟨kw3_59, kw3_60, kw1_1, kw3_61, by decide +kernel, rfl, rfl⟩
set_option maxHeartbeats 4000000 in
set_option maxRecDepth 100000 in
theorem c0_X6_begin {l : Launch} {D : va_G} {cI cB cZ cR cM cS : ClassId} {a_this : Nat} {a_tape : Nat} {a_now : Nat} {a_trial : Nat} {a_sights : Nat} {a_images : Nat} {a_sheets : Nat} {a_now_signs : Nat} {a_now_rotors : Nat} {a_now_rotors_e : Nat → Nat} {a_trial_signs : Nat} {a_trial_rotors : Nat} {a_trial_rotors_e : Nat → Nat} {v_readFault : Int32} {v_now_field : Int32} {v_now_tick : Int32} {v_now_pace : Int32} {v_now_signNumber : Int32} {v_now_rotorNumber : Int32} {v_now_signs : Nat → Int32} {v_now_rotorsF : Nat → Rot} {v_trial_field : Int32} {v_trial_tick : Int32} {v_trial_pace : Int32} {v_trial_signNumber : Int32} {v_trial_rotorNumber : Int32} {v_trial_signs : Nat → Int32} {v_trial_rotorsF : Nat → Rot} {x1 : Int32} {x2 : Int32} {x3 : Int32} {res : Int32 × Int32 × Int32 × Int32 × Int32 × Int32 × (Nat → Int32) × (Nat → Rot)} (hF : F_X6_begin v_now_field v_now_tick v_now_pace v_now_signNumber v_now_rotorNumber v_now_signs v_now_rotorsF v_trial_field v_trial_tick v_trial_pace v_trial_signNumber v_trial_rotorNumber v_trial_signs v_trial_rotorsF x1 x2 x3 = some res) : MI l yX6_begin cX6_begin 4 .int rm_X6_begin D (TS cI cB cZ cR cM cS) [.ref a_this, .int x1, .int x2, .int x3] [(a_this, .inr (6, [.ref a_tape, .ref a_now, .ref a_trial, .ref a_sights, .ref a_images, .ref a_sheets, .int v_readFault])), (a_now, .inr (0, [.int v_now_field, .int v_now_tick, .int v_now_pace, .int v_now_signNumber, .int v_now_rotorNumber, .ref a_now_signs, .ref a_now_rotors])), (a_now_signs, .inl (cI, 16, .inl v_now_signs)), (a_now_rotors, rfn cR 4 a_now_rotors_e), rcell a_now_rotors_e v_now_rotorsF 0, rcell a_now_rotors_e v_now_rotorsF 1, rcell a_now_rotors_e v_now_rotorsF 2, rcell a_now_rotors_e v_now_rotorsF 3, (a_trial, .inr (0, [.int v_trial_field, .int v_trial_tick, .int v_trial_pace, .int v_trial_signNumber, .int v_trial_rotorNumber, .ref a_trial_signs, .ref a_trial_rotors])), (a_trial_signs, .inl (cI, 16, .inl v_trial_signs)), (a_trial_rotors, rfn cR 4 a_trial_rotors_e), rcell a_trial_rotors_e v_trial_rotorsF 0, rcell a_trial_rotors_e v_trial_rotorsF 1, rcell a_trial_rotors_e v_trial_rotorsF 2, rcell a_trial_rotors_e v_trial_rotorsF 3] [(a_this, .inr (6, [.ref a_tape, .ref a_now, .ref a_trial, .ref a_sights, .ref a_images, .ref a_sheets, .int v_readFault])), (a_now, .inr (0, [.int v_now_field, .int v_now_tick, .int v_now_pace, .int v_now_signNumber, .int v_now_rotorNumber, .ref a_now_signs, .ref a_now_rotors])), (a_now_signs, .inl (cI, 16, .inl v_now_signs)), (a_now_rotors, rfn cR 4 a_now_rotors_e), rcell a_now_rotors_e v_now_rotorsF 0, rcell a_now_rotors_e v_now_rotorsF 1, rcell a_now_rotors_e v_now_rotorsF 2, rcell a_now_rotors_e v_now_rotorsF 3, (a_trial, .inr (0, [.int res.2.1, .int res.2.2.1, .int res.2.2.2.1, .int res.2.2.2.2.1, .int res.2.2.2.2.2.1, .ref a_trial_signs, .ref a_trial_rotors])), (a_trial_signs, .inl (cI, 16, .inl res.2.2.2.2.2.2.1)), (a_trial_rotors, rfn cR 4 a_trial_rotors_e), rcell a_trial_rotors_e res.2.2.2.2.2.2.2 0, rcell a_trial_rotors_e res.2.2.2.2.2.2.2 1, rcell a_trial_rotors_e res.2.2.2.2.2.2.2 2, rcell a_trial_rotors_e res.2.2.2.2.2.2.2 3] res.1 :=
  MI_of (by decide) (Nat.le_of_ble_eq_true rfl) (fun p e s m args below meth c A ls C hr hlk hK hA hP hD hS hl => by
    have C : CX p m c cX6_begin 4 s args RX6 := C
    have hl : lv_has ls 4 [(0, .ref a_this), (1, .int x1), (2, .int x2), (3, .int x3)] := hl
    unfold F_X6_begin at hF
    refine lv_aload_n C.1 C.2.1 dX6_begin_0 rfl (lv_at hl 0 rfl) ?_
    refine lv_iload_n C.1 C.2.1 dX6_begin_1 rfl (lv_at hl 1 rfl) ?_
    obtain ⟨r1, h2, hF⟩ := fb hF
    refine callVI C hK hA hP hD hS [0, 1] (c_X6_hasRotor (a_this := a_this) (a_tape := a_tape) (a_now := a_now) (a_trial := a_trial) (a_sights := a_sights) (a_images := a_images) (a_sheets := a_sheets) (a_now_signs := a_now_signs) (a_now_rotors := a_now_rotors) (v_readFault := v_readFault) (v_now_field := v_now_field) (v_now_tick := v_now_tick) (v_now_pace := v_now_pace) (v_now_signNumber := v_now_signNumber) (v_now_rotorNumber := v_now_rotorNumber) h2) cv_X6_hasRotor kw2_172 rfl (by decide) rfl rfl rfl ⟨Nat.le_of_ble_eq_true rfl, Nat.le_of_ble_eq_true rfl⟩ ⟨Nat.zero_le _, Nat.zero_le _⟩ hl.1 rfl (Nat.le_of_ble_eq_true rfl) dX6_begin_2 (fun H locs hP hD hS => ?_)
    have hP : va_P D vwCl [(a_this, .inr (6, [.ref a_tape, .ref a_now, .ref a_trial, .ref a_sights, .ref a_images, .ref a_sheets, .int v_readFault])), (a_now, .inr (0, [.int v_now_field, .int v_now_tick, .int v_now_pace, .int v_now_signNumber, .int v_now_rotorNumber, .ref a_now_signs, .ref a_now_rotors])), (a_now_signs, .inl (cI, 16, .inl v_now_signs)), (a_now_rotors, rfn cR 4 a_now_rotors_e), rcell a_now_rotors_e v_now_rotorsF 0, rcell a_now_rotors_e v_now_rotorsF 1, rcell a_now_rotors_e v_now_rotorsF 2, rcell a_now_rotors_e v_now_rotorsF 3, (a_trial, .inr (0, [.int v_trial_field, .int v_trial_tick, .int v_trial_pace, .int v_trial_signNumber, .int v_trial_rotorNumber, .ref a_trial_signs, .ref a_trial_rotors])), (a_trial_signs, .inl (cI, 16, .inl v_trial_signs)), (a_trial_rotors, rfn cR 4 a_trial_rotors_e), rcell a_trial_rotors_e v_trial_rotorsF 0, rcell a_trial_rotors_e v_trial_rotorsF 1, rcell a_trial_rotors_e v_trial_rotorsF 2, rcell a_trial_rotors_e v_trial_rotorsF 3] H := hP
    have hD : va_D A [(a_this, .inr (6, [.ref a_tape, .ref a_now, .ref a_trial, .ref a_sights, .ref a_images, .ref a_sheets, .int v_readFault])), (a_now, .inr (0, [.int v_now_field, .int v_now_tick, .int v_now_pace, .int v_now_signNumber, .int v_now_rotorNumber, .ref a_now_signs, .ref a_now_rotors])), (a_now_signs, .inl (cI, 16, .inl v_now_signs)), (a_now_rotors, rfn cR 4 a_now_rotors_e), rcell a_now_rotors_e v_now_rotorsF 0, rcell a_now_rotors_e v_now_rotorsF 1, rcell a_now_rotors_e v_now_rotorsF 2, rcell a_now_rotors_e v_now_rotorsF 3, (a_trial, .inr (0, [.int v_trial_field, .int v_trial_tick, .int v_trial_pace, .int v_trial_signNumber, .int v_trial_rotorNumber, .ref a_trial_signs, .ref a_trial_rotors])), (a_trial_signs, .inl (cI, 16, .inl v_trial_signs)), (a_trial_rotors, rfn cR 4 a_trial_rotors_e), rcell a_trial_rotors_e v_trial_rotorsF 0, rcell a_trial_rotors_e v_trial_rotorsF 1, rcell a_trial_rotors_e v_trial_rotorsF 2, rcell a_trial_rotors_e v_trial_rotorsF 3] := hD
    refine lv_if_eq (tgt := 26) C.1 C.2.1 dX6_begin_5 (by decide) (fun c3 => ?_) (fun c3 => ?_)
    · have hF := fp hF c3
      refine lv_iconst (v := (-1)) C.1 C.2.1 dX6_begin_26 (by decide) ?_
      have hF := Option.some.inj hF
      subst hF
      exact retI C hr hlk hP hD hS dX6_begin_27
    · have hF := fn hF c3
      refine lv_iload_n C.1 C.2.1 dX6_begin_8 rfl (lv_at hl 2 rfl) ?_
      refine lv_sipush (v := 200) C.1 C.2.1 dX6_begin_9 (by decide) ?_
      obtain ⟨r4, h5, hF⟩ := fb hF
      refine callSI C hK hA hP hD hS (c_X6_within  h5) cs_X6_within kw1_227 ⟨Nat.le_of_ble_eq_true rfl, Nat.le_of_ble_eq_true rfl⟩ ⟨Nat.zero_le _, Nat.zero_le _⟩ hl.1 rfl (Nat.le_of_ble_eq_true rfl) dX6_begin_12 (fun H locs hP hD hS => ?_)
      refine lv_if_eq (tgt := 26) C.1 C.2.1 dX6_begin_15 (by decide) (fun c6 => ?_) (fun c6 => ?_)
      · have hF := fp hF c6
        refine lv_iconst (v := (-1)) C.1 C.2.1 dX6_begin_26 (by decide) ?_
        have hF := Option.some.inj hF
        subst hF
        exact retI C hr hlk hP hD hS dX6_begin_27
      · have hF := fn hF c6
        refine lv_iload_n C.1 C.2.1 dX6_begin_18 rfl (lv_at hl 3 rfl) ?_
        refine lv_iconst (v := 1) C.1 C.2.1 dX6_begin_19 (by decide) ?_
        obtain ⟨r7, h8, hF⟩ := fb hF
        refine callSI C hK hA hP hD hS (c_X6_within  h8) cs_X6_within kw1_227 ⟨Nat.le_of_ble_eq_true rfl, Nat.le_of_ble_eq_true rfl⟩ ⟨Nat.zero_le _, Nat.zero_le _⟩ hl.1 rfl (Nat.le_of_ble_eq_true rfl) dX6_begin_20 (fun H locs hP hD hS => ?_)
        refine lv_if_ne (tgt := 28) C.1 C.2.1 dX6_begin_23 (by decide) (fun c9 => ?_) (fun c9 => ?_)
        · have hF := fn hF c9
          refine lv_aload_n C.1 C.2.1 dX6_begin_28 rfl (lv_at hl 0 rfl) ?_
          refine lv_iload_n C.1 C.2.1 dX6_begin_29 rfl (lv_at hl 1 rfl) ?_
          refine lv_iconst (v := 2) C.1 C.2.1 dX6_begin_30 (by decide) ?_
          refine lv_bipush (v := 7) C.1 C.2.1 dX6_begin_31 (by decide) ?_
          refine lv_iload_n C.1 C.2.1 dX6_begin_33 rfl (lv_at hl 2 rfl) ?_
          refine lv_iload_n C.1 C.2.1 dX6_begin_34 rfl (lv_at hl 3 rfl) ?_
          obtain ⟨⟨r10, w11, w12, w13, w14, w15, w16, w17⟩, h18, hF⟩ := fb hF
          refine callVI C hK hA hP hD hS [0, 1, 2, 3, 4, 5, 6, 7, 8, 9, 10, 11, 12, 13, 14] (c_X6_leastLostBy (a_this := a_this) (a_tape := a_tape) (a_now := a_now) (a_trial := a_trial) (a_sights := a_sights) (a_images := a_images) (a_sheets := a_sheets) (a_now_signs := a_now_signs) (a_now_rotors := a_now_rotors) (a_now_rotors_e := a_now_rotors_e) (a_trial_signs := a_trial_signs) (a_trial_rotors := a_trial_rotors) (a_trial_rotors_e := a_trial_rotors_e) (v_readFault := v_readFault) (v_now_field := v_now_field) (v_now_tick := v_now_tick) (v_now_pace := v_now_pace) (v_now_signNumber := v_now_signNumber) (v_now_rotorNumber := v_now_rotorNumber) (v_now_signs := v_now_signs) (v_now_rotorsF := v_now_rotorsF) (v_trial_field := v_trial_field) (v_trial_tick := v_trial_tick) (v_trial_pace := v_trial_pace) (v_trial_signNumber := v_trial_signNumber) (v_trial_rotorNumber := v_trial_rotorNumber) (v_trial_signs := v_trial_signs) (v_trial_rotorsF := v_trial_rotorsF) h18) cv_X6_leastLostBy kw3_42 rfl (by decide) rfl rfl rfl ⟨Nat.le_of_ble_eq_true rfl, Nat.le_of_ble_eq_true rfl⟩ ⟨Nat.zero_le _, Nat.zero_le _⟩ hl.1 rfl (Nat.le_of_ble_eq_true rfl) dX6_begin_35 (fun H locs hP hD hS => ?_)
          have hP : va_P D vwCl [(a_this, .inr (6, [.ref a_tape, .ref a_now, .ref a_trial, .ref a_sights, .ref a_images, .ref a_sheets, .int v_readFault])), (a_now, .inr (0, [.int v_now_field, .int v_now_tick, .int v_now_pace, .int v_now_signNumber, .int v_now_rotorNumber, .ref a_now_signs, .ref a_now_rotors])), (a_now_signs, .inl (cI, 16, .inl v_now_signs)), (a_now_rotors, rfn cR 4 a_now_rotors_e), rcell a_now_rotors_e v_now_rotorsF 0, rcell a_now_rotors_e v_now_rotorsF 1, rcell a_now_rotors_e v_now_rotorsF 2, rcell a_now_rotors_e v_now_rotorsF 3, (a_trial, .inr (0, [.int w11, .int w12, .int w13, .int w14, .int w15, .ref a_trial_signs, .ref a_trial_rotors])), (a_trial_signs, .inl (cI, 16, .inl w16)), (a_trial_rotors, rfn cR 4 a_trial_rotors_e), rcell a_trial_rotors_e w17 0, rcell a_trial_rotors_e w17 1, rcell a_trial_rotors_e w17 2, rcell a_trial_rotors_e w17 3] H := hP
          have hD : va_D A [(a_this, .inr (6, [.ref a_tape, .ref a_now, .ref a_trial, .ref a_sights, .ref a_images, .ref a_sheets, .int v_readFault])), (a_now, .inr (0, [.int v_now_field, .int v_now_tick, .int v_now_pace, .int v_now_signNumber, .int v_now_rotorNumber, .ref a_now_signs, .ref a_now_rotors])), (a_now_signs, .inl (cI, 16, .inl v_now_signs)), (a_now_rotors, rfn cR 4 a_now_rotors_e), rcell a_now_rotors_e v_now_rotorsF 0, rcell a_now_rotors_e v_now_rotorsF 1, rcell a_now_rotors_e v_now_rotorsF 2, rcell a_now_rotors_e v_now_rotorsF 3, (a_trial, .inr (0, [.int w11, .int w12, .int w13, .int w14, .int w15, .ref a_trial_signs, .ref a_trial_rotors])), (a_trial_signs, .inl (cI, 16, .inl w16)), (a_trial_rotors, rfn cR 4 a_trial_rotors_e), rcell a_trial_rotors_e w17 0, rcell a_trial_rotors_e w17 1, rcell a_trial_rotors_e w17 2, rcell a_trial_rotors_e w17 3] := hD
          have hF := Option.some.inj hF
          subst hF
          exact retI C hr hlk hP hD hS dX6_begin_38
        · have hF := fp hF c9
          refine lv_iconst (v := (-1)) C.1 C.2.1 dX6_begin_26 (by decide) ?_
          have hF := Option.some.inj hF
          subst hF
          exact retI C hr hlk hP hD hS dX6_begin_27)
theorem c_X6_begin {l : Launch} {D : va_G} {cI cB cZ cR cM cS : ClassId} {a_this : Nat} {a_tape : Nat} {a_now : Nat} {a_trial : Nat} {a_sights : Nat} {a_images : Nat} {a_sheets : Nat} {a_now_signs : Nat} {a_now_rotors : Nat} {a_now_rotors_e : Nat → Nat} {a_trial_signs : Nat} {a_trial_rotors : Nat} {a_trial_rotors_e : Nat → Nat} {v_readFault : Int32} {v_now_field : Int32} {v_now_tick : Int32} {v_now_pace : Int32} {v_now_signNumber : Int32} {v_now_rotorNumber : Int32} {v_now_signs : Nat → Int32} {v_now_rotorsF : Nat → Rot} {v_trial_field : Int32} {v_trial_tick : Int32} {v_trial_pace : Int32} {v_trial_signNumber : Int32} {v_trial_rotorNumber : Int32} {v_trial_signs : Nat → Int32} {v_trial_rotorsF : Nat → Rot} {x1 : Int32} {x2 : Int32} {x3 : Int32} {r_ : Int32} {v_trial_field' : Int32} {v_trial_tick' : Int32} {v_trial_pace' : Int32} {v_trial_signNumber' : Int32} {v_trial_rotorNumber' : Int32} {v_trial_signs' : Nat → Int32} {v_trial_rotorsF' : Nat → Rot} (hF : F_X6_begin v_now_field v_now_tick v_now_pace v_now_signNumber v_now_rotorNumber v_now_signs v_now_rotorsF v_trial_field v_trial_tick v_trial_pace v_trial_signNumber v_trial_rotorNumber v_trial_signs v_trial_rotorsF x1 x2 x3 = some (r_, v_trial_field', v_trial_tick', v_trial_pace', v_trial_signNumber', v_trial_rotorNumber', v_trial_signs', v_trial_rotorsF')) : MI l yX6_begin cX6_begin 4 .int rm_X6_begin D (TS cI cB cZ cR cM cS) [.ref a_this, .int x1, .int x2, .int x3] [(a_this, .inr (6, [.ref a_tape, .ref a_now, .ref a_trial, .ref a_sights, .ref a_images, .ref a_sheets, .int v_readFault])), (a_now, .inr (0, [.int v_now_field, .int v_now_tick, .int v_now_pace, .int v_now_signNumber, .int v_now_rotorNumber, .ref a_now_signs, .ref a_now_rotors])), (a_now_signs, .inl (cI, 16, .inl v_now_signs)), (a_now_rotors, rfn cR 4 a_now_rotors_e), rcell a_now_rotors_e v_now_rotorsF 0, rcell a_now_rotors_e v_now_rotorsF 1, rcell a_now_rotors_e v_now_rotorsF 2, rcell a_now_rotors_e v_now_rotorsF 3, (a_trial, .inr (0, [.int v_trial_field, .int v_trial_tick, .int v_trial_pace, .int v_trial_signNumber, .int v_trial_rotorNumber, .ref a_trial_signs, .ref a_trial_rotors])), (a_trial_signs, .inl (cI, 16, .inl v_trial_signs)), (a_trial_rotors, rfn cR 4 a_trial_rotors_e), rcell a_trial_rotors_e v_trial_rotorsF 0, rcell a_trial_rotors_e v_trial_rotorsF 1, rcell a_trial_rotors_e v_trial_rotorsF 2, rcell a_trial_rotors_e v_trial_rotorsF 3] [(a_this, .inr (6, [.ref a_tape, .ref a_now, .ref a_trial, .ref a_sights, .ref a_images, .ref a_sheets, .int v_readFault])), (a_now, .inr (0, [.int v_now_field, .int v_now_tick, .int v_now_pace, .int v_now_signNumber, .int v_now_rotorNumber, .ref a_now_signs, .ref a_now_rotors])), (a_now_signs, .inl (cI, 16, .inl v_now_signs)), (a_now_rotors, rfn cR 4 a_now_rotors_e), rcell a_now_rotors_e v_now_rotorsF 0, rcell a_now_rotors_e v_now_rotorsF 1, rcell a_now_rotors_e v_now_rotorsF 2, rcell a_now_rotors_e v_now_rotorsF 3, (a_trial, .inr (0, [.int v_trial_field', .int v_trial_tick', .int v_trial_pace', .int v_trial_signNumber', .int v_trial_rotorNumber', .ref a_trial_signs, .ref a_trial_rotors])), (a_trial_signs, .inl (cI, 16, .inl v_trial_signs')), (a_trial_rotors, rfn cR 4 a_trial_rotors_e), rcell a_trial_rotors_e v_trial_rotorsF' 0, rcell a_trial_rotors_e v_trial_rotorsF' 1, rcell a_trial_rotors_e v_trial_rotorsF' 2, rcell a_trial_rotors_e v_trial_rotorsF' 3] r_ :=
  c0_X6_begin (res := (r_, v_trial_field', v_trial_tick', v_trial_pace', v_trial_signNumber', v_trial_rotorNumber', v_trial_signs', v_trial_rotorsF')) hF
def rm_X6_power : Room := { frames := 0, cells := 0, slots := 0, locals := 0 }
theorem cs_X6_power : CS yX6_power cX6_power 5 (some .long) rm_X6_power RX6 2 := ⟨kw3_85, kw1_1, kw3_86, by decide +kernel, rfl, rfl⟩
set_option maxHeartbeats 4000000 in
set_option maxRecDepth 100000 in
theorem b_X6_power_5 {l : Launch} {D : va_G} {cI cB cZ cR cM cS : ClassId} {p : Program} {e : Env} {s : State} {m : MethodId} {args : Array Value} {below : List Frame} {meth : Method} {c : Code} {A : Nat → Prop} {res : Int64} (C : CX p m c cX6_power 5 s args RX6) (hr : meth.sig.returnType = (some .long)) (hlk : meth.locks = false) (hK : KK D (TS cI cB cZ cR cM cS) s) (hA : ∀ q, s.heap.size ≤ q → A q) : ∀ (fu : Nat) (x0 : Int32) (x1 : Int32) (x2 : Int64) (x4 : Int32) (H : Heap) (locs : List Loc) (ls : Array Slot), F_X6_power_5 fu x0 x1 x2 x4 = some res → va_P D vwCl [] H → va_D A [] → va_S A s.heap H locs → lv_has ls 5 [(0, .int x0), (1, .int x1), (2, .long x2), (4, .int x4)] → W p l e rm_X6_power s m args below meth c H locs 0 0 (MQ below (va_Ql (fun x (_ : Unit) => x = res) (BW D A []) A) args s 0 0 A) (F0 m 5 ls []) := by
  intro fu
  induction fu with
  | zero => intro x0 x1 x2 x4 H locs ls hF; cases hF
  | succ fu ih =>
    intro x0 x1 x2 x4 H locs ls hF  hP hD hS hl
    unfold F_X6_power_5 at hF
    refine lv_iload C.1 C.2.1 dX6_power_5 (lv_at hl 3 rfl) ?_
    refine lv_iload_n C.1 C.2.1 dX6_power_7 rfl (lv_at hl 1 rfl) ?_
    refine lv_icmp_ge (tgt := 22) C.1 C.2.1 dX6_power_8 (by decide) (fun c1 => ?_) (fun c1 => ?_)
    · have hF := fp hF c1
      refine lv_lload_n C.1 C.2.1 dX6_power_22 rfl (lv_at hl 2 rfl) ?_
      have hF := Option.some.inj hF
      subst hF
      exact retL C hr hlk hP hD hS dX6_power_23
    · have hF := fn hF c1
      refine lv_lload_n C.1 C.2.1 dX6_power_11 rfl (lv_at hl 2 rfl) ?_
      refine lv_iload_n C.1 C.2.1 dX6_power_12 rfl (lv_at hl 0 rfl) ?_
      refine lv_i2l (v := x0.toInt64) C.1 C.2.1 dX6_power_13 rfl ?_
      refine lv_lmul C.1 C.2.1 dX6_power_14 ?_
      refine lv_lstore_n (lv' := [(2, .long (x2 * x0.toInt64)), (0, .int x0), (1, .int x1), (4, .int x4)]) C.1 C.2.1 dX6_power_15 rfl hl (by decide) rfl (fun ls hl => ?_)
      refine lv_iinc (v := x4 + 1) (lv' := [(4, .int (x4 + 1)), (2, .long (x2 * x0.toInt64)), (0, .int x0), (1, .int x1)]) C.1 C.2.1 dX6_power_16 hl (k := 3) rfl rfl (by decide) rfl (fun ls hl => ?_)
      refine lv_goto (tgt := 5) C.1 C.2.1 dX6_power_19 (by decide) ?_
      exact ih x0 x1 (x2 * x0.toInt64) (x4 + 1) _ _ _ hF hP hD hS (lv_sub hl [2, 3, 1, 0] rfl)
set_option maxHeartbeats 4000000 in
set_option maxRecDepth 100000 in
theorem c_X6_power {l : Launch} {D : va_G} {cI cB cZ cR cM cS : ClassId} {x0 : Int32} {x1 : Int32} {res : Int64} (hF : F_X6_power x0 x1 = some res) : ML l yX6_power cX6_power 5 rm_X6_power D (TS cI cB cZ cR cM cS) [.int x0, .int x1] [] [] res :=
  ML_of (by decide) (Nat.le_of_ble_eq_true rfl) (fun p e s m args below meth c A ls C hr hlk hK hA hP hD hS hl => by
    have C : CX p m c cX6_power 5 s args RX6 := C
    have hl : lv_has ls 5 [(0, .int x0), (1, .int x1)] := hl
    unfold F_X6_power at hF
    refine lv_lconst (v := 1) C.1 C.2.1 dX6_power_0 rfl ?_
    refine lv_lstore_n (lv' := [(2, .long (1 : Int64)), (0, .int x0), (1, .int x1)]) C.1 C.2.1 dX6_power_1 rfl hl (by decide) rfl (fun ls hl => ?_)
    refine lv_iconst (v := 0) C.1 C.2.1 dX6_power_2 (by decide) ?_
    refine lv_istore (lv' := [(4, .int (0 : Int32)), (2, .long (1 : Int64)), (0, .int x0), (1, .int x1)]) C.1 C.2.1 dX6_power_3 hl (by decide) rfl (fun ls hl => ?_)
    exact b_X6_power_5 C hr hlk hK hA FU x0 x1 (1 : Int64) (0 : Int32) _ _ _ hF hP hD hS (lv_sub hl [2, 3, 1, 0] rfl))
def rm_X6_inLowestTerms : Room := { frames := 1, cells := 0, slots := 0, locals := 23 }
theorem cs_X6_inLowestTerms : CS yX6_inLowestTerms cX6_inLowestTerms 12 (some .long) rm_X6_inLowestTerms RX6 3 := ⟨kw3_88, kw1_1, kw3_89, by decide +kernel, rfl, rfl⟩
set_option maxHeartbeats 4000000 in
set_option maxRecDepth 100000 in
theorem b_X6_inLowestTerms_45 {l : Launch} {D : va_G} {cI cB cZ cR cM cS : ClassId} {p : Program} {e : Env} {s : State} {m : MethodId} {args : Array Value} {below : List Frame} {meth : Method} {c : Code} {A : Nat → Prop} {res : Int64} (C : CX p m c cX6_inLowestTerms 12 s args RX6) (hr : meth.sig.returnType = (some .long)) (hlk : meth.locks = false) (hK : KK D (TS cI cB cZ cR cM cS) s) (hA : ∀ q, s.heap.size ≤ q → A q) : ∀ (x0 : Int64) (x2 : Int64) (x4 : Int32) (x5 : Int64) (H : Heap) (locs : List Loc) (ls : Array Slot), F_X6_inLowestTerms_45 x0 x2 x4 x5 = some res → va_P D vwCl [] H → va_D A [] → va_S A s.heap H locs → lv_has ls 12 [(0, .long x0), (2, .long x2), (4, .int x4), (5, .long x5)] → W p l e rm_X6_inLowestTerms s m args below meth c H locs 0 0 (MQ below (va_Ql (fun x (_ : Unit) => x = res) (BW D A []) A) args s 0 0 A) (F0 m 45 ls []) := by
  intro x0 x2 x4 x5 H locs ls hF  hP hD hS hl
  unfold F_X6_inLowestTerms_45 at hF
  refine lv_lconst (v := 1) C.1 C.2.1 dX6_inLowestTerms_45 rfl ?_
  refine lv_lload C.1 C.2.1 dX6_inLowestTerms_46 (lv_at hl 3 rfl) ?_
  refine va_mmax_long C.1 C.2.1 (C.2.2.1.trans hl.1.symm) C.2.2.2.1 (C.2.2.2.2 _ kw3_90) (C.2.2.2.2 _ kw3_91) (C.2.2.2.2 _ kw1_14) (C.2.2.2.2 _ kw3_92) (Nat.le_of_ble_eq_true rfl) (Nat.le_of_ble_eq_true rfl) (Nat.zero_le _) (Nat.zero_le _) dX6_inLowestTerms_48 ?_
  refine lv_lstore (lv' := [(9, .long (lmax (1 : Int64) x5)), (0, .long x0), (2, .long x2), (4, .int x4), (5, .long x5)]) C.1 C.2.1 dX6_inLowestTerms_51 hl (by decide) rfl (fun ls hl => ?_)
  refine lv_iload C.1 C.2.1 dX6_inLowestTerms_53 (lv_at hl 3 rfl) ?_
  refine lv_if_ne (tgt := 62) C.1 C.2.1 dX6_inLowestTerms_55 (by decide) (fun c1 => ?_) (fun c1 => ?_)
  · have hF := fn hF c1
    refine lv_lload_n C.1 C.2.1 dX6_inLowestTerms_62 rfl (lv_at hl 2 rfl) ?_
    refine lv_lload C.1 C.2.1 dX6_inLowestTerms_63 (lv_at hl 0 rfl) ?_
    obtain ⟨h2, hF⟩ := fk hF
    refine lv_ldiv C.1 C.2.1 dX6_inLowestTerms_65 h2 ?_
    have hF := Option.some.inj hF
    subst hF
    exact retL C hr hlk hP hD hS dX6_inLowestTerms_66
  · have hF := fp hF c1
    refine lv_lload_n C.1 C.2.1 dX6_inLowestTerms_58 rfl (lv_at hl 1 rfl) ?_
    refine lv_goto (tgt := 63) C.1 C.2.1 dX6_inLowestTerms_59 (by decide) ?_
    refine lv_lload C.1 C.2.1 dX6_inLowestTerms_63 (lv_at hl 0 rfl) ?_
    obtain ⟨h3, hF⟩ := fk hF
    refine lv_ldiv C.1 C.2.1 dX6_inLowestTerms_65 h3 ?_
    have hF := Option.some.inj hF
    subst hF
    exact retL C hr hlk hP hD hS dX6_inLowestTerms_66
set_option maxHeartbeats 4000000 in
set_option maxRecDepth 100000 in
theorem b_X6_inLowestTerms_9 {l : Launch} {D : va_G} {cI cB cZ cR cM cS : ClassId} {p : Program} {e : Env} {s : State} {m : MethodId} {args : Array Value} {below : List Frame} {meth : Method} {c : Code} {A : Nat → Prop} {res : Int64} (C : CX p m c cX6_inLowestTerms 12 s args RX6) (hr : meth.sig.returnType = (some .long)) (hlk : meth.locks = false) (hK : KK D (TS cI cB cZ cR cM cS) s) (hA : ∀ q, s.heap.size ≤ q → A q) : ∀ (fu : Nat) (x0 : Int64) (x2 : Int64) (x4 : Int32) (x5 : Int64) (x7 : Int64) (x9 : Int32) (H : Heap) (locs : List Loc) (ls : Array Slot), F_X6_inLowestTerms_9 fu x0 x2 x4 x5 x7 x9 = some res → va_P D vwCl [] H → va_D A [] → va_S A s.heap H locs → lv_has ls 12 [(0, .long x0), (2, .long x2), (4, .int x4), (5, .long x5), (7, .long x7), (9, .int x9)] → W p l e rm_X6_inLowestTerms s m args below meth c H locs 0 0 (MQ below (va_Ql (fun x (_ : Unit) => x = res) (BW D A []) A) args s 0 0 A) (F0 m 9 ls []) := by
  intro fu
  induction fu with
  | zero => intro x0 x2 x4 x5 x7 x9 H locs ls hF; cases hF
  | succ fu ih =>
    intro x0 x2 x4 x5 x7 x9 H locs ls hF  hP hD hS hl
    unfold F_X6_inLowestTerms_9 at hF
    refine lv_iload C.1 C.2.1 dX6_inLowestTerms_9 (lv_at hl 5 rfl) ?_
    refine lv_sipush (v := 1000) C.1 C.2.1 dX6_inLowestTerms_11 (by decide) ?_
    refine lv_icmp_ge (tgt := 45) C.1 C.2.1 dX6_inLowestTerms_14 (by decide) (fun c1 => ?_) (fun c1 => ?_)
    · have hF := fp hF c1
      exact b_X6_inLowestTerms_45 C hr hlk hK hA x0 x2 x4 x5 _ _ _ hF hP hD hS (lv_sub hl [0, 1, 2, 3] rfl)
    · have hF := fn hF c1
      refine lv_lload C.1 C.2.1 dX6_inLowestTerms_17 (lv_at hl 4 rfl) ?_
      refine lv_lconst (v := 0) C.1 C.2.1 dX6_inLowestTerms_19 rfl ?_
      refine W.lcmp C.1 C.2.1 dX6_inLowestTerms_20 ?_
      refine lv_if_eq (tgt := 45) C.1 C.2.1 dX6_inLowestTerms_21 (by decide) (fun c2 => ?_) (fun c2 => ?_)
      · have hF := fp hF c2
        exact b_X6_inLowestTerms_45 C hr hlk hK hA x0 x2 x4 x5 _ _ _ hF hP hD hS (lv_sub hl [0, 1, 2, 3] rfl)
      · have hF := fn hF c2
        refine lv_lload C.1 C.2.1 dX6_inLowestTerms_24 (lv_at hl 3 rfl) ?_
        refine lv_lload C.1 C.2.1 dX6_inLowestTerms_26 (lv_at hl 4 rfl) ?_
        obtain ⟨h3, hF⟩ := fk hF
        refine lv_lrem C.1 C.2.1 dX6_inLowestTerms_28 h3 ?_
        refine lv_lstore (lv' := [(10, .long (lrem x5 x7)), (0, .long x0), (2, .long x2), (4, .int x4), (5, .long x5), (7, .long x7), (9, .int x9)]) C.1 C.2.1 dX6_inLowestTerms_29 hl (by decide) rfl (fun ls hl => ?_)
        refine lv_lload C.1 C.2.1 dX6_inLowestTerms_31 (lv_at hl 5 rfl) ?_
        refine lv_lstore (lv' := [(5, .long x7), (10, .long (lrem x5 x7)), (0, .long x0), (2, .long x2), (4, .int x4), (7, .long x7), (9, .int x9)]) C.1 C.2.1 dX6_inLowestTerms_33 hl (by decide) rfl (fun ls hl => ?_)
        refine lv_lload C.1 C.2.1 dX6_inLowestTerms_35 (lv_at hl 1 rfl) ?_
        refine lv_lstore (lv' := [(7, .long (lrem x5 x7)), (5, .long x7), (10, .long (lrem x5 x7)), (0, .long x0), (2, .long x2), (4, .int x4), (9, .int x9)]) C.1 C.2.1 dX6_inLowestTerms_37 hl (by decide) rfl (fun ls hl => ?_)
        refine lv_iinc (v := x9 + 1) (lv' := [(9, .int (x9 + 1)), (7, .long (lrem x5 x7)), (5, .long x7), (10, .long (lrem x5 x7)), (0, .long x0), (2, .long x2), (4, .int x4)]) C.1 C.2.1 dX6_inLowestTerms_39 hl (k := 6) rfl rfl (by decide) rfl (fun ls hl => ?_)
        refine lv_goto (tgt := 9) C.1 C.2.1 dX6_inLowestTerms_42 (by decide) ?_
        exact ih x0 x2 x4 x7 (lrem x5 x7) (x9 + 1) _ _ _ hF hP hD hS (lv_sub hl [4, 5, 6, 2, 1, 0] rfl)
set_option maxHeartbeats 4000000 in
set_option maxRecDepth 100000 in
theorem c_X6_inLowestTerms {l : Launch} {D : va_G} {cI cB cZ cR cM cS : ClassId} {x0 : Int64} {x2 : Int64} {x4 : Int32} {res : Int64} (hF : F_X6_inLowestTerms x0 x2 x4 = some res) : ML l yX6_inLowestTerms cX6_inLowestTerms 12 rm_X6_inLowestTerms D (TS cI cB cZ cR cM cS) [.long x0, .long x2, .int x4] [] [] res :=
  ML_of (by decide) (Nat.le_of_ble_eq_true rfl) (fun p e s m args below meth c A ls C hr hlk hK hA hP hD hS hl => by
    have C : CX p m c cX6_inLowestTerms 12 s args RX6 := C
    have hl : lv_has ls 12 [(0, .long x0), (2, .long x2), (4, .int x4)] := hl
    unfold F_X6_inLowestTerms at hF
    refine lv_lload_n C.1 C.2.1 dX6_inLowestTerms_0 rfl (lv_at hl 0 rfl) ?_
    refine lv_lstore (lv' := [(5, .long x0), (0, .long x0), (2, .long x2), (4, .int x4)]) C.1 C.2.1 dX6_inLowestTerms_1 hl (by decide) rfl (fun ls hl => ?_)
    refine lv_lload_n C.1 C.2.1 dX6_inLowestTerms_3 rfl (lv_at hl 2 rfl) ?_
    refine lv_lstore (lv' := [(7, .long x2), (5, .long x0), (0, .long x0), (2, .long x2), (4, .int x4)]) C.1 C.2.1 dX6_inLowestTerms_4 hl (by decide) rfl (fun ls hl => ?_)
    refine lv_iconst (v := 0) C.1 C.2.1 dX6_inLowestTerms_6 (by decide) ?_
    refine lv_istore (lv' := [(9, .int (0 : Int32)), (7, .long x2), (5, .long x0), (0, .long x0), (2, .long x2), (4, .int x4)]) C.1 C.2.1 dX6_inLowestTerms_7 hl (by decide) rfl (fun ls hl => ?_)
    exact b_X6_inLowestTerms_9 C hr hlk hK hA FU x0 x2 x4 x0 x2 (0 : Int32) _ _ _ hF hP hD hS (lv_sub hl [3, 4, 5, 2, 1, 0] rfl))
def rm_X6_weightOf : Room := { frames := 1, cells := 0, slots := 0, locals := 24 }
theorem cs_X6_weightOf : CS yX6_weightOf cX6_weightOf 3 (some .long) rm_X6_weightOf RX6 3 := ⟨kw3_82, kw1_1, kw3_83, by decide +kernel, rfl, rfl⟩
set_option maxHeartbeats 4000000 in
set_option maxRecDepth 100000 in
theorem c_X6_weightOf {l : Launch} {D : va_G} {cI cB cZ cR cM cS : ClassId} {x0 : Int32} {x1 : Int32} {x2 : Int32} {res : Int64} (hF : F_X6_weightOf x0 x1 x2 = some res) : ML l yX6_weightOf cX6_weightOf 3 rm_X6_weightOf D (TS cI cB cZ cR cM cS) [.int x0, .int x1, .int x2] [] [] res :=
  ML_of (by decide) (Nat.le_of_ble_eq_true rfl) (fun p e s m args below meth c A ls C hr hlk hK hA hP hD hS hl => by
    have C : CX p m c cX6_weightOf 3 s args RX6 := C
    have hl : lv_has ls 3 [(0, .int x0), (1, .int x1), (2, .int x2)] := hl
    unfold F_X6_weightOf at hF
    refine lv_iload_n C.1 C.2.1 dX6_weightOf_0 rfl (lv_at hl 0 rfl) ?_
    refine lv_iload_n C.1 C.2.1 dX6_weightOf_1 rfl (lv_at hl 2 rfl) ?_
    obtain ⟨r1, h2, hF⟩ := fb hF
    refine callSL C hK hA hP hD hS (c_X6_power  h2) cs_X6_power kw3_84 ⟨Nat.le_of_ble_eq_true rfl, Nat.le_of_ble_eq_true rfl⟩ ⟨Nat.zero_le _, Nat.zero_le _⟩ hl.1 rfl (Nat.le_of_ble_eq_true rfl) dX6_weightOf_2 (fun H locs hP hD hS => ?_)
    refine lv_bipush (v := 10) C.1 C.2.1 dX6_weightOf_5 (by decide) ?_
    refine lv_iload_n C.1 C.2.1 dX6_weightOf_7 rfl (lv_at hl 0 rfl) ?_
    refine lv_isub C.1 C.2.1 dX6_weightOf_8 ?_
    refine lv_iload_n C.1 C.2.1 dX6_weightOf_9 rfl (lv_at hl 1 rfl) ?_
    refine lv_iload_n C.1 C.2.1 dX6_weightOf_10 rfl (lv_at hl 2 rfl) ?_
    refine lv_isub C.1 C.2.1 dX6_weightOf_11 ?_
    obtain ⟨r3, h4, hF⟩ := fb hF
    refine callSL C hK hA hP hD hS (c_X6_power  h4) cs_X6_power kw3_84 ⟨Nat.le_of_ble_eq_true rfl, Nat.le_of_ble_eq_true rfl⟩ ⟨Nat.zero_le _, Nat.zero_le _⟩ hl.1 rfl (Nat.le_of_ble_eq_true rfl) dX6_weightOf_12 (fun H locs hP hD hS => ?_)
    refine lv_lmul C.1 C.2.1 dX6_weightOf_15 ?_
    have hF := Option.some.inj hF
    subst hF
    exact retL C hr hlk hP hD hS dX6_weightOf_16)
