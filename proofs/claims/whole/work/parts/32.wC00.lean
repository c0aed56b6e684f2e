def rm_X6_within : Room := { frames := 0, cells := 0, slots := 0, locals := 0 }
theorem cs_X6_within : CS yX6_within cX6_within 2 (some .boolean) rm_X6_within RX6 2 := ⟨kw1_228, kw1_1, kw1_229, by decide +kernel, rfl, rfl⟩
set_option maxHeartbeats 4000000 in
set_option maxRecDepth 100000 in
theorem c_X6_within {l : Launch} {D : va_G} {cI cB cZ cR cM cS : ClassId} {x0 : Int32} {x1 : Int32} {res : Int32} (hF : F_X6_within x0 x1 = some res) : MI l yX6_within cX6_within 2 .boolean rm_X6_within D (TS cI cB cZ cR cM cS) [.int x0, .int x1] [] [] res :=
  MI_of (by decide) (Nat.le_of_ble_eq_true rfl) (fun p e s m args below meth c A ls C hr hlk hK hA hP hD hS hl => by
    have C : CX p m c cX6_within 2 s args RX6 := C
    have hl : lv_has ls 2 [(0, .int x0), (1, .int x1)] := hl
    unfold F_X6_within at hF
    refine lv_iload_n C.1 C.2.1 dX6_within_0 rfl (lv_at hl 0 rfl) ?_
    refine lv_if_lt (tgt := 13) C.1 C.2.1 dX6_within_1 (by decide) (fun c1 => ?_) (fun c1 => ?_)
    · have hF := fp hF c1
      refine lv_iconst (v := 0) C.1 C.2.1 dX6_within_13 (by decide) ?_
      have hF := Option.some.inj hF
      subst hF
      exact retZ (v := 0) C hr hlk (by decide) hP hD hS dX6_within_14
    · have hF := fn hF c1
      refine lv_iload_n C.1 C.2.1 dX6_within_4 rfl (lv_at hl 0 rfl) ?_
      refine lv_iload_n C.1 C.2.1 dX6_within_5 rfl (lv_at hl 1 rfl) ?_
      refine lv_icmp_gt (tgt := 13) C.1 C.2.1 dX6_within_6 (by decide) (fun c2 => ?_) (fun c2 => ?_)
      · have hF := fp hF c2
        refine lv_iconst (v := 0) C.1 C.2.1 dX6_within_13 (by decide) ?_
        have hF := Option.some.inj hF
        subst hF
        exact retZ (v := 0) C hr hlk (by decide) hP hD hS dX6_within_14
      · have hF := fn hF c2
        refine lv_iconst (v := 1) C.1 C.2.1 dX6_within_9 (by decide) ?_
        refine lv_goto (tgt := 14) C.1 C.2.1 dX6_within_10 (by decide) ?_
        have hF := Option.some.inj hF
        subst hF
        exact retZ (v := 1) C hr hlk (by decide) hP hD hS dX6_within_14)
def rm_X6_feed : Room := { frames := 1, cells := 0, slots := 0, locals := 21 }
theorem cv_X6_feed : CV yX6_feed cX6_feed 2 (some .int) rm_X6_feed RX6 1 := ⟨kw1_224, kw1_225, kw1_1, kw1_226, by decide +kernel, rfl, rfl⟩
set_option maxHeartbeats 4000000 in
set_option maxRecDepth 100000 in
theorem c0_X6_feed {l : Launch} {D : va_G} {cI cB cZ cR cM cS : ClassId} {a_this : Nat} {a_tape : Nat} {a_now : Nat} {a_trial : Nat} {a_sights : Nat} {a_images : Nat} {a_sheets : Nat} {a_tape_bytes : Nat} {a_tape_draft : Nat} {v_readFault : Int32} {v_tape_length : Int32} {v_tape_fault : Int32} {v_tape_faultPlace : Int32} {v_tape_token : Int32} {v_tape_start : Int32} {v_tape_next : Int32} {v_tape_value : Int32} {v_tape_signsTold : Int32} {v_tape_everyTold : Int32} {v_tape_bytes : Nat → Int32} {x1 : Int32} {res : Int32 × Int32 × (Nat → Int32)} (hF : F_X6_feed v_tape_length v_tape_bytes x1 = some res) : MI l yX6_feed cX6_feed 2 .int rm_X6_feed D (TS cI cB cZ cR cM cS) [.ref a_this, .int x1] [(a_this, .inr (6, [.ref a_tape, .ref a_now, .ref a_trial, .ref a_sights, .ref a_images, .ref a_sheets, .int v_readFault])), (a_tape, .inr (5, [.ref a_tape_bytes, .int v_tape_length, .ref a_tape_draft, .int v_tape_fault, .int v_tape_faultPlace, .int v_tape_token, .int v_tape_start, .int v_tape_next, .int v_tape_value, .int v_tape_signsTold, .int v_tape_everyTold])), (a_tape_bytes, .inl (cB, 160, .inl v_tape_bytes))] [(a_this, .inr (6, [.ref a_tape, .ref a_now, .ref a_trial, .ref a_sights, .ref a_images, .ref a_sheets, .int v_readFault])), (a_tape, .inr (5, [.ref a_tape_bytes, .int res.2.1, .ref a_tape_draft, .int v_tape_fault, .int v_tape_faultPlace, .int v_tape_token, .int v_tape_start, .int v_tape_next, .int v_tape_value, .int v_tape_signsTold, .int v_tape_everyTold])), (a_tape_bytes, .inl (cB, 160, .inl res.2.2))] res.1 :=
  MI_of (by decide) (Nat.le_of_ble_eq_true rfl) (fun p e s m args below meth c A ls C hr hlk hK hA hP hD hS hl => by
    have C : CX p m c cX6_feed 2 s args RX6 := C
    have hl : lv_has ls 2 [(0, .ref a_this), (1, .int x1)] := hl
    unfold F_X6_feed at hF
    refine lv_iload_n C.1 C.2.1 dX6_feed_0 rfl (lv_at hl 1 rfl) ?_
    refine lv_bipush (v := 127) C.1 C.2.1 dX6_feed_1 (by decide) ?_
    obtain ⟨r1, h2, hF⟩ := fb hF
    refine callSI C hK hA hP hD hS (c_X6_within  h2) cs_X6_within kw1_227 ⟨Nat.le_of_ble_eq_true rfl, Nat.le_of_ble_eq_true rfl⟩ ⟨Nat.zero_le _, Nat.zero_le _⟩ hl.1 rfl (Nat.le_of_ble_eq_true rfl) dX6_feed_3 (fun H locs hP hD hS => ?_)
    refine lv_if_ne (tgt := 11) C.1 C.2.1 dX6_feed_6 (by decide) (fun c3 => ?_) (fun c3 => ?_)
    · have hF := fn hF c3
      refine lv_aload_n C.1 C.2.1 dX6_feed_11 rfl (lv_at hl 0 rfl) ?_
      refine gf_6_6_tape C hK hP 0 rfl rfl dX6_feed_12 ?_
      refine gf_6_5_length C hK hP 1 rfl rfl dX6_feed_15 ?_
      refine lv_sipush (v := 160) C.1 C.2.1 dX6_feed_18 (by decide) ?_
      refine lv_icmp_lt (tgt := 27) C.1 C.2.1 dX6_feed_21 (by decide) (fun c4 => ?_) (fun c4 => ?_)
      · have hF := fp hF c4
        refine lv_aload_n C.1 C.2.1 dX6_feed_27 rfl (lv_at hl 0 rfl) ?_
        refine gf_6_6_tape C hK hP 0 rfl rfl dX6_feed_28 ?_
        refine gf_6_5_bytes C hK hP 1 rfl rfl dX6_feed_31 ?_
        refine lv_aload_n C.1 C.2.1 dX6_feed_34 rfl (lv_at hl 0 rfl) ?_
        refine gf_6_6_tape C hK hP 0 rfl rfl dX6_feed_35 ?_
        refine gf_6_5_length C hK hP 1 rfl rfl dX6_feed_38 ?_
        refine lv_iload_n C.1 C.2.1 dX6_feed_41 rfl (lv_at hl 1 rfl) ?_
        refine lv_i2b (v := x1.toInt8.toInt32) C.1 C.2.1 dX6_feed_42 rfl ?_
        obtain ⟨h5, hF⟩ := fk hF
        refine va_bast C.1 C.2.1 hK.1 hP hD hS 2 1 rfl rfl h5 dX6_feed_43 (fun H locs hP hD hS => ?_)
        have hP : va_P D vwCl [(a_this, .inr (6, [.ref a_tape, .ref a_now, .ref a_trial, .ref a_sights, .ref a_images, .ref a_sheets, .int v_readFault])), (a_tape, .inr (5, [.ref a_tape_bytes, .int v_tape_length, .ref a_tape_draft, .int v_tape_fault, .int v_tape_faultPlace, .int v_tape_token, .int v_tape_start, .int v_tape_next, .int v_tape_value, .int v_tape_signsTold, .int v_tape_everyTold])), (a_tape_bytes, .inl (cB, 160, .inl (upd v_tape_bytes v_tape_length.toNatClampNeg (vp_nar .byte x1.toInt8.toInt32))))] H := hP
        have hD : va_D A [(a_this, .inr (6, [.ref a_tape, .ref a_now, .ref a_trial, .ref a_sights, .ref a_images, .ref a_sheets, .int v_readFault])), (a_tape, .inr (5, [.ref a_tape_bytes, .int v_tape_length, .ref a_tape_draft, .int v_tape_fault, .int v_tape_faultPlace, .int v_tape_token, .int v_tape_start, .int v_tape_next, .int v_tape_value, .int v_tape_signsTold, .int v_tape_everyTold])), (a_tape_bytes, .inl (cB, 160, .inl (upd v_tape_bytes v_tape_length.toNatClampNeg (vp_nar .byte x1.toInt8.toInt32))))] := hD
        refine lv_aload_n C.1 C.2.1 dX6_feed_44 rfl (lv_at hl 0 rfl) ?_
        refine gf_6_6_tape C hK hP 0 rfl rfl dX6_feed_45 ?_
        refine lv_dup C.1 C.2.1 dX6_feed_48 rfl ?_
        refine gf_6_5_length C hK hP 1 rfl rfl dX6_feed_49 ?_
        refine lv_iconst (v := 1) C.1 C.2.1 dX6_feed_52 (by decide) ?_
        refine lv_iadd C.1 C.2.1 dX6_feed_53 ?_
        refine pf_6_5_length C hK hP hD hS 1 rfl rfl dX6_feed_54 (fun H locs hP hD hS => ?_)
        have hP : va_P D vwCl [(a_this, .inr (6, [.ref a_tape, .ref a_now, .ref a_trial, .ref a_sights, .ref a_images, .ref a_sheets, .int v_readFault])), (a_tape, .inr (5, [.ref a_tape_bytes, .int (v_tape_length + (1 : Int32)), .ref a_tape_draft, .int v_tape_fault, .int v_tape_faultPlace, .int v_tape_token, .int v_tape_start, .int v_tape_next, .int v_tape_value, .int v_tape_signsTold, .int v_tape_everyTold])), (a_tape_bytes, .inl (cB, 160, .inl (upd v_tape_bytes v_tape_length.toNatClampNeg (vp_nar .byte x1.toInt8.toInt32))))] H := hP
        have hD : va_D A [(a_this, .inr (6, [.ref a_tape, .ref a_now, .ref a_trial, .ref a_sights, .ref a_images, .ref a_sheets, .int v_readFault])), (a_tape, .inr (5, [.ref a_tape_bytes, .int (v_tape_length + (1 : Int32)), .ref a_tape_draft, .int v_tape_fault, .int v_tape_faultPlace, .int v_tape_token, .int v_tape_start, .int v_tape_next, .int v_tape_value, .int v_tape_signsTold, .int v_tape_everyTold])), (a_tape_bytes, .inl (cB, 160, .inl (upd v_tape_bytes v_tape_length.toNatClampNeg (vp_nar .byte x1.toInt8.toInt32))))] := hD
        refine lv_aload_n C.1 C.2.1 dX6_feed_57 rfl (lv_at hl 0 rfl) ?_
        refine gf_6_6_tape C hK hP 0 rfl rfl dX6_feed_58 ?_
        refine gf_6_5_length C hK hP 1 rfl rfl dX6_feed_61 ?_
        have hF := Option.some.inj hF
        subst hF
        exact retI C hr hlk hP hD hS dX6_feed_64
      · have hF := fn hF c4
        refine lv_bipush (v := (-3)) C.1 C.2.1 dX6_feed_24 (by decide) ?_
        have hF := Option.some.inj hF
        subst hF
        exact retI C hr hlk hP hD hS dX6_feed_26
    · have hF := fp hF c3
      refine lv_iconst (v := (-1)) C.1 C.2.1 dX6_feed_9 (by decide) ?_
      have hF := Option.some.inj hF
      subst hF
      exact retI C hr hlk hP hD hS dX6_feed_10)
theorem c_X6_feed {l : Launch} {D : va_G} {cI cB cZ cR cM cS : ClassId} {a_this : Nat} {a_tape : Nat} {a_now : Nat} {a_trial : Nat} {a_sights : Nat} {a_images : Nat} {a_sheets : Nat} {a_tape_bytes : Nat} {a_tape_draft : Nat} {v_readFault : Int32} {v_tape_length : Int32} {v_tape_fault : Int32} {v_tape_faultPlace : Int32} {v_tape_token : Int32} {v_tape_start : Int32} {v_tape_next : Int32} {v_tape_value : Int32} {v_tape_signsTold : Int32} {v_tape_everyTold : Int32} {v_tape_bytes : Nat → Int32} {x1 : Int32} {r_ : Int32} {v_tape_length' : Int32} {v_tape_bytes' : Nat → Int32} (hF : F_X6_feed v_tape_length v_tape_bytes x1 = some (r_, v_tape_length', v_tape_bytes')) : MI l yX6_feed cX6_feed 2 .int rm_X6_feed D (TS cI cB cZ cR cM cS) [.ref a_this, .int x1] [(a_this, .inr (6, [.ref a_tape, .ref a_now, .ref a_trial, .ref a_sights, .ref a_images, .ref a_sheets, .int v_readFault])), (a_tape, .inr (5, [.ref a_tape_bytes, .int v_tape_length, .ref a_tape_draft, .int v_tape_fault, .int v_tape_faultPlace, .int v_tape_token, .int v_tape_start, .int v_tape_next, .int v_tape_value, .int v_tape_signsTold, .int v_tape_everyTold])), (a_tape_bytes, .inl (cB, 160, .inl v_tape_bytes))] [(a_this, .inr (6, [.ref a_tape, .ref a_now, .ref a_trial, .ref a_sights, .ref a_images, .ref a_sheets, .int v_readFault])), (a_tape, .inr (5, [.ref a_tape_bytes, .int v_tape_length', .ref a_tape_draft, .int v_tape_fault, .int v_tape_faultPlace, .int v_tape_token, .int v_tape_start, .int v_tape_next, .int v_tape_value, .int v_tape_signsTold, .int v_tape_everyTold])), (a_tape_bytes, .inl (cB, 160, .inl v_tape_bytes'))] r_ :=
  c0_X6_feed (res := (r_, v_tape_length', v_tape_bytes')) hF
def rm_X6_end : Room := { frames := 1, cells := 0, slots := 0, locals := 21 }
theorem cv_X6_end : CV yX6_end cX6_end 3 (some .int) rm_X6_end RX6 1 := ⟨kw1_231, kw1_232, kw1_1, kw1_233, by decide +kernel, rfl, rfl⟩
set_option maxHeartbeats 4000000 in
set_option maxRecDepth 100000 in
theorem c0_X6_end {l : Launch} {D : va_G} {cI cB cZ cR cM cS : ClassId} {a_this : Nat} {a_tape : Nat} {a_now : Nat} {a_trial : Nat} {a_sights : Nat} {a_images : Nat} {a_sheets : Nat} {a_tape_bytes : Nat} {a_tape_draft : Nat} {v_readFault : Int32} {v_tape_length : Int32} {v_tape_fault : Int32} {v_tape_faultPlace : Int32} {v_tape_token : Int32} {v_tape_start : Int32} {v_tape_next : Int32} {v_tape_value : Int32} {v_tape_signsTold : Int32} {v_tape_everyTold : Int32} {x1 : Int32} {res : Int32 × Int32} (hF : F_X6_end v_tape_length x1 = some res) : MI l yX6_end cX6_end 3 .int rm_X6_end D (TS cI cB cZ cR cM cS) [.ref a_this, .int x1] [(a_this, .inr (6, [.ref a_tape, .ref a_now, .ref a_trial, .ref a_sights, .ref a_images, .ref a_sheets, .int v_readFault])), (a_tape, .inr (5, [.ref a_tape_bytes, .int v_tape_length, .ref a_tape_draft, .int v_tape_fault, .int v_tape_faultPlace, .int v_tape_token, .int v_tape_start, .int v_tape_next, .int v_tape_value, .int v_tape_signsTold, .int v_tape_everyTold]))] [(a_this, .inr (6, [.ref a_tape, .ref a_now, .ref a_trial, .ref a_sights, .ref a_images, .ref a_sheets, .int v_readFault])), (a_tape, .inr (5, [.ref a_tape_bytes, .int res.2, .ref a_tape_draft, .int v_tape_fault, .int v_tape_faultPlace, .int v_tape_token, .int v_tape_start, .int v_tape_next, .int v_tape_value, .int v_tape_signsTold, .int v_tape_everyTold]))] res.1 :=
  MI_of (by decide) (Nat.le_of_ble_eq_true rfl) (fun p e s m args below meth c A ls C hr hlk hK hA hP hD hS hl => by
    have C : CX p m c cX6_end 3 s args RX6 := C
    have hl : lv_has ls 3 [(0, .ref a_this), (1, .int x1)] := hl
    unfold F_X6_end at hF
    refine lv_iload_n C.1 C.2.1 dX6_end_0 rfl (lv_at hl 1 rfl) ?_
    refine lv_aload_n C.1 C.2.1 dX6_end_1 rfl (lv_at hl 0 rfl) ?_
    refine gf_6_6_tape C hK hP 0 rfl rfl dX6_end_2 ?_
    refine gf_6_5_length C hK hP 1 rfl rfl dX6_end_5 ?_
    obtain ⟨r1, h2, hF⟩ := fb hF
    refine callSI C hK hA hP hD hS (c_X6_within  h2) cs_X6_within kw1_227 ⟨Nat.le_of_ble_eq_true rfl, Nat.le_of_ble_eq_true rfl⟩ ⟨Nat.zero_le _, Nat.zero_le _⟩ hl.1 rfl (Nat.le_of_ble_eq_true rfl) dX6_end_8 (fun H locs hP hD hS => ?_)
    refine lv_if_ne (tgt := 16) C.1 C.2.1 dX6_end_11 (by decide) (fun c3 => ?_) (fun c3 => ?_)
    · have hF := fn hF c3
      refine lv_aload_n C.1 C.2.1 dX6_end_16 rfl (lv_at hl 0 rfl) ?_
      refine gf_6_6_tape C hK hP 0 rfl rfl dX6_end_17 ?_
      refine gf_6_5_length C hK hP 1 rfl rfl dX6_end_20 ?_
      refine lv_istore_n (lv' := [(2, .int v_tape_length), (0, .ref a_this), (1, .int x1)]) C.1 C.2.1 dX6_end_23 rfl hl (by decide) rfl (fun ls hl => ?_)
      refine lv_aload_n C.1 C.2.1 dX6_end_24 rfl (lv_at hl 1 rfl) ?_
      refine gf_6_6_tape C hK hP 0 rfl rfl dX6_end_25 ?_
      refine lv_iload_n C.1 C.2.1 dX6_end_28 rfl (lv_at hl 2 rfl) ?_
      refine pf_6_5_length C hK hP hD hS 1 rfl rfl dX6_end_29 (fun H locs hP hD hS => ?_)
      have hP : va_P D vwCl [(a_this, .inr (6, [.ref a_tape, .ref a_now, .ref a_trial, .ref a_sights, .ref a_images, .ref a_sheets, .int v_readFault])), (a_tape, .inr (5, [.ref a_tape_bytes, .int x1, .ref a_tape_draft, .int v_tape_fault, .int v_tape_faultPlace, .int v_tape_token, .int v_tape_start, .int v_tape_next, .int v_tape_value, .int v_tape_signsTold, .int v_tape_everyTold]))] H := hP
      have hD : va_D A [(a_this, .inr (6, [.ref a_tape, .ref a_now, .ref a_trial, .ref a_sights, .ref a_images, .ref a_sheets, .int v_readFault])), (a_tape, .inr (5, [.ref a_tape_bytes, .int x1, .ref a_tape_draft, .int v_tape_fault, .int v_tape_faultPlace, .int v_tape_token, .int v_tape_start, .int v_tape_next, .int v_tape_value, .int v_tape_signsTold, .int v_tape_everyTold]))] := hD
      refine lv_iload_n C.1 C.2.1 dX6_end_32 rfl (lv_at hl 0 rfl) ?_
      have hF := Option.some.inj hF
      subst hF
      exact retI C hr hlk hP hD hS dX6_end_33
    · have hF := fp hF c3
      refine lv_iconst (v := (-1)) C.1 C.2.1 dX6_end_14 (by decide) ?_
      have hF := Option.some.inj hF
      subst hF
      exact retI C hr hlk hP hD hS dX6_end_15)
theorem c_X6_end {l : Launch} {D : va_G} {cI cB cZ cR cM cS : ClassId} {a_this : Nat} {a_tape : Nat} {a_now : Nat} {a_trial : Nat} {a_sights : Nat} {a_images : Nat} {a_sheets : Nat} {a_tape_bytes : Nat} {a_tape_draft : Nat} {v_readFault : Int32} {v_tape_length : Int32} {v_tape_fault : Int32} {v_tape_faultPlace : Int32} {v_tape_token : Int32} {v_tape_start : Int32} {v_tape_next : Int32} {v_tape_value : Int32} {v_tape_signsTold : Int32} {v_tape_everyTold : Int32} {x1 : Int32} {r_ : Int32} {v_tape_length' : Int32} (hF : F_X6_end v_tape_length x1 = some (r_, v_tape_length')) : MI l yX6_end cX6_end 3 .int rm_X6_end D (TS cI cB cZ cR cM cS) [.ref a_this, .int x1] [(a_this, .inr (6, [.ref a_tape, .ref a_now, .ref a_trial, .ref a_sights, .ref a_images, .ref a_sheets, .int v_readFault])), (a_tape, .inr (5, [.ref a_tape_bytes, .int v_tape_length, .ref a_tape_draft, .int v_tape_fault, .int v_tape_faultPlace, .int v_tape_token, .int v_tape_start, .int v_tape_next, .int v_tape_value, .int v_tape_signsTold, .int v_tape_everyTold]))] [(a_this, .inr (6, [.ref a_tape, .ref a_now, .ref a_trial, .ref a_sights, .ref a_images, .ref a_sheets, .int v_readFault])), (a_tape, .inr (5, [.ref a_tape_bytes, .int v_tape_length', .ref a_tape_draft, .int v_tape_fault, .int v_tape_faultPlace, .int v_tape_token, .int v_tape_start, .int v_tape_next, .int v_tape_value, .int v_tape_signsTold, .int v_tape_everyTold]))] r_ :=
  c0_X6_end (res := (r_, v_tape_length')) hF
def rm_X6_fault : Room := { frames := 0, cells := 0, slots := 0, locals := 0 }
theorem cv_X6_fault : CV yX6_fault cX6_fault 1 (some .int) rm_X6_fault RX6 0 := ⟨kw2_136, kw2_137, kw1_1, kw2_138, by decide +kernel, rfl, rfl⟩
set_option maxHeartbeats 4000000 in
set_option maxRecDepth 100000 in
theorem c_X6_fault {l : Launch} {D : va_G} {cI cB cZ cR cM cS : ClassId} {a_this : Nat} {a_tape : Nat} {a_now : Nat} {a_trial : Nat} {a_sights : Nat} {a_images : Nat} {a_sheets : Nat} {a_tape_bytes : Nat} {a_tape_draft : Nat} {v_readFault : Int32} {v_tape_length : Int32} {v_tape_fault : Int32} {v_tape_faultPlace : Int32} {v_tape_token : Int32} {v_tape_start : Int32} {v_tape_next : Int32} {v_tape_value : Int32} {v_tape_signsTold : Int32} {v_tape_everyTold : Int32} {res : Int32} (hF : F_X6_fault v_tape_fault = some res) : MI l yX6_fault cX6_fault 1 .int rm_X6_fault D (TS cI cB cZ cR cM cS) [.ref a_this] [(a_this, .inr (6, [.ref a_tape, .ref a_now, .ref a_trial, .ref a_sights, .ref a_images, .ref a_sheets, .int v_readFault])), (a_tape, .inr (5, [.ref a_tape_bytes, .int v_tape_length, .ref a_tape_draft, .int v_tape_fault, .int v_tape_faultPlace, .int v_tape_token, .int v_tape_start, .int v_tape_next, .int v_tape_value, .int v_tape_signsTold, .int v_tape_everyTold]))] [(a_this, .inr (6, [.ref a_tape, .ref a_now, .ref a_trial, .ref a_sights, .ref a_images, .ref a_sheets, .int v_readFault])), (a_tape, .inr (5, [.ref a_tape_bytes, .int v_tape_length, .ref a_tape_draft, .int v_tape_fault, .int v_tape_faultPlace, .int v_tape_token, .int v_tape_start, .int v_tape_next, .int v_tape_value, .int v_tape_signsTold, .int v_tape_everyTold]))] res :=
  MI_of (by decide) (Nat.le_of_ble_eq_true rfl) (fun p e s m args below meth c A ls C hr hlk hK hA hP hD hS hl => by
    have C : CX p m c cX6_fault 1 s args RX6 := C
    have hl : lv_has ls 1 [(0, .ref a_this)] := hl
    unfold F_X6_fault at hF
    refine lv_aload_n C.1 C.2.1 dX6_fault_0 rfl (lv_at hl 0 rfl) ?_
    refine gf_6_6_tape C hK hP 0 rfl rfl dX6_fault_1 ?_
    refine gf_6_5_fault C hK hP 1 rfl rfl dX6_fault_4 ?_
    have hF := Option.some.inj hF
    subst hF
    exact retI C hr hlk hP hD hS dX6_fault_7)
def rm_X6_rule : Room := { frames := 3, cells := 0, slots := 0, locals := 66 }
theorem cv_X6_rule : CV yX6_rule cX6_rule 2 (some .int) rm_X6_rule RX6 1 := ⟨kw2_140, kw2_141, kw1_1, kw2_142, by decide +kernel, rfl, rfl⟩
set_option maxHeartbeats 4000000 in
set_option maxRecDepth 100000 in
theorem c_X6_rule {l : Launch} {D : va_G} {cI cB cZ cR cM cS : ClassId} {a_this : Nat} {a_tape : Nat} {a_now : Nat} {a_trial : Nat} {a_sights : Nat} {a_images : Nat} {a_sheets : Nat} {a_now_signs : Nat} {a_now_rotors : Nat} {a_now_rotors_e : Nat → Nat} {v_readFault : Int32} {v_now_field : Int32} {v_now_tick : Int32} {v_now_pace : Int32} {v_now_signNumber : Int32} {v_now_rotorNumber : Int32} {v_now_rotorsF : Nat → Rot} {x1 : Int32} {res : Int32} (hF : F_X6_rule v_now_field v_now_tick v_now_pace v_now_signNumber v_now_rotorNumber v_now_rotorsF x1 = some res) : MI l yX6_rule cX6_rule 2 .int rm_X6_rule D (TS cI cB cZ cR cM cS) [.ref a_this, .int x1] [(a_this, .inr (6, [.ref a_tape, .ref a_now, .ref a_trial, .ref a_sights, .ref a_images, .ref a_sheets, .int v_readFault])), (a_now, .inr (0, [.int v_now_field, .int v_now_tick, .int v_now_pace, .int v_now_signNumber, .int v_now_rotorNumber, .ref a_now_signs, .ref a_now_rotors])), (a_now_rotors, rfn cR 4 a_now_rotors_e), rcell a_now_rotors_e v_now_rotorsF 0, rcell a_now_rotors_e v_now_rotorsF 1, rcell a_now_rotors_e v_now_rotorsF 2, rcell a_now_rotors_e v_now_rotorsF 3] [(a_this, .inr (6, [.ref a_tape, .ref a_now, .ref a_trial, .ref a_sights, .ref a_images, .ref a_sheets, .int v_readFault])), (a_now, .inr (0, [.int v_now_field, .int v_now_tick, .int v_now_pace, .int v_now_signNumber, .int v_now_rotorNumber, .ref a_now_signs, .ref a_now_rotors])), (a_now_rotors, rfn cR 4 a_now_rotors_e), rcell a_now_rotors_e v_now_rotorsF 0, rcell a_now_rotors_e v_now_rotorsF 1, rcell a_now_rotors_e v_now_rotorsF 2, rcell a_now_rotors_e v_now_rotorsF 3] res :=
  MI_of (by decide) (Nat.le_of_ble_eq_true rfl) (fun p e s m args below meth c A ls C hr hlk hK hA hP hD hS hl => by
    have C : CX p m c cX6_rule 2 s args RX6 := C
    have hl : lv_has ls 2 [(0, .ref a_this), (1, .int x1)] := hl
    unfold F_X6_rule at hF
    refine lv_iload_n C.1 C.2.1 dX6_rule_0 rfl (lv_at hl 1 rfl) ?_
    by_cases c1 : x1 = (0 : Int32)
    · have hF := fp hF c1
      refine lv_tableIn (tgt := 44) C.1 C.2.1 dX6_rule_1 (by rw [c1]; decide) (by rw [c1]; decide) (by rw [c1]; rfl) (by decide) ?_
      refine lv_aload_n C.1 C.2.1 dX6_rule_44 rfl (lv_at hl 0 rfl) ?_
      refine gf_6_6_now C hK hP 0 rfl rfl dX6_rule_45 ?_
      refine gf_6_0_rotorNumber C hK hP 1 rfl rfl dX6_rule_48 ?_
      have hF := Option.some.inj hF
      subst hF
      exact retI C hr hlk hP hD hS dX6_rule_51
    · have hF := fn hF c1
      by_cases c2 : x1 = (1 : Int32)
      · have hF := fp hF c2
        refine lv_tableIn (tgt := 52) C.1 C.2.1 dX6_rule_1 (by rw [c2]; decide) (by rw [c2]; decide) (by rw [c2]; rfl) (by decide) ?_
        refine lv_aload_n C.1 C.2.1 dX6_rule_52 rfl (lv_at hl 0 rfl) ?_
        refine gf_6_6_now C hK hP 0 rfl rfl dX6_rule_53 ?_
        refine gf_6_0_signNumber C hK hP 1 rfl rfl dX6_rule_56 ?_
        have hF := Option.some.inj hF
        subst hF
        exact retI C hr hlk hP hD hS dX6_rule_59
      · have hF := fn hF c2
        by_cases c3 : x1 = (2 : Int32)
        · have hF := fp hF c3
          refine lv_tableIn (tgt := 60) C.1 C.2.1 dX6_rule_1 (by rw [c3]; decide) (by rw [c3]; decide) (by rw [c3]; rfl) (by decide) ?_
          refine lv_aload_n C.1 C.2.1 dX6_rule_60 rfl (lv_at hl 0 rfl) ?_
          refine gf_6_6_now C hK hP 0 rfl rfl dX6_rule_61 ?_
          refine gf_6_0_tick C hK hP 1 rfl rfl dX6_rule_64 ?_
          have hF := Option.some.inj hF
          subst hF
          exact retI C hr hlk hP hD hS dX6_rule_67
        · have hF := fn hF c3
          by_cases c4 : x1 = (3 : Int32)
          · have hF := fp hF c4
            refine lv_tableIn (tgt := 68) C.1 C.2.1 dX6_rule_1 (by rw [c4]; decide) (by rw [c4]; decide) (by rw [c4]; rfl) (by decide) ?_
            refine lv_aload_n C.1 C.2.1 dX6_rule_68 rfl (lv_at hl 0 rfl) ?_
            refine gf_6_6_now C hK hP 0 rfl rfl dX6_rule_69 ?_
            refine gf_6_0_pace C hK hP 1 rfl rfl dX6_rule_72 ?_
            have hF := Option.some.inj hF
            subst hF
            exact retI C hr hlk hP hD hS dX6_rule_75
          · have hF := fn hF c4
            by_cases c5 : x1 = (4 : Int32)
            · have hF := fp hF c5
              refine lv_tableIn (tgt := 76) C.1 C.2.1 dX6_rule_1 (by rw [c5]; decide) (by rw [c5]; decide) (by rw [c5]; rfl) (by decide) ?_
              refine lv_ldc (v := 100000) C.1 C.2.1 C.2.2.2.1 (C.2.2.2.2 _ kw2_143) dX6_rule_76 ?_
              refine lv_aload_n C.1 C.2.1 dX6_rule_78 rfl (lv_at hl 0 rfl) ?_
              refine gf_6_6_now C hK hP 0 rfl rfl dX6_rule_79 ?_
              refine gf_6_0_field C hK hP 1 rfl rfl dX6_rule_82 ?_
              refine lv_iadd C.1 C.2.1 dX6_rule_85 ?_
              have hF := Option.some.inj hF
              subst hF
              exact retI C hr hlk hP hD hS dX6_rule_86
            · have hF := fn hF c5
              by_cases c6 : x1 = (5 : Int32)
              · have hF := fp hF c6
                refine lv_tableIn (tgt := 87) C.1 C.2.1 dX6_rule_1 (by rw [c6]; decide) (by rw [c6]; decide) (by rw [c6]; rfl) (by decide) ?_
                refine lv_aload_n C.1 C.2.1 dX6_rule_87 rfl (lv_at hl 0 rfl) ?_
                refine gf_6_6_now C hK hP 0 rfl rfl dX6_rule_88 ?_
                obtain ⟨r7, h8, hF⟩ := fb hF
                refine callVI C hK hA hP hD hS [1, 2, 3, 4, 5, 6] (c_X0_slipping (a_this := a_now) (a_signs := a_now_signs) (a_rotors := a_now_rotors) (a_rotors_e := a_now_rotors_e) (v_field := v_now_field) (v_tick := v_now_tick) (v_pace := v_now_pace) (v_signNumber := v_now_signNumber) (v_rotorNumber := v_now_rotorNumber) (v_rotorsF := v_now_rotorsF) h8) cv_X0_slipping kw2_144 rfl (by decide) rfl rfl rfl ⟨Nat.le_of_ble_eq_true rfl, Nat.le_of_ble_eq_true rfl⟩ ⟨Nat.zero_le _, Nat.zero_le _⟩ hl.1 rfl (Nat.le_of_ble_eq_true rfl) dX6_rule_91 (fun H locs hP hD hS => ?_)
                have hP : va_P D vwCl [(a_this, .inr (6, [.ref a_tape, .ref a_now, .ref a_trial, .ref a_sights, .ref a_images, .ref a_sheets, .int v_readFault])), (a_now, .inr (0, [.int v_now_field, .int v_now_tick, .int v_now_pace, .int v_now_signNumber, .int v_now_rotorNumber, .ref a_now_signs, .ref a_now_rotors])), (a_now_rotors, rfn cR 4 a_now_rotors_e), rcell a_now_rotors_e v_now_rotorsF 0, rcell a_now_rotors_e v_now_rotorsF 1, rcell a_now_rotors_e v_now_rotorsF 2, rcell a_now_rotors_e v_now_rotorsF 3] H := hP
                have hD : va_D A [(a_this, .inr (6, [.ref a_tape, .ref a_now, .ref a_trial, .ref a_sights, .ref a_images, .ref a_sheets, .int v_readFault])), (a_now, .inr (0, [.int v_now_field, .int v_now_tick, .int v_now_pace, .int v_now_signNumber, .int v_now_rotorNumber, .ref a_now_signs, .ref a_now_rotors])), (a_now_rotors, rfn cR 4 a_now_rotors_e), rcell a_now_rotors_e v_now_rotorsF 0, rcell a_now_rotors_e v_now_rotorsF 1, rcell a_now_rotors_e v_now_rotorsF 2, rcell a_now_rotors_e v_now_rotorsF 3] := hD
                have hF := Option.some.inj hF
                subst hF
                exact retI C hr hlk hP hD hS dX6_rule_94
              · have hF := fn hF c6
                by_cases c9 : x1 = (6 : Int32)
                · have hF := fp hF c9
                  refine lv_tableIn (tgt := 95) C.1 C.2.1 dX6_rule_1 (by rw [c9]; decide) (by rw [c9]; decide) (by rw [c9]; rfl) (by decide) ?_
                  refine lv_aload_n C.1 C.2.1 dX6_rule_95 rfl (lv_at hl 0 rfl) ?_
                  refine gf_6_6_now C hK hP 0 rfl rfl dX6_rule_96 ?_
                  obtain ⟨r10, h11, hF⟩ := fb hF
                  refine callVI C hK hA hP hD hS [1, 2, 3, 4, 5, 6] (c_X0_allLost (a_this := a_now) (a_signs := a_now_signs) (a_rotors := a_now_rotors) (a_rotors_e := a_now_rotors_e) (v_field := v_now_field) (v_tick := v_now_tick) (v_pace := v_now_pace) (v_signNumber := v_now_signNumber) (v_rotorNumber := v_now_rotorNumber) (v_rotorsF := v_now_rotorsF) h11) cv_X0_allLost kw2_159 rfl (by decide) rfl rfl rfl ⟨Nat.le_of_ble_eq_true rfl, Nat.le_of_ble_eq_true rfl⟩ ⟨Nat.zero_le _, Nat.zero_le _⟩ hl.1 rfl (Nat.le_of_ble_eq_true rfl) dX6_rule_99 (fun H locs hP hD hS => ?_)
                  have hP : va_P D vwCl [(a_this, .inr (6, [.ref a_tape, .ref a_now, .ref a_trial, .ref a_sights, .ref a_images, .ref a_sheets, .int v_readFault])), (a_now, .inr (0, [.int v_now_field, .int v_now_tick, .int v_now_pace, .int v_now_signNumber, .int v_now_rotorNumber, .ref a_now_signs, .ref a_now_rotors])), (a_now_rotors, rfn cR 4 a_now_rotors_e), rcell a_now_rotors_e v_now_rotorsF 0, rcell a_now_rotors_e v_now_rotorsF 1, rcell a_now_rotors_e v_now_rotorsF 2, rcell a_now_rotors_e v_now_rotorsF 3] H := hP
                  have hD : va_D A [(a_this, .inr (6, [.ref a_tape, .ref a_now, .ref a_trial, .ref a_sights, .ref a_images, .ref a_sheets, .int v_readFault])), (a_now, .inr (0, [.int v_now_field, .int v_now_tick, .int v_now_pace, .int v_now_signNumber, .int v_now_rotorNumber, .ref a_now_signs, .ref a_now_rotors])), (a_now_rotors, rfn cR 4 a_now_rotors_e), rcell a_now_rotors_e v_now_rotorsF 0, rcell a_now_rotors_e v_now_rotorsF 1, rcell a_now_rotors_e v_now_rotorsF 2, rcell a_now_rotors_e v_now_rotorsF 3] := hD
                  have hF := Option.some.inj hF
                  subst hF
                  exact retI C hr hlk hP hD hS dX6_rule_102
                · have hF := fn hF c9
                  refine lv_tableOut (tgt := 103) C.1 C.2.1 dX6_rule_1 (by have q0 := lv_neT (k := 0) (a := 0) c1 (by decide); have q1 := lv_neT (k := 1) (a := 1) c2 (by decide); have q2 := lv_neT (k := 2) (a := 2) c3 (by decide); have q3 := lv_neT (k := 3) (a := 3) c4 (by decide); have q4 := lv_neT (k := 4) (a := 4) c5 (by decide); have q5 := lv_neT (k := 5) (a := 5) c6 (by decide); have q6 := lv_neT (k := 6) (a := 6) c9 (by decide); omega) (by decide) ?_
                  refine lv_iconst (v := (-1)) C.1 C.2.1 dX6_rule_103 (by decide) ?_
                  have hF := Option.some.inj hF
                  subst hF
                  exact retI C hr hlk hP hD hS dX6_rule_104)
def rm_X6_hasRotor : Room := { frames := 0, cells := 0, slots := 0, locals := 0 }
theorem cv_X6_hasRotor : CV yX6_hasRotor cX6_hasRotor 2 (some .boolean) rm_X6_hasRotor RX6 1 := ⟨kw2_174, kwp_13, kw1_1, kw2_175, by decide +kernel, rfl, rfl⟩
set_option maxHeartbeats 4000000 in
set_option maxRecDepth 100000 in
theorem c_X6_hasRotor {l : Launch} {D : va_G} {cI cB cZ cR cM cS : ClassId} {a_this : Nat} {a_tape : Nat} {a_now : Nat} {a_trial : Nat} {a_sights : Nat} {a_images : Nat} {a_sheets : Nat} {a_now_signs : Nat} {a_now_rotors : Nat} {v_readFault : Int32} {v_now_field : Int32} {v_now_tick : Int32} {v_now_pace : Int32} {v_now_signNumber : Int32} {v_now_rotorNumber : Int32} {x1 : Int32} {res : Int32} (hF : F_X6_hasRotor v_now_rotorNumber x1 = some res) : MI l yX6_hasRotor cX6_hasRotor 2 .boolean rm_X6_hasRotor D (TS cI cB cZ cR cM cS) [.ref a_this, .int x1] [(a_this, .inr (6, [.ref a_tape, .ref a_now, .ref a_trial, .ref a_sights, .ref a_images, .ref a_sheets, .int v_readFault])), (a_now, .inr (0, [.int v_now_field, .int v_now_tick, .int v_now_pace, .int v_now_signNumber, .int v_now_rotorNumber, .ref a_now_signs, .ref a_now_rotors]))] [(a_this, .inr (6, [.ref a_tape, .ref a_now, .ref a_trial, .ref a_sights, .ref a_images, .ref a_sheets, .int v_readFault])), (a_now, .inr (0, [.int v_now_field, .int v_now_tick, .int v_now_pace, .int v_now_signNumber, .int v_now_rotorNumber, .ref a_now_signs, .ref a_now_rotors]))] res :=
  MI_of (by decide) (Nat.le_of_ble_eq_true rfl) (fun p e s m args below meth c A ls C hr hlk hK hA hP hD hS hl => by
    have C : CX p m c cX6_hasRotor 2 s args RX6 := C
    have hl : lv_has ls 2 [(0, .ref a_this), (1, .int x1)] := hl
    unfold F_X6_hasRotor at hF
    refine lv_iload_n C.1 C.2.1 dX6_hasRotor_0 rfl (lv_at hl 1 rfl) ?_
    refine lv_if_lt (tgt := 19) C.1 C.2.1 dX6_hasRotor_1 (by decide) (fun c1 => ?_) (fun c1 => ?_)
    · have hF := fp hF c1
      refine lv_iconst (v := 0) C.1 C.2.1 dX6_hasRotor_19 (by decide) ?_
      have hF := Option.some.inj hF
      subst hF
      exact retZ (v := 0) C hr hlk (by decide) hP hD hS dX6_hasRotor_20
    · have hF := fn hF c1
      refine lv_iload_n C.1 C.2.1 dX6_hasRotor_4 rfl (lv_at hl 1 rfl) ?_
      refine lv_aload_n C.1 C.2.1 dX6_hasRotor_5 rfl (lv_at hl 0 rfl) ?_
      refine gf_6_6_now C hK hP 0 rfl rfl dX6_hasRotor_6 ?_
      refine gf_6_0_rotorNumber C hK hP 1 rfl rfl dX6_hasRotor_9 ?_
      refine lv_icmp_ge (tgt := 19) C.1 C.2.1 dX6_hasRotor_12 (by decide) (fun c2 => ?_) (fun c2 => ?_)
      · have hF := fp hF c2
        refine lv_iconst (v := 0) C.1 C.2.1 dX6_hasRotor_19 (by decide) ?_
        have hF := Option.some.inj hF
        subst hF
        exact retZ (v := 0) C hr hlk (by decide) hP hD hS dX6_hasRotor_20
      · have hF := fn hF c2
        refine lv_iconst (v := 1) C.1 C.2.1 dX6_hasRotor_15 (by decide) ?_
        refine lv_goto (tgt := 20) C.1 C.2.1 dX6_hasRotor_16 (by decide) ?_
        have hF := Option.some.inj hF
        subst hF
        exact retZ (v := 1) C hr hlk (by decide) hP hD hS dX6_hasRotor_20)
def rm_X6_rotor : Room := { frames := 2, cells := 0, slots := 0, locals := 42 }
theorem cv_X6_rotor : CV yX6_rotor cX6_rotor 4 (some .int) rm_X6_rotor RX6 2 := ⟨kw2_169, kw2_170, kw1_1, kw2_171, by decide +kernel, rfl, rfl⟩
set_option maxHeartbeats 4000000 in
set_option maxRecDepth 100000 in
theorem c_X6_rotor {l : Launch} {D : va_G} {cI cB cZ cR cM cS : ClassId} {a_this : Nat} {a_tape : Nat} {a_now : Nat} {a_trial : Nat} {a_sights : Nat} {a_images : Nat} {a_sheets : Nat} {a_now_signs : Nat} {a_now_rotors : Nat} {a_now_rotors_e : Nat → Nat} {v_readFault : Int32} {v_now_field : Int32} {v_now_tick : Int32} {v_now_pace : Int32} {v_now_signNumber : Int32} {v_now_rotorNumber : Int32} {v_now_rotorsF : Nat → Rot} {x1 : Int32} {x2 : Int32} {res : Int32} (hF : F_X6_rotor v_now_field v_now_rotorNumber v_now_rotorsF x1 x2 = some res) : MI l yX6_rotor cX6_rotor 4 .int rm_X6_rotor D (TS cI cB cZ cR cM cS) [.ref a_this, .int x1, .int x2] [(a_this, .inr (6, [.ref a_tape, .ref a_now, .ref a_trial, .ref a_sights, .ref a_images, .ref a_sheets, .int v_readFault])), (a_now, .inr (0, [.int v_now_field, .int v_now_tick, .int v_now_pace, .int v_now_signNumber, .int v_now_rotorNumber, .ref a_now_signs, .ref a_now_rotors])), (a_now_rotors, rfn cR 4 a_now_rotors_e), rcell a_now_rotors_e v_now_rotorsF 0, rcell a_now_rotors_e v_now_rotorsF 1, rcell a_now_rotors_e v_now_rotorsF 2, rcell a_now_rotors_e v_now_rotorsF 3] [(a_this, .inr (6, [.ref a_tape, .ref a_now, .ref a_trial, .ref a_sights, .ref a_images, .ref a_sheets, .int v_readFault])), (a_now, .inr (0, [.int v_now_field, .int v_now_tick, .int v_now_pace, .int v_now_signNumber, .int v_now_rotorNumber, .ref a_now_signs, .ref a_now_rotors])), (a_now_rotors, rfn cR 4 a_now_rotors_e), rcell a_now_rotors_e v_now_rotorsF 0, rcell a_now_rotors_e v_now_rotorsF 1, rcell a_now_rotors_e v_now_rotorsF 2, rcell a_now_rotors_e v_now_rotorsF 3] res :=
  MI_of (by decide) (Nat.le_of_ble_eq_true rfl) (fun p e s m args below meth c A ls C hr hlk hK hA hP hD hS hl => by
    have C : CX p m c cX6_rotor 4 s args RX6 := C
    have hl : lv_has ls 4 [(0, .ref a_this), (1, .int x1), (2, .int x2)] := hl
    unfold F_X6_rotor at hF
    refine lv_aload_n C.1 C.2.1 dX6_rotor_0 rfl (lv_at hl 0 rfl) ?_
    refine lv_iload_n C.1 C.2.1 dX6_rotor_1 rfl (lv_at hl 1 rfl) ?_
    obtain ⟨r1, h2, hF⟩ := fb hF
    refine callVI C hK hA hP hD hS [0, 1] (c_X6_hasRotor (a_this := a_this) (a_tape := a_tape) (a_now := a_now) (a_trial := a_trial) (a_sights := a_sights) (a_images := a_images) (a_sheets := a_sheets) (a_now_signs := a_now_signs) (a_now_rotors := a_now_rotors) (v_readFault := v_readFault) (v_now_field := v_now_field) (v_now_tick := v_now_tick) (v_now_pace := v_now_pace) (v_now_signNumber := v_now_signNumber) (v_now_rotorNumber := v_now_rotorNumber) h2) cv_X6_hasRotor kw2_172 rfl (by decide) rfl rfl rfl ⟨Nat.le_of_ble_eq_true rfl, Nat.le_of_ble_eq_true rfl⟩ ⟨Nat.zero_le _, Nat.zero_le _⟩ hl.1 rfl (Nat.le_of_ble_eq_true rfl) dX6_rotor_2 (fun H locs hP hD hS => ?_)
    have hP : va_P D vwCl [(a_this, .inr (6, [.ref a_tape, .ref a_now, .ref a_trial, .ref a_sights, .ref a_images, .ref a_sheets, .int v_readFault])), (a_now, .inr (0, [.int v_now_field, .int v_now_tick, .int v_now_pace, .int v_now_signNumber, .int v_now_rotorNumber, .ref a_now_signs, .ref a_now_rotors])), (a_now_rotors, rfn cR 4 a_now_rotors_e), rcell a_now_rotors_e v_now_rotorsF 0, rcell a_now_rotors_e v_now_rotorsF 1, rcell a_now_rotors_e v_now_rotorsF 2, rcell a_now_rotors_e v_now_rotorsF 3] H := hP
    have hD : va_D A [(a_this, .inr (6, [.ref a_tape, .ref a_now, .ref a_trial, .ref a_sights, .ref a_images, .ref a_sheets, .int v_readFault])), (a_now, .inr (0, [.int v_now_field, .int v_now_tick, .int v_now_pace, .int v_now_signNumber, .int v_now_rotorNumber, .ref a_now_signs, .ref a_now_rotors])), (a_now_rotors, rfn cR 4 a_now_rotors_e), rcell a_now_rotors_e v_now_rotorsF 0, rcell a_now_rotors_e v_now_rotorsF 1, rcell a_now_rotors_e v_now_rotorsF 2, rcell a_now_rotors_e v_now_rotorsF 3] := hD
    refine lv_if_ne (tgt := 10) C.1 C.2.1 dX6_rotor_5 (by decide) (fun c3 => ?_) (fun c3 => ?_)
    · have hF := fn hF c3
      refine lv_aload_n C.1 C.2.1 dX6_rotor_10 rfl (lv_at hl 0 rfl) ?_
      refine gf_6_6_now C hK hP 0 rfl rfl dX6_rotor_11 ?_
      refine gf_6_0_rotors C hK hP 1 rfl rfl dX6_rotor_14 ?_
      refine lv_iload_n C.1 C.2.1 dX6_rotor_17 rfl (lv_at hl 1 rfl) ?_
      obtain ⟨h4, hF⟩ := fk hF
      refine aldR C hK hP 2 3 rfl rfl h4 dX6_rotor_18 ?_
      have hk5 : x1.toNatClampNeg < 4 := Nat.not_le.mp (fun q => h4 (Or.inr q))
      refine lv_astore_n (lv' := [(3, .ref (a_now_rotors_e x1.toNatClampNeg)), (0, .ref a_this), (1, .int x1), (2, .int x2)]) C.1 C.2.1 dX6_rotor_19 rfl hl (by decide) rfl (fun ls hl => ?_)
      refine lv_iload_n C.1 C.2.1 dX6_rotor_20 rfl (lv_at hl 3 rfl) ?_
      by_cases c6 : x2 = (0 : Int32)
      · have hF := fp hF c6
        refine lv_tableIn (tgt := 60) C.1 C.2.1 dX6_rotor_21 (by rw [c6]; decide) (by rw [c6]; decide) (by rw [c6]; rfl) (by decide) ?_
        refine lv_aload_n C.1 C.2.1 dX6_rotor_60 rfl (lv_at hl 0 rfl) ?_
        refine gf_6_2_sort C hK hP (3 + x1.toNatClampNeg) (famget 3 (rcell a_now_rotors_e v_now_rotorsF) rfl rfl rfl rfl hk5) rfl dX6_rotor_61 ?_
        have hF := Option.some.inj hF
        subst hF
        exact retI C hr hlk hP hD hS dX6_rotor_64
      · have hF := fn hF c6
        by_cases c7 : x2 = (1 : Int32)
        · have hF := fp hF c7
          refine lv_tableIn (tgt := 65) C.1 C.2.1 dX6_rotor_21 (by rw [c7]; decide) (by rw [c7]; decide) (by rw [c7]; rfl) (by decide) ?_
          refine lv_aload_n C.1 C.2.1 dX6_rotor_65 rfl (lv_at hl 0 rfl) ?_
          refine gf_6_2_grip C hK hP (3 + x1.toNatClampNeg) (famget 3 (rcell a_now_rotors_e v_now_rotorsF) rfl rfl rfl rfl hk5) rfl dX6_rotor_66 ?_
          have hF := Option.some.inj hF
          subst hF
          exact retI C hr hlk hP hD hS dX6_rotor_69
        · have hF := fn hF c7
          by_cases c8 : x2 = (2 : Int32)
          · have hF := fp hF c8
            refine lv_tableIn (tgt := 70) C.1 C.2.1 dX6_rotor_21 (by rw [c8]; decide) (by rw [c8]; decide) (by rw [c8]; rfl) (by decide) ?_
            refine lv_ldc (v := 100000) C.1 C.2.1 C.2.2.2.1 (C.2.2.2.2 _ kw2_143) dX6_rotor_70 ?_
            refine lv_aload_n C.1 C.2.1 dX6_rotor_72 rfl (lv_at hl 0 rfl) ?_
            refine gf_6_2_place C hK hP (3 + x1.toNatClampNeg) (famget 3 (rcell a_now_rotors_e v_now_rotorsF) rfl rfl rfl rfl hk5) rfl dX6_rotor_73 ?_
            refine lv_iadd C.1 C.2.1 dX6_rotor_76 ?_
            have hF := Option.some.inj hF
            subst hF
            exact retI C hr hlk hP hD hS dX6_rotor_77
          · have hF := fn hF c8
            by_cases c9 : x2 = (3 : Int32)
            · have hF := fp hF c9
              refine lv_tableIn (tgt := 78) C.1 C.2.1 dX6_rotor_21 (by rw [c9]; decide) (by rw [c9]; decide) (by rw [c9]; rfl) (by decide) ?_
              refine lv_bipush (v := 10) C.1 C.2.1 dX6_rotor_78 (by decide) ?_
              refine lv_aload_n C.1 C.2.1 dX6_rotor_80 rfl (lv_at hl 0 rfl) ?_
              refine gf_6_2_way C hK hP (3 + x1.toNatClampNeg) (famget 3 (rcell a_now_rotors_e v_now_rotorsF) rfl rfl rfl rfl hk5) rfl dX6_rotor_81 ?_
              refine lv_iadd C.1 C.2.1 dX6_rotor_84 ?_
              have hF := Option.some.inj hF
              subst hF
              exact retI C hr hlk hP hD hS dX6_rotor_85
            · have hF := fn hF c9
              by_cases c10 : x2 = (4 : Int32)
              · have hF := fp hF c10
                refine lv_tableIn (tgt := 86) C.1 C.2.1 dX6_rotor_21 (by rw [c10]; decide) (by rw [c10]; decide) (by rw [c10]; rfl) (by decide) ?_
                refine lv_bipush (v := 10) C.1 C.2.1 dX6_rotor_86 (by decide) ?_
                refine lv_aload_n C.1 C.2.1 dX6_rotor_88 rfl (lv_at hl 0 rfl) ?_
                refine lv_aload_n C.1 C.2.1 dX6_rotor_89 rfl (lv_at hl 1 rfl) ?_
                refine gf_6_6_now C hK hP 0 rfl rfl dX6_rotor_90 ?_
                refine gf_6_0_field C hK hP 1 rfl rfl dX6_rotor_93 ?_
                obtain ⟨r11, h12, hF⟩ := fb hF
                refine callVI C hK hA hP hD hS [3 + x1.toNatClampNeg] (c_X2_off (a_this := a_now_rotors_e x1.toNatClampNeg) (v_sort := (v_now_rotorsF x1.toNatClampNeg).1) (v_grip := (v_now_rotorsF x1.toNatClampNeg).2.1) (v_place := (v_now_rotorsF x1.toNatClampNeg).2.2.1) (v_way := (v_now_rotorsF x1.toNatClampNeg).2.2.2) h12) cv_X2_off kw2_176 (congrArg (fun z => [z]) (famget 3 (rcell a_now_rotors_e v_now_rotorsF) rfl rfl rfl rfl hk5)) rfl rfl rfl rfl ⟨Nat.le_of_ble_eq_true rfl, Nat.le_of_ble_eq_true rfl⟩ ⟨Nat.zero_le _, Nat.zero_le _⟩ hl.1 rfl (Nat.le_of_ble_eq_true rfl) dX6_rotor_96 (fun H locs hP hD hS => ?_)
                have hP := va_Pe (setL1.trans (setsame (famget 3 (rcell a_now_rotors_e v_now_rotorsF) rfl rfl rfl rfl hk5))) hP
                have hD := va_De (setL1.trans (setsame (famget 3 (rcell a_now_rotors_e v_now_rotorsF) rfl rfl rfl rfl hk5))) hD
                have hP : va_P D vwCl [(a_this, .inr (6, [.ref a_tape, .ref a_now, .ref a_trial, .ref a_sights, .ref a_images, .ref a_sheets, .int v_readFault])), (a_now, .inr (0, [.int v_now_field, .int v_now_tick, .int v_now_pace, .int v_now_signNumber, .int v_now_rotorNumber, .ref a_now_signs, .ref a_now_rotors])), (a_now_rotors, rfn cR 4 a_now_rotors_e), rcell a_now_rotors_e v_now_rotorsF 0, rcell a_now_rotors_e v_now_rotorsF 1, rcell a_now_rotors_e v_now_rotorsF 2, rcell a_now_rotors_e v_now_rotorsF 3] H := hP
                have hD : va_D A [(a_this, .inr (6, [.ref a_tape, .ref a_now, .ref a_trial, .ref a_sights, .ref a_images, .ref a_sheets, .int v_readFault])), (a_now, .inr (0, [.int v_now_field, .int v_now_tick, .int v_now_pace, .int v_now_signNumber, .int v_now_rotorNumber, .ref a_now_signs, .ref a_now_rotors])), (a_now_rotors, rfn cR 4 a_now_rotors_e), rcell a_now_rotors_e v_now_rotorsF 0, rcell a_now_rotors_e v_now_rotorsF 1, rcell a_now_rotors_e v_now_rotorsF 2, rcell a_now_rotors_e v_now_rotorsF 3] := hD
                refine lv_iadd C.1 C.2.1 dX6_rotor_99 ?_
                have hF := Option.some.inj hF
                subst hF
                exact retI C hr hlk hP hD hS dX6_rotor_100
              · have hF := fn hF c10
                by_cases c13 : x2 = (5 : Int32)
                · have hF := fp hF c13
                  refine lv_tableIn (tgt := 101) C.1 C.2.1 dX6_rotor_21 (by rw [c13]; decide) (by rw [c13]; decide) (by rw [c13]; rfl) (by decide) ?_
                  refine lv_ldc (v := 100000) C.1 C.2.1 C.2.2.2.1 (C.2.2.2.2 _ kw2_143) dX6_rotor_101 ?_
                  refine lv_aload_n C.1 C.2.1 dX6_rotor_103 rfl (lv_at hl 0 rfl) ?_
                  refine lv_aload_n C.1 C.2.1 dX6_rotor_104 rfl (lv_at hl 1 rfl) ?_
                  refine gf_6_6_now C hK hP 0 rfl rfl dX6_rotor_105 ?_
                  refine gf_6_0_field C hK hP 1 rfl rfl dX6_rotor_108 ?_
                  obtain ⟨r14, h15, hF⟩ := fb hF
                  refine callVI C hK hA hP hD hS [3 + x1.toNatClampNeg] (c_X2_lost (a_this := a_now_rotors_e x1.toNatClampNeg) (v_sort := (v_now_rotorsF x1.toNatClampNeg).1) (v_grip := (v_now_rotorsF x1.toNatClampNeg).2.1) (v_place := (v_now_rotorsF x1.toNatClampNeg).2.2.1) (v_way := (v_now_rotorsF x1.toNatClampNeg).2.2.2) h15) cv_X2_lost kw2_177 (congrArg (fun z => [z]) (famget 3 (rcell a_now_rotors_e v_now_rotorsF) rfl rfl rfl rfl hk5)) rfl rfl rfl rfl ⟨Nat.le_of_ble_eq_true rfl, Nat.le_of_ble_eq_true rfl⟩ ⟨Nat.zero_le _, Nat.zero_le _⟩ hl.1 rfl (Nat.le_of_ble_eq_true rfl) dX6_rotor_111 (fun H locs hP hD hS => ?_)
                  have hP := va_Pe (setL1.trans (setsame (famget 3 (rcell a_now_rotors_e v_now_rotorsF) rfl rfl rfl rfl hk5))) hP
                  have hD := va_De (setL1.trans (setsame (famget 3 (rcell a_now_rotors_e v_now_rotorsF) rfl rfl rfl rfl hk5))) hD
                  have hP : va_P D vwCl [(a_this, .inr (6, [.ref a_tape, .ref a_now, .ref a_trial, .ref a_sights, .ref a_images, .ref a_sheets, .int v_readFault])), (a_now, .inr (0, [.int v_now_field, .int v_now_tick, .int v_now_pace, .int v_now_signNumber, .int v_now_rotorNumber, .ref a_now_signs, .ref a_now_rotors])), (a_now_rotors, rfn cR 4 a_now_rotors_e), rcell a_now_rotors_e v_now_rotorsF 0, rcell a_now_rotors_e v_now_rotorsF 1, rcell a_now_rotors_e v_now_rotorsF 2, rcell a_now_rotors_e v_now_rotorsF 3] H := hP
                  have hD : va_D A [(a_this, .inr (6, [.ref a_tape, .ref a_now, .ref a_trial, .ref a_sights, .ref a_images, .ref a_sheets, .int v_readFault])), (a_now, .inr (0, [.int v_now_field, .int v_now_tick, .int v_now_pace, .int v_now_signNumber, .int v_now_rotorNumber, .ref a_now_signs, .ref a_now_rotors])), (a_now_rotors, rfn cR 4 a_now_rotors_e), rcell a_now_rotors_e v_now_rotorsF 0, rcell a_now_rotors_e v_now_rotorsF 1, rcell a_now_rotors_e v_now_rotorsF 2, rcell a_now_rotors_e v_now_rotorsF 3] := hD
                  refine lv_iadd C.1 C.2.1 dX6_rotor_114 ?_
                  have hF := Option.some.inj hF
                  subst hF
                  exact retI C hr hlk hP hD hS dX6_rotor_115
                · have hF := fn hF c13
                  refine lv_tableOut (tgt := 116) C.1 C.2.1 dX6_rotor_21 (by have q0 := lv_neT (k := 0) (a := 0) c6 (by decide); have q1 := lv_neT (k := 1) (a := 1) c7 (by decide); have q2 := lv_neT (k := 2) (a := 2) c8 (by decide); have q3 := lv_neT (k := 3) (a := 3) c9 (by decide); have q4 := lv_neT (k := 4) (a := 4) c10 (by decide); have q5 := lv_neT (k := 5) (a := 5) c13 (by decide); omega) (by decide) ?_
                  refine lv_iconst (v := (-1)) C.1 C.2.1 dX6_rotor_116 (by decide) ?_
                  have hF := Option.some.inj hF
                  subst hF
                  exact retI C hr hlk hP hD hS dX6_rotor_117
    · have hF := fp hF c3
      refine lv_iconst (v := (-1)) C.1 C.2.1 dX6_rotor_8 (by decide) ?_
      have hF := Option.some.inj hF
      subst hF
      exact retI C hr hlk hP hD hS dX6_rotor_9)
def rm_X6_hasSign : Room := { frames := 0, cells := 0, slots := 0, locals := 0 }
theorem cv_X6_hasSign : CV yX6_hasSign cX6_hasSign 2 (some .boolean) rm_X6_hasSign RX6 1 := ⟨kw2_184, kwp_14, kw1_1, kw2_185, by decide +kernel, rfl, rfl⟩
set_option maxHeartbeats 4000000 in
set_option maxRecDepth 100000 in
theorem c_X6_hasSign {l : Launch} {D : va_G} {cI cB cZ cR cM cS : ClassId} {a_this : Nat} {a_tape : Nat} {a_now : Nat} {a_trial : Nat} {a_sights : Nat} {a_images : Nat} {a_sheets : Nat} {a_now_signs : Nat} {a_now_rotors : Nat} {v_readFault : Int32} {v_now_field : Int32} {v_now_tick : Int32} {v_now_pace : Int32} {v_now_signNumber : Int32} {v_now_rotorNumber : Int32} {x1 : Int32} {res : Int32} (hF : F_X6_hasSign v_now_signNumber x1 = some res) : MI l yX6_hasSign cX6_hasSign 2 .boolean rm_X6_hasSign D (TS cI cB cZ cR cM cS) [.ref a_this, .int x1] [(a_this, .inr (6, [.ref a_tape, .ref a_now, .ref a_trial, .ref a_sights, .ref a_images, .ref a_sheets, .int v_readFault])), (a_now, .inr (0, [.int v_now_field, .int v_now_tick, .int v_now_pace, .int v_now_signNumber, .int v_now_rotorNumber, .ref a_now_signs, .ref a_now_rotors]))] [(a_this, .inr (6, [.ref a_tape, .ref a_now, .ref a_trial, .ref a_sights, .ref a_images, .ref a_sheets, .int v_readFault])), (a_now, .inr (0, [.int v_now_field, .int v_now_tick, .int v_now_pace, .int v_now_signNumber, .int v_now_rotorNumber, .ref a_now_signs, .ref a_now_rotors]))] res :=
  MI_of (by decide) (Nat.le_of_ble_eq_true rfl) (fun p e s m args below meth c A ls C hr hlk hK hA hP hD hS hl => by
    have C : CX p m c cX6_hasSign 2 s args RX6 := C
    have hl : lv_has ls 2 [(0, .ref a_this), (1, .int x1)] := hl
    unfold F_X6_hasSign at hF
    refine lv_iload_n C.1 C.2.1 dX6_hasSign_0 rfl (lv_at hl 1 rfl) ?_
    refine lv_if_lt (tgt := 19) C.1 C.2.1 dX6_hasSign_1 (by decide) (fun c1 => ?_) (fun c1 => ?_)
    · have hF := fp hF c1
      refine lv_iconst (v := 0) C.1 C.2.1 dX6_hasSign_19 (by decide) ?_
      have hF := Option.some.inj hF
      subst hF
      exact retZ (v := 0) C hr hlk (by decide) hP hD hS dX6_hasSign_20
    · have hF := fn hF c1
      refine lv_iload_n C.1 C.2.1 dX6_hasSign_4 rfl (lv_at hl 1 rfl) ?_
      refine lv_aload_n C.1 C.2.1 dX6_hasSign_5 rfl (lv_at hl 0 rfl) ?_
      refine gf_6_6_now C hK hP 0 rfl rfl dX6_hasSign_6 ?_
      refine gf_6_0_signNumber C hK hP 1 rfl rfl dX6_hasSign_9 ?_
      refine lv_icmp_ge (tgt := 19) C.1 C.2.1 dX6_hasSign_12 (by decide) (fun c2 => ?_) (fun c2 => ?_)
      · have hF := fp hF c2
        refine lv_iconst (v := 0) C.1 C.2.1 dX6_hasSign_19 (by decide) ?_
        have hF := Option.some.inj hF
        subst hF
        exact retZ (v := 0) C hr hlk (by decide) hP hD hS dX6_hasSign_20
      · have hF := fn hF c2
        refine lv_iconst (v := 1) C.1 C.2.1 dX6_hasSign_15 (by decide) ?_
        refine lv_goto (tgt := 20) C.1 C.2.1 dX6_hasSign_16 (by decide) ?_
        have hF := Option.some.inj hF
        subst hF
        exact retZ (v := 1) C hr hlk (by decide) hP hD hS dX6_hasSign_20)
def rm_X6_sign : Room := { frames := 1, cells := 0, slots := 0, locals := 21 }
theorem cv_X6_sign : CV yX6_sign cX6_sign 2 (some .int) rm_X6_sign RX6 1 := ⟨kw2_179, kw2_180, kw1_1, kw2_181, by decide +kernel, rfl, rfl⟩
set_option maxHeartbeats 4000000 in
set_option maxRecDepth 100000 in
theorem c_X6_sign {l : Launch} {D : va_G} {cI cB cZ cR cM cS : ClassId} {a_this : Nat} {a_tape : Nat} {a_now : Nat} {a_trial : Nat} {a_sights : Nat} {a_images : Nat} {a_sheets : Nat} {a_now_signs : Nat} {a_now_rotors : Nat} {v_readFault : Int32} {v_now_field : Int32} {v_now_tick : Int32} {v_now_pace : Int32} {v_now_signNumber : Int32} {v_now_rotorNumber : Int32} {v_now_signs : Nat → Int32} {x1 : Int32} {res : Int32} (hF : F_X6_sign v_now_signNumber v_now_signs x1 = some res) : MI l yX6_sign cX6_sign 2 .int rm_X6_sign D (TS cI cB cZ cR cM cS) [.ref a_this, .int x1] [(a_this, .inr (6, [.ref a_tape, .ref a_now, .ref a_trial, .ref a_sights, .ref a_images, .ref a_sheets, .int v_readFault])), (a_now, .inr (0, [.int v_now_field, .int v_now_tick, .int v_now_pace, .int v_now_signNumber, .int v_now_rotorNumber, .ref a_now_signs, .ref a_now_rotors])), (a_now_signs, .inl (cI, 16, .inl v_now_signs))] [(a_this, .inr (6, [.ref a_tape, .ref a_now, .ref a_trial, .ref a_sights, .ref a_images, .ref a_sheets, .int v_readFault])), (a_now, .inr (0, [.int v_now_field, .int v_now_tick, .int v_now_pace, .int v_now_signNumber, .int v_now_rotorNumber, .ref a_now_signs, .ref a_now_rotors])), (a_now_signs, .inl (cI, 16, .inl v_now_signs))] res :=
  MI_of (by decide) (Nat.le_of_ble_eq_true rfl) (fun p e s m args below meth c A ls C hr hlk hK hA hP hD hS hl => by
    have C : CX p m c cX6_sign 2 s args RX6 := C
    have hl : lv_has ls 2 [(0, .ref a_this), (1, .int x1)] := hl
    unfold F_X6_sign at hF
    refine lv_aload_n C.1 C.2.1 dX6_sign_0 rfl (lv_at hl 0 rfl) ?_
    refine lv_iload_n C.1 C.2.1 dX6_sign_1 rfl (lv_at hl 1 rfl) ?_
    obtain ⟨r1, h2, hF⟩ := fb hF
    refine callVI C hK hA hP hD hS [0, 1] (c_X6_hasSign (a_this := a_this) (a_tape := a_tape) (a_now := a_now) (a_trial := a_trial) (a_sights := a_sights) (a_images := a_images) (a_sheets := a_sheets) (a_now_signs := a_now_signs) (a_now_rotors := a_now_rotors) (v_readFault := v_readFault) (v_now_field := v_now_field) (v_now_tick := v_now_tick) (v_now_pace := v_now_pace) (v_now_signNumber := v_now_signNumber) (v_now_rotorNumber := v_now_rotorNumber) h2) cv_X6_hasSign kw2_182 rfl (by decide) rfl rfl rfl ⟨Nat.le_of_ble_eq_true rfl, Nat.le_of_ble_eq_true rfl⟩ ⟨Nat.zero_le _, Nat.zero_le _⟩ hl.1 rfl (Nat.le_of_ble_eq_true rfl) dX6_sign_2 (fun H locs hP hD hS => ?_)
    have hP : va_P D vwCl [(a_this, .inr (6, [.ref a_tape, .ref a_now, .ref a_trial, .ref a_sights, .ref a_images, .ref a_sheets, .int v_readFault])), (a_now, .inr (0, [.int v_now_field, .int v_now_tick, .int v_now_pace, .int v_now_signNumber, .int v_now_rotorNumber, .ref a_now_signs, .ref a_now_rotors])), (a_now_signs, .inl (cI, 16, .inl v_now_signs))] H := hP
    have hD : va_D A [(a_this, .inr (6, [.ref a_tape, .ref a_now, .ref a_trial, .ref a_sights, .ref a_images, .ref a_sheets, .int v_readFault])), (a_now, .inr (0, [.int v_now_field, .int v_now_tick, .int v_now_pace, .int v_now_signNumber, .int v_now_rotorNumber, .ref a_now_signs, .ref a_now_rotors])), (a_now_signs, .inl (cI, 16, .inl v_now_signs))] := hD
    refine lv_if_eq (tgt := 20) C.1 C.2.1 dX6_sign_5 (by decide) (fun c3 => ?_) (fun c3 => ?_)
    · have hF := fp hF c3
      refine lv_iconst (v := (-1)) C.1 C.2.1 dX6_sign_20 (by decide) ?_
      have hF := Option.some.inj hF
      subst hF
      exact retI C hr hlk hP hD hS dX6_sign_21
    · have hF := fn hF c3
      refine lv_aload_n C.1 C.2.1 dX6_sign_8 rfl (lv_at hl 0 rfl) ?_
      refine gf_6_6_now C hK hP 0 rfl rfl dX6_sign_9 ?_
      refine gf_6_0_signs C hK hP 1 rfl rfl dX6_sign_12 ?_
      refine lv_iload_n C.1 C.2.1 dX6_sign_15 rfl (lv_at hl 1 rfl) ?_
      obtain ⟨h4, hF⟩ := fk hF
      refine va_iald C.1 C.2.1 hK.1 hP 2 0 rfl rfl h4 dX6_sign_16 ?_
      refine lv_goto (tgt := 21) C.1 C.2.1 dX6_sign_17 (by decide) ?_
      have hF := Option.some.inj hF
      subst hF
      exact retI C hr hlk hP hD hS dX6_sign_21)
def rm_X6_alter : Room := { frames := 1, cells := 0, slots := 0, locals := 21 }
theorem cv_X6_alter : CV yX6_alter cX6_alter 6 (some .int) rm_X6_alter RX6 3 := ⟨kw2_187, kw2_188, kw1_1, kw2_189, by decide +kernel, rfl, rfl⟩
set_option maxHeartbeats 4000000 in
set_option maxRecDepth 100000 in
theorem b_X6_alter_26 {l : Launch} {D : va_G} {cI cB cZ cR cM cS : ClassId} {a_this : Nat} {a_tape : Nat} {a_now : Nat} {a_trial : Nat} {a_sights : Nat} {a_images : Nat} {a_sheets : Nat} {a_now_signs : Nat} {a_now_rotors : Nat} {a_now_rotors_e : Nat → Nat} {v_readFault : Int32} {v_now_field : Int32} {v_now_tick : Int32} {v_now_pace : Int32} {v_now_signNumber : Int32} {p : Program} {e : Env} {s : State} {m : MethodId} {args : Array Value} {below : List Frame} {meth : Method} {c : Code} {A : Nat → Prop} {res : Int32 × (Nat → Rot)} (C : CX p m c cX6_alter 6 s args RX6) (hr : meth.sig.returnType = (some .int)) (hlk : meth.locks = false) (hK : KK D (TS cI cB cZ cR cM cS) s) (hA : ∀ q, s.heap.size ≤ q → A q) : ∀ (v_now_rotorNumber : Int32) (v_now_rotorsF : Nat → Rot) (x1 : Int32) (x2 : Int32) (x3 : Int32) (s0 : Int32) (s1 : Int32) (H : Heap) (locs : List Loc) (ls : Array Slot), F_X6_alter_26 v_now_rotorNumber v_now_rotorsF x1 x2 x3 s0 s1 = some res → va_P D vwCl [(a_this, .inr (6, [.ref a_tape, .ref a_now, .ref a_trial, .ref a_sights, .ref a_images, .ref a_sheets, .int v_readFault])), (a_now, .inr (0, [.int v_now_field, .int v_now_tick, .int v_now_pace, .int v_now_signNumber, .int v_now_rotorNumber, .ref a_now_signs, .ref a_now_rotors])), (a_now_rotors, rfn cR 4 a_now_rotors_e), rcell a_now_rotors_e v_now_rotorsF 0, rcell a_now_rotors_e v_now_rotorsF 1, rcell a_now_rotors_e v_now_rotorsF 2, rcell a_now_rotors_e v_now_rotorsF 3] H → va_D A [(a_this, .inr (6, [.ref a_tape, .ref a_now, .ref a_trial, .ref a_sights, .ref a_images, .ref a_sheets, .int v_readFault])), (a_now, .inr (0, [.int v_now_field, .int v_now_tick, .int v_now_pace, .int v_now_signNumber, .int v_now_rotorNumber, .ref a_now_signs, .ref a_now_rotors])), (a_now_rotors, rfn cR 4 a_now_rotors_e), rcell a_now_rotors_e v_now_rotorsF 0, rcell a_now_rotors_e v_now_rotorsF 1, rcell a_now_rotors_e v_now_rotorsF 2, rcell a_now_rotors_e v_now_rotorsF 3] → va_S A s.heap H locs → lv_has ls 6 [(0, .ref a_this), (1, .int x1), (2, .int x2), (3, .int x3)] → W p l e rm_X6_alter s m args below meth c H locs 0 0 (MQ below (va_Qi (fun x (_ : Unit) => x = res.1) (BW D A [(a_this, .inr (6, [.ref a_tape, .ref a_now, .ref a_trial, .ref a_sights, .ref a_images, .ref a_sheets, .int v_readFault])), (a_now, .inr (0, [.int v_now_field, .int v_now_tick, .int v_now_pace, .int v_now_signNumber, .int v_now_rotorNumber, .ref a_now_signs, .ref a_now_rotors])), (a_now_rotors, rfn cR 4 a_now_rotors_e), rcell a_now_rotors_e res.2 0, rcell a_now_rotors_e res.2 1, rcell a_now_rotors_e res.2 2, rcell a_now_rotors_e res.2 3]) A) args s 0 0 A) (F0 m 26 ls [.int s0, .int s1]) := by
  intro v_now_rotorNumber v_now_rotorsF x1 x2 x3 s0 s1 H locs ls hF  hP hD hS hl
  unfold F_X6_alter_26 at hF
  obtain ⟨r1, h2, hF⟩ := fb hF
  refine callSI C hK hA hP hD hS (c_X6_within  h2) cs_X6_within kw1_227 ⟨Nat.le_of_ble_eq_true rfl, Nat.le_of_ble_eq_true rfl⟩ ⟨Nat.zero_le _, Nat.zero_le _⟩ hl.1 rfl (Nat.le_of_ble_eq_true rfl) dX6_alter_26 (fun H locs hP hD hS => ?_)
  refine lv_if_ne (tgt := 34) C.1 C.2.1 dX6_alter_29 (by decide) (fun c3 => ?_) (fun c3 => ?_)
  · have hF := fn hF c3
    refine lv_aload_n C.1 C.2.1 dX6_alter_34 rfl (lv_at hl 0 rfl) ?_
    refine gf_6_6_now C hK hP 0 rfl rfl dX6_alter_35 ?_
    refine gf_6_0_rotors C hK hP 1 rfl rfl dX6_alter_38 ?_
    refine lv_iload_n C.1 C.2.1 dX6_alter_41 rfl (lv_at hl 1 rfl) ?_
    obtain ⟨h4, hF⟩ := fk hF
    refine aldR C hK hP 2 3 rfl rfl h4 dX6_alter_42 ?_
    have hk5 : x1.toNatClampNeg < 4 := Nat.not_le.mp (fun q => h4 (Or.inr q))
    refine lv_astore (lv' := [(4, .ref (a_now_rotors_e x1.toNatClampNeg)), (0, .ref a_this), (1, .int x1), (2, .int x2), (3, .int x3)]) C.1 C.2.1 dX6_alter_43 hl (by decide) rfl (fun ls hl => ?_)
    refine lv_iload_n C.1 C.2.1 dX6_alter_45 rfl (lv_at hl 3 rfl) ?_
    refine lv_if_ne (tgt := 65) C.1 C.2.1 dX6_alter_46 (by decide) (fun c6 => ?_) (fun c6 => ?_)
    · have hF := fn hF c6
      refine lv_aload C.1 C.2.1 dX6_alter_65 (lv_at hl 0 rfl) ?_
      refine gf_6_2_grip C hK hP (3 + x1.toNatClampNeg) (famget 3 (rcell a_now_rotors_e v_now_rotorsF) rfl rfl rfl rfl hk5) rfl dX6_alter_67 ?_
      refine lv_istore (lv' := [(5, .int ((v_now_rotorsF x1.toNatClampNeg).2.1)), (4, .ref (a_now_rotors_e x1.toNatClampNeg)), (0, .ref a_this), (1, .int x1), (2, .int x2), (3, .int x3)]) C.1 C.2.1 dX6_alter_70 hl (by decide) rfl (fun ls hl => ?_)
      refine lv_aload C.1 C.2.1 dX6_alter_72 (lv_at hl 1 rfl) ?_
      refine lv_iload_n C.1 C.2.1 dX6_alter_74 rfl (lv_at hl 5 rfl) ?_
      refine pf_6_2_grip C hK hP hD hS (3 + x1.toNatClampNeg) (famget 3 (rcell a_now_rotors_e v_now_rotorsF) rfl rfl rfl rfl hk5) rfl dX6_alter_75 (fun H locs hP hD hS => ?_)
      have hP := va_Pe (famsetR (a := a_now_rotors_e) (ρ := v_now_rotorsF) 3 rfl rfl rfl rfl hk5 ((v_now_rotorsF x1.toNatClampNeg).1) x3 ((v_now_rotorsF x1.toNatClampNeg).2.2.1) ((v_now_rotorsF x1.toNatClampNeg).2.2.2)) hP
      have hD := va_De (famsetR (a := a_now_rotors_e) (ρ := v_now_rotorsF) 3 rfl rfl rfl rfl hk5 ((v_now_rotorsF x1.toNatClampNeg).1) x3 ((v_now_rotorsF x1.toNatClampNeg).2.2.1) ((v_now_rotorsF x1.toNatClampNeg).2.2.2)) hD
      have hP : va_P D vwCl [(a_this, .inr (6, [.ref a_tape, .ref a_now, .ref a_trial, .ref a_sights, .ref a_images, .ref a_sheets, .int v_readFault])), (a_now, .inr (0, [.int v_now_field, .int v_now_tick, .int v_now_pace, .int v_now_signNumber, .int v_now_rotorNumber, .ref a_now_signs, .ref a_now_rotors])), (a_now_rotors, rfn cR 4 a_now_rotors_e), rcell a_now_rotors_e (up v_now_rotorsF x1.toNatClampNeg ((v_now_rotorsF x1.toNatClampNeg).1, x3, (v_now_rotorsF x1.toNatClampNeg).2.2.1, (v_now_rotorsF x1.toNatClampNeg).2.2.2)) 0, rcell a_now_rotors_e (up v_now_rotorsF x1.toNatClampNeg ((v_now_rotorsF x1.toNatClampNeg).1, x3, (v_now_rotorsF x1.toNatClampNeg).2.2.1, (v_now_rotorsF x1.toNatClampNeg).2.2.2)) 1, rcell a_now_rotors_e (up v_now_rotorsF x1.toNatClampNeg ((v_now_rotorsF x1.toNatClampNeg).1, x3, (v_now_rotorsF x1.toNatClampNeg).2.2.1, (v_now_rotorsF x1.toNatClampNeg).2.2.2)) 2, rcell a_now_rotors_e (up v_now_rotorsF x1.toNatClampNeg ((v_now_rotorsF x1.toNatClampNeg).1, x3, (v_now_rotorsF x1.toNatClampNeg).2.2.1, (v_now_rotorsF x1.toNatClampNeg).2.2.2)) 3] H := hP
      have hD : va_D A [(a_this, .inr (6, [.ref a_tape, .ref a_now, .ref a_trial, .ref a_sights, .ref a_images, .ref a_sheets, .int v_readFault])), (a_now, .inr (0, [.int v_now_field, .int v_now_tick, .int v_now_pace, .int v_now_signNumber, .int v_now_rotorNumber, .ref a_now_signs, .ref a_now_rotors])), (a_now_rotors, rfn cR 4 a_now_rotors_e), rcell a_now_rotors_e (up v_now_rotorsF x1.toNatClampNeg ((v_now_rotorsF x1.toNatClampNeg).1, x3, (v_now_rotorsF x1.toNatClampNeg).2.2.1, (v_now_rotorsF x1.toNatClampNeg).2.2.2)) 0, rcell a_now_rotors_e (up v_now_rotorsF x1.toNatClampNeg ((v_now_rotorsF x1.toNatClampNeg).1, x3, (v_now_rotorsF x1.toNatClampNeg).2.2.1, (v_now_rotorsF x1.toNatClampNeg).2.2.2)) 1, rcell a_now_rotors_e (up v_now_rotorsF x1.toNatClampNeg ((v_now_rotorsF x1.toNatClampNeg).1, x3, (v_now_rotorsF x1.toNatClampNeg).2.2.1, (v_now_rotorsF x1.toNatClampNeg).2.2.2)) 2, rcell a_now_rotors_e (up v_now_rotorsF x1.toNatClampNeg ((v_now_rotorsF x1.toNatClampNeg).1, x3, (v_now_rotorsF x1.toNatClampNeg).2.2.1, (v_now_rotorsF x1.toNatClampNeg).2.2.2)) 3] := hD
      refine lv_iload C.1 C.2.1 dX6_alter_78 (lv_at hl 0 rfl) ?_
      have hF := Option.some.inj hF
      subst hF
      exact retI C hr hlk hP hD hS dX6_alter_80
    · have hF := fp hF c6
      refine lv_aload C.1 C.2.1 dX6_alter_49 (lv_at hl 0 rfl) ?_
      refine gf_6_2_sort C hK hP (3 + x1.toNatClampNeg) (famget 3 (rcell a_now_rotors_e v_now_rotorsF) rfl rfl rfl rfl hk5) rfl dX6_alter_51 ?_
      refine lv_istore (lv' := [(5, .int ((v_now_rotorsF x1.toNatClampNeg).1)), (4, .ref (a_now_rotors_e x1.toNatClampNeg)), (0, .ref a_this), (1, .int x1), (2, .int x2), (3, .int x3)]) C.1 C.2.1 dX6_alter_54 hl (by decide) rfl (fun ls hl => ?_)
      refine lv_aload C.1 C.2.1 dX6_alter_56 (lv_at hl 1 rfl) ?_
      refine lv_iload_n C.1 C.2.1 dX6_alter_58 rfl (lv_at hl 5 rfl) ?_
      refine pf_6_2_sort C hK hP hD hS (3 + x1.toNatClampNeg) (famget 3 (rcell a_now_rotors_e v_now_rotorsF) rfl rfl rfl rfl hk5) rfl dX6_alter_59 (fun H locs hP hD hS => ?_)
      have hP := va_Pe (famsetR (a := a_now_rotors_e) (ρ := v_now_rotorsF) 3 rfl rfl rfl rfl hk5 x3 ((v_now_rotorsF x1.toNatClampNeg).2.1) ((v_now_rotorsF x1.toNatClampNeg).2.2.1) ((v_now_rotorsF x1.toNatClampNeg).2.2.2)) hP
      have hD := va_De (famsetR (a := a_now_rotors_e) (ρ := v_now_rotorsF) 3 rfl rfl rfl rfl hk5 x3 ((v_now_rotorsF x1.toNatClampNeg).2.1) ((v_now_rotorsF x1.toNatClampNeg).2.2.1) ((v_now_rotorsF x1.toNatClampNeg).2.2.2)) hD
      have hP : va_P D vwCl [(a_this, .inr (6, [.ref a_tape, .ref a_now, .ref a_trial, .ref a_sights, .ref a_images, .ref a_sheets, .int v_readFault])), (a_now, .inr (0, [.int v_now_field, .int v_now_tick, .int v_now_pace, .int v_now_signNumber, .int v_now_rotorNumber, .ref a_now_signs, .ref a_now_rotors])), (a_now_rotors, rfn cR 4 a_now_rotors_e), rcell a_now_rotors_e (up v_now_rotorsF x1.toNatClampNeg (x3, (v_now_rotorsF x1.toNatClampNeg).2.1, (v_now_rotorsF x1.toNatClampNeg).2.2.1, (v_now_rotorsF x1.toNatClampNeg).2.2.2)) 0, rcell a_now_rotors_e (up v_now_rotorsF x1.toNatClampNeg (x3, (v_now_rotorsF x1.toNatClampNeg).2.1, (v_now_rotorsF x1.toNatClampNeg).2.2.1, (v_now_rotorsF x1.toNatClampNeg).2.2.2)) 1, rcell a_now_rotors_e (up v_now_rotorsF x1.toNatClampNeg (x3, (v_now_rotorsF x1.toNatClampNeg).2.1, (v_now_rotorsF x1.toNatClampNeg).2.2.1, (v_now_rotorsF x1.toNatClampNeg).2.2.2)) 2, rcell a_now_rotors_e (up v_now_rotorsF x1.toNatClampNeg (x3, (v_now_rotorsF x1.toNatClampNeg).2.1, (v_now_rotorsF x1.toNatClampNeg).2.2.1, (v_now_rotorsF x1.toNatClampNeg).2.2.2)) 3] H := hP
      have hD : va_D A [(a_this, .inr (6, [.ref a_tape, .ref a_now, .ref a_trial, .ref a_sights, .ref a_images, .ref a_sheets, .int v_readFault])), (a_now, .inr (0, [.int v_now_field, .int v_now_tick, .int v_now_pace, .int v_now_signNumber, .int v_now_rotorNumber, .ref a_now_signs, .ref a_now_rotors])), (a_now_rotors, rfn cR 4 a_now_rotors_e), rcell a_now_rotors_e (up v_now_rotorsF x1.toNatClampNeg (x3, (v_now_rotorsF x1.toNatClampNeg).2.1, (v_now_rotorsF x1.toNatClampNeg).2.2.1, (v_now_rotorsF x1.toNatClampNeg).2.2.2)) 0, rcell a_now_rotors_e (up v_now_rotorsF x1.toNatClampNeg (x3, (v_now_rotorsF x1.toNatClampNeg).2.1, (v_now_rotorsF x1.toNatClampNeg).2.2.1, (v_now_rotorsF x1.toNatClampNeg).2.2.2)) 1, rcell a_now_rotors_e (up v_now_rotorsF x1.toNatClampNeg (x3, (v_now_rotorsF x1.toNatClampNeg).2.1, (v_now_rotorsF x1.toNatClampNeg).2.2.1, (v_now_rotorsF x1.toNatClampNeg).2.2.2)) 2, rcell a_now_rotors_e (up v_now_rotorsF x1.toNatClampNeg (x3, (v_now_rotorsF x1.toNatClampNeg).2.1, (v_now_rotorsF x1.toNatClampNeg).2.2.1, (v_now_rotorsF x1.toNatClampNeg).2.2.2)) 3] := hD
      refine lv_goto (tgt := 78) C.1 C.2.1 dX6_alter_62 (by decide) ?_
      refine lv_iload C.1 C.2.1 dX6_alter_78 (lv_at hl 0 rfl) ?_
      have hF := Option.some.inj hF
      subst hF
      exact retI C hr hlk hP hD hS dX6_alter_80
  · have hF := fp hF c3
    refine lv_iconst (v := (-1)) C.1 C.2.1 dX6_alter_32 (by decide) ?_
    have hF := Option.some.inj hF
    subst hF
    exact retI C hr hlk hP hD hS dX6_alter_33
set_option maxHeartbeats 4000000 in
set_option maxRecDepth 100000 in
theorem c0_X6_alter {l : Launch} {D : va_G} {cI cB cZ cR cM cS : ClassId} {a_this : Nat} {a_tape : Nat} {a_now : Nat} {a_trial : Nat} {a_sights : Nat} {a_images : Nat} {a_sheets : Nat} {a_now_signs : Nat} {a_now_rotors : Nat} {a_now_rotors_e : Nat → Nat} {v_readFault : Int32} {v_now_field : Int32} {v_now_tick : Int32} {v_now_pace : Int32} {v_now_signNumber : Int32} {v_now_rotorNumber : Int32} {v_now_rotorsF : Nat → Rot} {x1 : Int32} {x2 : Int32} {x3 : Int32} {res : Int32 × (Nat → Rot)} (hF : F_X6_alter v_now_rotorNumber v_now_rotorsF x1 x2 x3 = some res) : MI l yX6_alter cX6_alter 6 .int rm_X6_alter D (TS cI cB cZ cR cM cS) [.ref a_this, .int x1, .int x2, .int x3] [(a_this, .inr (6, [.ref a_tape, .ref a_now, .ref a_trial, .ref a_sights, .ref a_images, .ref a_sheets, .int v_readFault])), (a_now, .inr (0, [.int v_now_field, .int v_now_tick, .int v_now_pace, .int v_now_signNumber, .int v_now_rotorNumber, .ref a_now_signs, .ref a_now_rotors])), (a_now_rotors, rfn cR 4 a_now_rotors_e), rcell a_now_rotors_e v_now_rotorsF 0, rcell a_now_rotors_e v_now_rotorsF 1, rcell a_now_rotors_e v_now_rotorsF 2, rcell a_now_rotors_e v_now_rotorsF 3] [(a_this, .inr (6, [.ref a_tape, .ref a_now, .ref a_trial, .ref a_sights, .ref a_images, .ref a_sheets, .int v_readFault])), (a_now, .inr (0, [.int v_now_field, .int v_now_tick, .int v_now_pace, .int v_now_signNumber, .int v_now_rotorNumber, .ref a_now_signs, .ref a_now_rotors])), (a_now_rotors, rfn cR 4 a_now_rotors_e), rcell a_now_rotors_e res.2 0, rcell a_now_rotors_e res.2 1, rcell a_now_rotors_e res.2 2, rcell a_now_rotors_e res.2 3] res.1 :=
  MI_of (by decide) (Nat.le_of_ble_eq_true rfl) (fun p e s m args below meth c A ls C hr hlk hK hA hP hD hS hl => by
    have C : CX p m c cX6_alter 6 s args RX6 := C
    have hl : lv_has ls 6 [(0, .ref a_this), (1, .int x1), (2, .int x2), (3, .int x3)] := hl
    unfold F_X6_alter at hF
    refine lv_aload_n C.1 C.2.1 dX6_alter_0 rfl (lv_at hl 0 rfl) ?_
    refine lv_iload_n C.1 C.2.1 dX6_alter_1 rfl (lv_at hl 1 rfl) ?_
    obtain ⟨r1, h2, hF⟩ := fb hF
    refine callVI C hK hA hP hD hS [0, 1] (c_X6_hasRotor (a_this := a_this) (a_tape := a_tape) (a_now := a_now) (a_trial := a_trial) (a_sights := a_sights) (a_images := a_images) (a_sheets := a_sheets) (a_now_signs := a_now_signs) (a_now_rotors := a_now_rotors) (v_readFault := v_readFault) (v_now_field := v_now_field) (v_now_tick := v_now_tick) (v_now_pace := v_now_pace) (v_now_signNumber := v_now_signNumber) (v_now_rotorNumber := v_now_rotorNumber) h2) cv_X6_hasRotor kw2_172 rfl (by decide) rfl rfl rfl ⟨Nat.le_of_ble_eq_true rfl, Nat.le_of_ble_eq_true rfl⟩ ⟨Nat.zero_le _, Nat.zero_le _⟩ hl.1 rfl (Nat.le_of_ble_eq_true rfl) dX6_alter_2 (fun H locs hP hD hS => ?_)
    have hP : va_P D vwCl [(a_this, .inr (6, [.ref a_tape, .ref a_now, .ref a_trial, .ref a_sights, .ref a_images, .ref a_sheets, .int v_readFault])), (a_now, .inr (0, [.int v_now_field, .int v_now_tick, .int v_now_pace, .int v_now_signNumber, .int v_now_rotorNumber, .ref a_now_signs, .ref a_now_rotors])), (a_now_rotors, rfn cR 4 a_now_rotors_e), rcell a_now_rotors_e v_now_rotorsF 0, rcell a_now_rotors_e v_now_rotorsF 1, rcell a_now_rotors_e v_now_rotorsF 2, rcell a_now_rotors_e v_now_rotorsF 3] H := hP
    have hD : va_D A [(a_this, .inr (6, [.ref a_tape, .ref a_now, .ref a_trial, .ref a_sights, .ref a_images, .ref a_sheets, .int v_readFault])), (a_now, .inr (0, [.int v_now_field, .int v_now_tick, .int v_now_pace, .int v_now_signNumber, .int v_now_rotorNumber, .ref a_now_signs, .ref a_now_rotors])), (a_now_rotors, rfn cR 4 a_now_rotors_e), rcell a_now_rotors_e v_now_rotorsF 0, rcell a_now_rotors_e v_now_rotorsF 1, rcell a_now_rotors_e v_now_rotorsF 2, rcell a_now_rotors_e v_now_rotorsF 3] := hD
    refine lv_if_eq (tgt := 32) C.1 C.2.1 dX6_alter_5 (by decide) (fun c3 => ?_) (fun c3 => ?_)
    · have hF := fp hF c3
      refine lv_iconst (v := (-1)) C.1 C.2.1 dX6_alter_32 (by decide) ?_
      have hF := Option.some.inj hF
      subst hF
      exact retI C hr hlk hP hD hS dX6_alter_33
    · have hF := fn hF c3
      refine lv_iload_n C.1 C.2.1 dX6_alter_8 rfl (lv_at hl 2 rfl) ?_
      refine lv_iconst (v := 1) C.1 C.2.1 dX6_alter_9 (by decide) ?_
      obtain ⟨r4, h5, hF⟩ := fb hF
      refine callSI C hK hA hP hD hS (c_X6_within  h5) cs_X6_within kw1_227 ⟨Nat.le_of_ble_eq_true rfl, Nat.le_of_ble_eq_true rfl⟩ ⟨Nat.zero_le _, Nat.zero_le _⟩ hl.1 rfl (Nat.le_of_ble_eq_true rfl) dX6_alter_10 (fun H locs hP hD hS => ?_)
      refine lv_if_eq (tgt := 32) C.1 C.2.1 dX6_alter_13 (by decide) (fun c6 => ?_) (fun c6 => ?_)
      · have hF := fp hF c6
        refine lv_iconst (v := (-1)) C.1 C.2.1 dX6_alter_32 (by decide) ?_
        have hF := Option.some.inj hF
        subst hF
        exact retI C hr hlk hP hD hS dX6_alter_33
      · have hF := fn hF c6
        refine lv_iload_n C.1 C.2.1 dX6_alter_16 rfl (lv_at hl 3 rfl) ?_
        refine lv_iload_n C.1 C.2.1 dX6_alter_17 rfl (lv_at hl 2 rfl) ?_
        refine lv_if_ne (tgt := 25) C.1 C.2.1 dX6_alter_18 (by decide) (fun c7 => ?_) (fun c7 => ?_)
        · have hF := fn hF c7
          refine lv_iconst (v := 3) C.1 C.2.1 dX6_alter_25 (by decide) ?_
          exact b_X6_alter_26 C hr hlk hK hA v_now_rotorNumber v_now_rotorsF x1 x2 x3 (3 : Int32) x3 _ _ _ hF hP hD hS (lv_sub hl [0, 1, 2, 3] rfl)
        · have hF := fp hF c7
          refine lv_iconst (v := 3) C.1 C.2.1 dX6_alter_21 (by decide) ?_
          refine lv_goto (tgt := 26) C.1 C.2.1 dX6_alter_22 (by decide) ?_
          exact b_X6_alter_26 C hr hlk hK hA v_now_rotorNumber v_now_rotorsF x1 x2 x3 (3 : Int32) x3 _ _ _ hF hP hD hS (lv_sub hl [0, 1, 2, 3] rfl))
theorem c_X6_alter {l : Launch} {D : va_G} {cI cB cZ cR cM cS : ClassId} {a_this : Nat} {a_tape : Nat} {a_now : Nat} {a_trial : Nat} {a_sights : Nat} {a_images : Nat} {a_sheets : Nat} {a_now_signs : Nat} {a_now_rotors : Nat} {a_now_rotors_e : Nat → Nat} {v_readFault : Int32} {v_now_field : Int32} {v_now_tick : Int32} {v_now_pace : Int32} {v_now_signNumber : Int32} {v_now_rotorNumber : Int32} {v_now_rotorsF : Nat → Rot} {x1 : Int32} {x2 : Int32} {x3 : Int32} {r_ : Int32} {v_now_rotorsF' : Nat → Rot} (hF : F_X6_alter v_now_rotorNumber v_now_rotorsF x1 x2 x3 = some (r_, v_now_rotorsF')) : MI l yX6_alter cX6_alter 6 .int rm_X6_alter D (TS cI cB cZ cR cM cS) [.ref a_this, .int x1, .int x2, .int x3] [(a_this, .inr (6, [.ref a_tape, .ref a_now, .ref a_trial, .ref a_sights, .ref a_images, .ref a_sheets, .int v_readFault])), (a_now, .inr (0, [.int v_now_field, .int v_now_tick, .int v_now_pace, .int v_now_signNumber, .int v_now_rotorNumber, .ref a_now_signs, .ref a_now_rotors])), (a_now_rotors, rfn cR 4 a_now_rotors_e), rcell a_now_rotors_e v_now_rotorsF 0, rcell a_now_rotors_e v_now_rotorsF 1, rcell a_now_rotors_e v_now_rotorsF 2, rcell a_now_rotors_e v_now_rotorsF 3] [(a_this, .inr (6, [.ref a_tape, .ref a_now, .ref a_trial, .ref a_sights, .ref a_images, .ref a_sheets, .int v_readFault])), (a_now, .inr (0, [.int v_now_field, .int v_now_tick, .int v_now_pace, .int v_now_signNumber, .int v_now_rotorNumber, .ref a_now_signs, .ref a_now_rotors])), (a_now_rotors, rfn cR 4 a_now_rotors_e), rcell a_now_rotors_e v_now_rotorsF' 0, rcell a_now_rotors_e v_now_rotorsF' 1, rcell a_now_rotors_e v_now_rotorsF' 2, rcell a_now_rotors_e v_now_rotorsF' 3] r_ :=
  c0_X6_alter (res := (r_, v_now_rotorsF')) hF
