def rm_X5_endOfRun : Room := { frames := 0, cells := 0, slots := 0, locals := 0 }
theorem cv_X5_endOfRun : CV yX5_endOfRun cX5_endOfRun 5 (some .int) rm_X5_endOfRun RX5 3 := ⟨kw2_12, kwp_1, kw1_2, kw2_13, by decide +kernel, rfl, rfl⟩
set_option maxHeartbeats 4000000 in
set_option maxRecDepth 100000 in
theorem b_X5_endOfRun_3 {l : Launch} {D : va_G} {cI cB cZ cR cM cS : ClassId} {a_this : Nat} {a_bytes : Nat} {a_draft : Nat} {v_fault : Int32} {v_faultPlace : Int32} {v_token : Int32} {v_start : Int32} {v_next : Int32} {v_value : Int32} {v_signsTold : Int32} {v_everyTold : Int32} {p : Program} {e : Env} {s : State} {m : MethodId} {args : Array Value} {below : List Frame} {meth : Method} {c : Code} {A : Nat → Prop} {res : Int32} (C : CX p m c cX5_endOfRun 5 s args RX5) (hr : meth.sig.returnType = (some .int)) (hlk : meth.locks = false) (hK : KK D (TS cI cB cZ cR cM cS) s) (hA : ∀ q, s.heap.size ≤ q → A q) : ∀ (fu : Nat) (v_length : Int32) (v_bytes : Nat → Int32) (x2 : Int32) (x3 : Int32) (x4 : Int32) (H : Heap) (locs : List Loc) (ls : Array Slot), F_X5_endOfRun_3 fu v_length v_bytes x2 x3 x4 = some res → va_P D vwCl [(a_this, .inr (5, [.ref a_bytes, .int v_length, .ref a_draft, .int v_fault, .int v_faultPlace, .int v_token, .int v_start, .int v_next, .int v_value, .int v_signsTold, .int v_everyTold])), (a_bytes, .inl (cB, 160, .inl v_bytes))] H → va_D A [(a_this, .inr (5, [.ref a_bytes, .int v_length, .ref a_draft, .int v_fault, .int v_faultPlace, .int v_token, .int v_start, .int v_next, .int v_value, .int v_signsTold, .int v_everyTold])), (a_bytes, .inl (cB, 160, .inl v_bytes))] → va_S A s.heap H locs → lv_has ls 5 [(0, .ref a_this), (2, .int x2), (3, .int x3), (4, .int x4)] → W p l e rm_X5_endOfRun s m args below meth c H locs 0 0 (MQ below (va_Qi (fun x (_ : Unit) => x = res) (BW D A [(a_this, .inr (5, [.ref a_bytes, .int v_length, .ref a_draft, .int v_fault, .int v_faultPlace, .int v_token, .int v_start, .int v_next, .int v_value, .int v_signsTold, .int v_everyTold])), (a_bytes, .inl (cB, 160, .inl v_bytes))]) A) args s 0 0 A) (F0 m 3 ls []) := by
  intro fu
  induction fu with
  | zero => intro v_length v_bytes x2 x3 x4 H locs ls hF; cases hF
  | succ fu ih =>
    intro v_length v_bytes x2 x3 x4 H locs ls hF  hP hD hS hl
    unfold F_X5_endOfRun_3 at hF
    refine lv_iload C.1 C.2.1 dX5_endOfRun_3 (lv_at hl 3 rfl) ?_
    refine lv_aload_n C.1 C.2.1 dX5_endOfRun_5 rfl (lv_at hl 0 rfl) ?_
    refine gf_5_5_length C hK hP 0 rfl rfl dX5_endOfRun_6 ?_
    refine lv_icmp_ge (tgt := 40) C.1 C.2.1 dX5_endOfRun_9 (by decide) (fun c1 => ?_) (fun c1 => ?_)
    · have hF := fp hF c1
      refine lv_iload C.1 C.2.1 dX5_endOfRun_40 (lv_at hl 3 rfl) ?_
      have hF := Option.some.inj hF
      subst hF
      exact retI C hr hlk hP hD hS dX5_endOfRun_42
    · have hF := fn hF c1
      refine lv_aload_n C.1 C.2.1 dX5_endOfRun_12 rfl (lv_at hl 0 rfl) ?_
      refine gf_5_5_bytes C hK hP 0 rfl rfl dX5_endOfRun_13 ?_
      refine lv_iload C.1 C.2.1 dX5_endOfRun_16 (lv_at hl 3 rfl) ?_
      obtain ⟨h2, hF⟩ := fk hF
      refine va_bald C.1 C.2.1 hK.1 hP 1 1 rfl rfl h2 dX5_endOfRun_18 ?_
      refine lv_iload_n C.1 C.2.1 dX5_endOfRun_19 rfl (lv_at hl 1 rfl) ?_
      refine lv_icmp_lt (tgt := 40) C.1 C.2.1 dX5_endOfRun_20 (by decide) (fun c3 => ?_) (fun c3 => ?_)
      · have hF := fp hF c3
        refine lv_iload C.1 C.2.1 dX5_endOfRun_40 (lv_at hl 3 rfl) ?_
        have hF := Option.some.inj hF
        subst hF
        exact retI C hr hlk hP hD hS dX5_endOfRun_42
      · have hF := fn hF c3
        refine lv_aload_n C.1 C.2.1 dX5_endOfRun_23 rfl (lv_at hl 0 rfl) ?_
        refine gf_5_5_bytes C hK hP 0 rfl rfl dX5_endOfRun_24 ?_
        refine lv_iload C.1 C.2.1 dX5_endOfRun_27 (lv_at hl 3 rfl) ?_
        obtain ⟨h4, hF⟩ := fk hF
        refine va_bald C.1 C.2.1 hK.1 hP 1 1 rfl rfl h4 dX5_endOfRun_29 ?_
        refine lv_iload_n C.1 C.2.1 dX5_endOfRun_30 rfl (lv_at hl 2 rfl) ?_
        refine lv_icmp_gt (tgt := 40) C.1 C.2.1 dX5_endOfRun_31 (by decide) (fun c5 => ?_) (fun c5 => ?_)
        · have hF := fp hF c5
          refine lv_iload C.1 C.2.1 dX5_endOfRun_40 (lv_at hl 3 rfl) ?_
          have hF := Option.some.inj hF
          subst hF
          exact retI C hr hlk hP hD hS dX5_endOfRun_42
        · have hF := fn hF c5
          refine lv_iinc (v := x4 + 1) (lv' := [(4, .int (x4 + 1)), (0, .ref a_this), (2, .int x2), (3, .int x3)]) C.1 C.2.1 dX5_endOfRun_34 hl (k := 3) rfl rfl (by decide) rfl (fun ls hl => ?_)
          refine lv_goto (tgt := 3) C.1 C.2.1 dX5_endOfRun_37 (by decide) ?_
          exact ih v_length v_bytes x2 x3 (x4 + 1) _ _ _ hF hP hD hS (lv_sub hl [1, 2, 3, 0] rfl)
set_option maxHeartbeats 4000000 in
set_option maxRecDepth 100000 in
theorem c_X5_endOfRun {l : Launch} {D : va_G} {cI cB cZ cR cM cS : ClassId} {a_this : Nat} {a_bytes : Nat} {a_draft : Nat} {v_length : Int32} {v_fault : Int32} {v_faultPlace : Int32} {v_token : Int32} {v_start : Int32} {v_next : Int32} {v_value : Int32} {v_signsTold : Int32} {v_everyTold : Int32} {v_bytes : Nat → Int32} {x1 : Int32} {x2 : Int32} {x3 : Int32} {res : Int32} (hF : F_X5_endOfRun v_length v_bytes x1 x2 x3 = some res) : MI l yX5_endOfRun cX5_endOfRun 5 .int rm_X5_endOfRun D (TS cI cB cZ cR cM cS) [.ref a_this, .int x1, .int x2, .int x3] [(a_this, .inr (5, [.ref a_bytes, .int v_length, .ref a_draft, .int v_fault, .int v_faultPlace, .int v_token, .int v_start, .int v_next, .int v_value, .int v_signsTold, .int v_everyTold])), (a_bytes, .inl (cB, 160, .inl v_bytes))] [(a_this, .inr (5, [.ref a_bytes, .int v_length, .ref a_draft, .int v_fault, .int v_faultPlace, .int v_token, .int v_start, .int v_next, .int v_value, .int v_signsTold, .int v_everyTold])), (a_bytes, .inl (cB, 160, .inl v_bytes))] res :=
  MI_of (by decide) (Nat.le_of_ble_eq_true rfl) (fun p e s m args below meth c A ls C hr hlk hK hA hP hD hS hl => by
    have C : CX p m c cX5_endOfRun 5 s args RX5 := C
    have hl : lv_has ls 5 [(0, .ref a_this), (1, .int x1), (2, .int x2), (3, .int x3)] := hl
    unfold F_X5_endOfRun at hF
    refine lv_iload_n C.1 C.2.1 dX5_endOfRun_0 rfl (lv_at hl 1 rfl) ?_
    refine lv_istore (lv' := [(4, .int x1), (0, .ref a_this), (1, .int x1), (2, .int x2), (3, .int x3)]) C.1 C.2.1 dX5_endOfRun_1 hl (by decide) rfl (fun ls hl => ?_)
    exact b_X5_endOfRun_3 C hr hlk hK hA FU v_length v_bytes x2 x3 x1 _ _ _ hF hP hD hS (lv_sub hl [1, 3, 4, 0] rfl))
def rm_X5_refuse : Room := { frames := 0, cells := 0, slots := 0, locals := 0 }
theorem cv_X5_refuse : CV yX5_refuse cX5_refuse 2 (some .boolean) rm_X5_refuse RX5 1 := ⟨kw2_20, kwp_3, kw1_2, kw2_21, by decide +kernel, rfl, rfl⟩
set_option maxHeartbeats 4000000 in
set_option maxRecDepth 100000 in
theorem c0_X5_refuse {l : Launch} {D : va_G} {cI cB cZ cR cM cS : ClassId} {a_this : Nat} {a_bytes : Nat} {a_draft : Nat} {v_length : Int32} {v_fault : Int32} {v_faultPlace : Int32} {v_token : Int32} {v_start : Int32} {v_next : Int32} {v_value : Int32} {v_signsTold : Int32} {v_everyTold : Int32} {x1 : Int32} {res : Int32 × Int32 × Int32} (hF : F_X5_refuse v_fault v_faultPlace v_start x1 = some res) : MI l yX5_refuse cX5_refuse 2 .boolean rm_X5_refuse D (TS cI cB cZ cR cM cS) [.ref a_this, .int x1] [(a_this, .inr (5, [.ref a_bytes, .int v_length, .ref a_draft, .int v_fault, .int v_faultPlace, .int v_token, .int v_start, .int v_next, .int v_value, .int v_signsTold, .int v_everyTold]))] [(a_this, .inr (5, [.ref a_bytes, .int v_length, .ref a_draft, .int res.2.1, .int res.2.2, .int v_token, .int v_start, .int v_next, .int v_value, .int v_signsTold, .int v_everyTold]))] res.1 :=
  MI_of (by decide) (Nat.le_of_ble_eq_true rfl) (fun p e s m args below meth c A ls C hr hlk hK hA hP hD hS hl => by
    have C : CX p m c cX5_refuse 2 s args RX5 := C
    have hl : lv_has ls 2 [(0, .ref a_this), (1, .int x1)] := hl
    unfold F_X5_refuse at hF
    refine lv_aload_n C.1 C.2.1 dX5_refuse_0 rfl (lv_at hl 0 rfl) ?_
    refine lv_iload_n C.1 C.2.1 dX5_refuse_1 rfl (lv_at hl 1 rfl) ?_
    refine pf_5_5_fault C hK hP hD hS 0 rfl rfl dX5_refuse_2 (fun H locs hP hD hS => ?_)
    have hP : va_P D vwCl [(a_this, .inr (5, [.ref a_bytes, .int v_length, .ref a_draft, .int x1, .int v_faultPlace, .int v_token, .int v_start, .int v_next, .int v_value, .int v_signsTold, .int v_everyTold]))] H := hP
    have hD : va_D A [(a_this, .inr (5, [.ref a_bytes, .int v_length, .ref a_draft, .int x1, .int v_faultPlace, .int v_token, .int v_start, .int v_next, .int v_value, .int v_signsTold, .int v_everyTold]))] := hD
    refine lv_aload_n C.1 C.2.1 dX5_refuse_5 rfl (lv_at hl 0 rfl) ?_
    refine lv_aload_n C.1 C.2.1 dX5_refuse_6 rfl (lv_at hl 0 rfl) ?_
    refine gf_5_5_start C hK hP 0 rfl rfl dX5_refuse_7 ?_
    refine pf_5_5_faultPlace C hK hP hD hS 0 rfl rfl dX5_refuse_10 (fun H locs hP hD hS => ?_)
    have hP : va_P D vwCl [(a_this, .inr (5, [.ref a_bytes, .int v_length, .ref a_draft, .int x1, .int v_start, .int v_token, .int v_start, .int v_next, .int v_value, .int v_signsTold, .int v_everyTold]))] H := hP
    have hD : va_D A [(a_this, .inr (5, [.ref a_bytes, .int v_length, .ref a_draft, .int x1, .int v_start, .int v_token, .int v_start, .int v_next, .int v_value, .int v_signsTold, .int v_everyTold]))] := hD
    refine lv_iconst (v := 0) C.1 C.2.1 dX5_refuse_13 (by decide) ?_
    have hF := Option.some.inj hF
    subst hF
    exact retZ (v := 0) C hr hlk (by decide) hP hD hS dX5_refuse_14)
theorem c_X5_refuse {l : Launch} {D : va_G} {cI cB cZ cR cM cS : ClassId} {a_this : Nat} {a_bytes : Nat} {a_draft : Nat} {v_length : Int32} {v_fault : Int32} {v_faultPlace : Int32} {v_token : Int32} {v_start : Int32} {v_next : Int32} {v_value : Int32} {v_signsTold : Int32} {v_everyTold : Int32} {x1 : Int32} {r_ : Int32} {v_fault' : Int32} {v_faultPlace' : Int32} (hF : F_X5_refuse v_fault v_faultPlace v_start x1 = some (r_, v_fault', v_faultPlace')) : MI l yX5_refuse cX5_refuse 2 .boolean rm_X5_refuse D (TS cI cB cZ cR cM cS) [.ref a_this, .int x1] [(a_this, .inr (5, [.ref a_bytes, .int v_length, .ref a_draft, .int v_fault, .int v_faultPlace, .int v_token, .int v_start, .int v_next, .int v_value, .int v_signsTold, .int v_everyTold]))] [(a_this, .inr (5, [.ref a_bytes, .int v_length, .ref a_draft, .int v_fault', .int v_faultPlace', .int v_token, .int v_start, .int v_next, .int v_value, .int v_signsTold, .int v_everyTold]))] r_ :=
  c0_X5_refuse (res := (r_, v_fault', v_faultPlace')) hF
def rm_X5_readValue : Room := { frames := 0, cells := 0, slots := 0, locals := 0 }
theorem cv_X5_readValue : CV yX5_readValue cX5_readValue 2 (some .boolean) rm_X5_readValue RX5 0 := ⟨kw2_16, kwp_2, kw1_2, kw2_17, by decide +kernel, rfl, rfl⟩
set_option maxHeartbeats 4000000 in
set_option maxRecDepth 100000 in
theorem b_X5_readValue_10 {l : Launch} {D : va_G} {cI cB cZ cR cM cS : ClassId} {a_this : Nat} {a_bytes : Nat} {a_draft : Nat} {v_length : Int32} {v_fault : Int32} {v_faultPlace : Int32} {v_token : Int32} {v_signsTold : Int32} {v_everyTold : Int32} {p : Program} {e : Env} {s : State} {m : MethodId} {args : Array Value} {below : List Frame} {meth : Method} {c : Code} {A : Nat → Prop} {res : Int32 × Int32} (C : CX p m c cX5_readValue 2 s args RX5) (hr : meth.sig.returnType = (some .boolean)) (hlk : meth.locks = false) (hK : KK D (TS cI cB cZ cR cM cS) s) (hA : ∀ q, s.heap.size ≤ q → A q) : ∀ (fu : Nat) (v_start : Int32) (v_next : Int32) (v_value : Int32) (v_bytes : Nat → Int32) (x1 : Int32) (H : Heap) (locs : List Loc) (ls : Array Slot), F_X5_readValue_10 fu v_start v_next v_value v_bytes x1 = some res → va_P D vwCl [(a_this, .inr (5, [.ref a_bytes, .int v_length, .ref a_draft, .int v_fault, .int v_faultPlace, .int v_token, .int v_start, .int v_next, .int v_value, .int v_signsTold, .int v_everyTold])), (a_bytes, .inl (cB, 160, .inl v_bytes))] H → va_D A [(a_this, .inr (5, [.ref a_bytes, .int v_length, .ref a_draft, .int v_fault, .int v_faultPlace, .int v_token, .int v_start, .int v_next, .int v_value, .int v_signsTold, .int v_everyTold])), (a_bytes, .inl (cB, 160, .inl v_bytes))] → va_S A s.heap H locs → lv_has ls 2 [(0, .ref a_this), (1, .int x1)] → W p l e rm_X5_readValue s m args below meth c H locs 0 0 (MQ below (va_Qi (fun x (_ : Unit) => x = res.1) (BW D A [(a_this, .inr (5, [.ref a_bytes, .int v_length, .ref a_draft, .int v_fault, .int v_faultPlace, .int v_token, .int v_start, .int v_next, .int res.2, .int v_signsTold, .int v_everyTold])), (a_bytes, .inl (cB, 160, .inl v_bytes))]) A) args s 0 0 A) (F0 m 10 ls []) := by
  intro fu
  induction fu with
  | zero => intro v_start v_next v_value v_bytes x1 H locs ls hF; cases hF
  | succ fu ih =>
    intro v_start v_next v_value v_bytes x1 H locs ls hF  hP hD hS hl
    unfold F_X5_readValue_10 at hF
    refine lv_iload_n C.1 C.2.1 dX5_readValue_10 rfl (lv_at hl 1 rfl) ?_
    refine lv_aload_n C.1 C.2.1 dX5_readValue_11 rfl (lv_at hl 0 rfl) ?_
    refine gf_5_5_next C hK hP 0 rfl rfl dX5_readValue_12 ?_
    refine lv_icmp_ge (tgt := 45) C.1 C.2.1 dX5_readValue_15 (by decide) (fun c1 => ?_) (fun c1 => ?_)
    · have hF := fp hF c1
      refine lv_iconst (v := 1) C.1 C.2.1 dX5_readValue_45 (by decide) ?_
      have hF := Option.some.inj hF
      subst hF
      exact retZ (v := 1) C hr hlk (by decide) hP hD hS dX5_readValue_46
    · have hF := fn hF c1
      refine lv_aload_n C.1 C.2.1 dX5_readValue_18 rfl (lv_at hl 0 rfl) ?_
      refine lv_bipush (v := 10) C.1 C.2.1 dX5_readValue_19 (by decide) ?_
      refine lv_aload_n C.1 C.2.1 dX5_readValue_21 rfl (lv_at hl 0 rfl) ?_
      refine gf_5_5_value C hK hP 0 rfl rfl dX5_readValue_22 ?_
      refine lv_imul C.1 C.2.1 dX5_readValue_25 ?_
      refine lv_aload_n C.1 C.2.1 dX5_readValue_26 rfl (lv_at hl 0 rfl) ?_
      refine gf_5_5_bytes C hK hP 0 rfl rfl dX5_readValue_27 ?_
      refine lv_iload_n C.1 C.2.1 dX5_readValue_30 rfl (lv_at hl 1 rfl) ?_
      obtain ⟨h2, hF⟩ := fk hF
      refine va_bald C.1 C.2.1 hK.1 hP 1 1 rfl rfl h2 dX5_readValue_31 ?_
      refine lv_iadd C.1 C.2.1 dX5_readValue_32 ?_
      refine lv_bipush (v := 48) C.1 C.2.1 dX5_readValue_33 (by decide) ?_
      refine lv_isub C.1 C.2.1 dX5_readValue_35 ?_
      refine pf_5_5_value C hK hP hD hS 0 rfl rfl dX5_readValue_36 (fun H locs hP hD hS => ?_)
      have hP : va_P D vwCl [(a_this, .inr (5, [.ref a_bytes, .int v_length, .ref a_draft, .int v_fault, .int v_faultPlace, .int v_token, .int v_start, .int v_next, .int ((((10 : Int32) * v_value) + (v_bytes x1.toNatClampNeg)) - (48 : Int32)), .int v_signsTold, .int v_everyTold])), (a_bytes, .inl (cB, 160, .inl v_bytes))] H := hP
      have hD : va_D A [(a_this, .inr (5, [.ref a_bytes, .int v_length, .ref a_draft, .int v_fault, .int v_faultPlace, .int v_token, .int v_start, .int v_next, .int ((((10 : Int32) * v_value) + (v_bytes x1.toNatClampNeg)) - (48 : Int32)), .int v_signsTold, .int v_everyTold])), (a_bytes, .inl (cB, 160, .inl v_bytes))] := hD
      refine lv_iinc (v := x1 + 1) (lv' := [(1, .int (x1 + 1)), (0, .ref a_this)]) C.1 C.2.1 dX5_readValue_39 hl (k := 1) rfl rfl (by decide) rfl (fun ls hl => ?_)
      refine lv_goto (tgt := 10) C.1 C.2.1 dX5_readValue_42 (by decide) ?_
      exact ih v_start v_next ((((10 : Int32) * v_value) + (v_bytes x1.toNatClampNeg)) - (48 : Int32)) v_bytes (x1 + 1) _ _ _ hF hP hD hS (lv_sub hl [1, 0] rfl)
set_option maxHeartbeats 4000000 in
set_option maxRecDepth 100000 in
theorem c0_X5_readValue {l : Launch} {D : va_G} {cI cB cZ cR cM cS : ClassId} {a_this : Nat} {a_bytes : Nat} {a_draft : Nat} {v_length : Int32} {v_fault : Int32} {v_faultPlace : Int32} {v_token : Int32} {v_start : Int32} {v_next : Int32} {v_value : Int32} {v_signsTold : Int32} {v_everyTold : Int32} {v_bytes : Nat → Int32} {res : Int32 × Int32} (hF : F_X5_readValue v_start v_next v_value v_bytes = some res) : MI l yX5_readValue cX5_readValue 2 .boolean rm_X5_readValue D (TS cI cB cZ cR cM cS) [.ref a_this] [(a_this, .inr (5, [.ref a_bytes, .int v_length, .ref a_draft, .int v_fault, .int v_faultPlace, .int v_token, .int v_start, .int v_next, .int v_value, .int v_signsTold, .int v_everyTold])), (a_bytes, .inl (cB, 160, .inl v_bytes))] [(a_this, .inr (5, [.ref a_bytes, .int v_length, .ref a_draft, .int v_fault, .int v_faultPlace, .int v_token, .int v_start, .int v_next, .int res.2, .int v_signsTold, .int v_everyTold])), (a_bytes, .inl (cB, 160, .inl v_bytes))] res.1 :=
  MI_of (by decide) (Nat.le_of_ble_eq_true rfl) (fun p e s m args below meth c A ls C hr hlk hK hA hP hD hS hl => by
    have C : CX p m c cX5_readValue 2 s args RX5 := C
    have hl : lv_has ls 2 [(0, .ref a_this)] := hl
    unfold F_X5_readValue at hF
    refine lv_aload_n C.1 C.2.1 dX5_readValue_0 rfl (lv_at hl 0 rfl) ?_
    refine lv_iconst (v := 0) C.1 C.2.1 dX5_readValue_1 (by decide) ?_
    refine pf_5_5_value C hK hP hD hS 0 rfl rfl dX5_readValue_2 (fun H locs hP hD hS => ?_)
    have hP : va_P D vwCl [(a_this, .inr (5, [.ref a_bytes, .int v_length, .ref a_draft, .int v_fault, .int v_faultPlace, .int v_token, .int v_start, .int v_next, .int (0 : Int32), .int v_signsTold, .int v_everyTold])), (a_bytes, .inl (cB, 160, .inl v_bytes))] H := hP
    have hD : va_D A [(a_this, .inr (5, [.ref a_bytes, .int v_length, .ref a_draft, .int v_fault, .int v_faultPlace, .int v_token, .int v_start, .int v_next, .int (0 : Int32), .int v_signsTold, .int v_everyTold])), (a_bytes, .inl (cB, 160, .inl v_bytes))] := hD
    refine lv_aload_n C.1 C.2.1 dX5_readValue_5 rfl (lv_at hl 0 rfl) ?_
    refine gf_5_5_start C hK hP 0 rfl rfl dX5_readValue_6 ?_
    refine lv_istore_n (lv' := [(1, .int v_start), (0, .ref a_this)]) C.1 C.2.1 dX5_readValue_9 rfl hl (by decide) rfl (fun ls hl => ?_)
    exact b_X5_readValue_10 C hr hlk hK hA FU v_start v_next (0 : Int32) v_bytes v_start _ _ _ hF hP hD hS (lv_sub hl [1, 0] rfl))
theorem c_X5_readValue {l : Launch} {D : va_G} {cI cB cZ cR cM cS : ClassId} {a_this : Nat} {a_bytes : Nat} {a_draft : Nat} {v_length : Int32} {v_fault : Int32} {v_faultPlace : Int32} {v_token : Int32} {v_start : Int32} {v_next : Int32} {v_value : Int32} {v_signsTold : Int32} {v_everyTold : Int32} {v_bytes : Nat → Int32} {r_ : Int32} {v_value' : Int32} (hF : F_X5_readValue v_start v_next v_value v_bytes = some (r_, v_value')) : MI l yX5_readValue cX5_readValue 2 .boolean rm_X5_readValue D (TS cI cB cZ cR cM cS) [.ref a_this] [(a_this, .inr (5, [.ref a_bytes, .int v_length, .ref a_draft, .int v_fault, .int v_faultPlace, .int v_token, .int v_start, .int v_next, .int v_value, .int v_signsTold, .int v_everyTold])), (a_bytes, .inl (cB, 160, .inl v_bytes))] [(a_this, .inr (5, [.ref a_bytes, .int v_length, .ref a_draft, .int v_fault, .int v_faultPlace, .int v_token, .int v_start, .int v_next, .int v_value', .int v_signsTold, .int v_everyTold])), (a_bytes, .inl (cB, 160, .inl v_bytes))] r_ :=
  c0_X5_readValue (res := (r_, v_value')) hF
def rm_X5_readToken : Room := { frames := 1, cells := 0, slots := 0, locals := 24 }
theorem cv_X5_readToken : CV yX5_readToken cX5_readToken 2 (some .boolean) rm_X5_readToken RX5 0 := ⟨kw2_8, kwp_0, kw1_2, kw2_9, by decide +kernel, rfl, rfl⟩
set_option maxHeartbeats 4000000 in
set_option maxRecDepth 100000 in
theorem b_X5_readToken_169 {l : Launch} {D : va_G} {cI cB cZ cR cM cS : ClassId} {a_this : Nat} {a_bytes : Nat} {a_draft : Nat} {v_signsTold : Int32} {v_everyTold : Int32} {p : Program} {e : Env} {s : State} {m : MethodId} {args : Array Value} {below : List Frame} {meth : Method} {c : Code} {A : Nat → Prop} {res : Int32 × Int32 × Int32 × Int32 × Int32 × Int32 × Int32} (C : CX p m c cX5_readToken 2 s args RX5) (hr : meth.sig.returnType = (some .boolean)) (hlk : meth.locks = false) (hK : KK D (TS cI cB cZ cR cM cS) s) (hA : ∀ q, s.heap.size ≤ q → A q) : ∀ (v_length : Int32) (v_fault : Int32) (v_faultPlace : Int32) (v_token : Int32) (v_start : Int32) (v_next : Int32) (v_value : Int32) (v_bytes : Nat → Int32) (H : Heap) (locs : List Loc) (ls : Array Slot), F_X5_readToken_169 v_length v_fault v_faultPlace v_token v_start v_next v_value v_bytes = some res → va_P D vwCl [(a_this, .inr (5, [.ref a_bytes, .int v_length, .ref a_draft, .int v_fault, .int v_faultPlace, .int v_token, .int v_start, .int v_next, .int v_value, .int v_signsTold, .int v_everyTold])), (a_bytes, .inl (cB, 160, .inl v_bytes))] H → va_D A [(a_this, .inr (5, [.ref a_bytes, .int v_length, .ref a_draft, .int v_fault, .int v_faultPlace, .int v_token, .int v_start, .int v_next, .int v_value, .int v_signsTold, .int v_everyTold])), (a_bytes, .inl (cB, 160, .inl v_bytes))] → va_S A s.heap H locs → lv_has ls 2 [(0, .ref a_this)] → W p l e rm_X5_readToken s m args below meth c H locs 0 0 (MQ below (va_Qi (fun x (_ : Unit) => x = res.1) (BW D A [(a_this, .inr (5, [.ref a_bytes, .int v_length, .ref a_draft, .int res.2.1, .int res.2.2.1, .int res.2.2.2.1, .int res.2.2.2.2.1, .int res.2.2.2.2.2.1, .int res.2.2.2.2.2.2, .int v_signsTold, .int v_everyTold])), (a_bytes, .inl (cB, 160, .inl v_bytes))]) A) args s 0 0 A) (F0 m 169 ls []) := by
  intro v_length v_fault v_faultPlace v_token v_start v_next v_value v_bytes H locs ls hF  hP hD hS hl
  unfold F_X5_readToken_169 at hF
  refine lv_aload_n C.1 C.2.1 dX5_readToken_169 rfl (lv_at hl 0 rfl) ?_
  refine lv_iconst (v := 1) C.1 C.2.1 dX5_readToken_170 (by decide) ?_
  obtain ⟨⟨r1, w2, w3⟩, h4, hF⟩ := fb hF
  refine callVI C hK hA hP hD hS [0] (c_X5_refuse (a_this := a_this) (a_bytes := a_bytes) (a_draft := a_draft) (v_length := v_length) (v_fault := v_fault) (v_faultPlace := v_faultPlace) (v_token := v_token) (v_start := v_start) (v_next := v_next) (v_value := v_value) (v_signsTold := v_signsTold) (v_everyTold := v_everyTold) h4) cv_X5_refuse kw2_18 rfl (by decide) rfl rfl rfl ⟨Nat.le_of_ble_eq_true rfl, Nat.le_of_ble_eq_true rfl⟩ ⟨Nat.zero_le _, Nat.zero_le _⟩ hl.1 rfl (Nat.le_of_ble_eq_true rfl) dX5_readToken_171 (fun H locs hP hD hS => ?_)
  have hP : va_P D vwCl [(a_this, .inr (5, [.ref a_bytes, .int v_length, .ref a_draft, .int w2, .int w3, .int v_token, .int v_start, .int v_next, .int v_value, .int v_signsTold, .int v_everyTold])), (a_bytes, .inl (cB, 160, .inl v_bytes))] H := hP
  have hD : va_D A [(a_this, .inr (5, [.ref a_bytes, .int v_length, .ref a_draft, .int w2, .int w3, .int v_token, .int v_start, .int v_next, .int v_value, .int v_signsTold, .int v_everyTold])), (a_bytes, .inl (cB, 160, .inl v_bytes))] := hD
  obtain ⟨h5, hF⟩ := fk hF
  have hF := Option.some.inj hF
  subst hF
  exact retZ C hr hlk (narZ h5) hP hD hS dX5_readToken_174
set_option maxHeartbeats 4000000 in
set_option maxRecDepth 100000 in
theorem b_X5_readToken_110 {l : Launch} {D : va_G} {cI cB cZ cR cM cS : ClassId} {a_this : Nat} {a_bytes : Nat} {a_draft : Nat} {v_signsTold : Int32} {v_everyTold : Int32} {p : Program} {e : Env} {s : State} {m : MethodId} {args : Array Value} {below : List Frame} {meth : Method} {c : Code} {A : Nat → Prop} {res : Int32 × Int32 × Int32 × Int32 × Int32 × Int32 × Int32} (C : CX p m c cX5_readToken 2 s args RX5) (hr : meth.sig.returnType = (some .boolean)) (hlk : meth.locks = false) (hK : KK D (TS cI cB cZ cR cM cS) s) (hA : ∀ q, s.heap.size ≤ q → A q) : ∀ (v_length : Int32) (v_fault : Int32) (v_faultPlace : Int32) (v_token : Int32) (v_start : Int32) (v_next : Int32) (v_value : Int32) (v_bytes : Nat → Int32) (x1 : Int32) (H : Heap) (locs : List Loc) (ls : Array Slot), F_X5_readToken_110 v_length v_fault v_faultPlace v_token v_start v_next v_value v_bytes x1 = some res → va_P D vwCl [(a_this, .inr (5, [.ref a_bytes, .int v_length, .ref a_draft, .int v_fault, .int v_faultPlace, .int v_token, .int v_start, .int v_next, .int v_value, .int v_signsTold, .int v_everyTold])), (a_bytes, .inl (cB, 160, .inl v_bytes))] H → va_D A [(a_this, .inr (5, [.ref a_bytes, .int v_length, .ref a_draft, .int v_fault, .int v_faultPlace, .int v_token, .int v_start, .int v_next, .int v_value, .int v_signsTold, .int v_everyTold])), (a_bytes, .inl (cB, 160, .inl v_bytes))] → va_S A s.heap H locs → lv_has ls 2 [(0, .ref a_this), (1, .int x1)] → W p l e rm_X5_readToken s m args below meth c H locs 0 0 (MQ below (va_Qi (fun x (_ : Unit) => x = res.1) (BW D A [(a_this, .inr (5, [.ref a_bytes, .int v_length, .ref a_draft, .int res.2.1, .int res.2.2.1, .int res.2.2.2.1, .int res.2.2.2.2.1, .int res.2.2.2.2.2.1, .int res.2.2.2.2.2.2, .int v_signsTold, .int v_everyTold])), (a_bytes, .inl (cB, 160, .inl v_bytes))]) A) args s 0 0 A) (F0 m 110 ls []) := by
  intro v_length v_fault v_faultPlace v_token v_start v_next v_value v_bytes x1 H locs ls hF  hP hD hS hl
  unfold F_X5_readToken_110 at hF
  refine lv_iload_n C.1 C.2.1 dX5_readToken_110 rfl (lv_at hl 1 rfl) ?_
  refine lv_bipush (v := 48) C.1 C.2.1 dX5_readToken_111 (by decide) ?_
  refine lv_icmp_lt (tgt := 169) C.1 C.2.1 dX5_readToken_113 (by decide) (fun c1 => ?_) (fun c1 => ?_)
  · have hF := fp hF c1
    exact b_X5_readToken_169 C hr hlk hK hA v_length v_fault v_faultPlace v_token v_start v_next v_value v_bytes _ _ _ hF hP hD hS (lv_sub hl [0] rfl)
  · have hF := fn hF c1
    refine lv_iload_n C.1 C.2.1 dX5_readToken_116 rfl (lv_at hl 1 rfl) ?_
    refine lv_bipush (v := 57) C.1 C.2.1 dX5_readToken_117 (by decide) ?_
    refine lv_icmp_gt (tgt := 169) C.1 C.2.1 dX5_readToken_119 (by decide) (fun c2 => ?_) (fun c2 => ?_)
    · have hF := fp hF c2
      exact b_X5_readToken_169 C hr hlk hK hA v_length v_fault v_faultPlace v_token v_start v_next v_value v_bytes _ _ _ hF hP hD hS (lv_sub hl [0] rfl)
    · have hF := fn hF c2
      refine lv_aload_n C.1 C.2.1 dX5_readToken_122 rfl (lv_at hl 0 rfl) ?_
      refine lv_iconst (v := 2) C.1 C.2.1 dX5_readToken_123 (by decide) ?_
      refine pf_5_5_token C hK hP hD hS 0 rfl rfl dX5_readToken_124 (fun H locs hP hD hS => ?_)
      have hP : va_P D vwCl [(a_this, .inr (5, [.ref a_bytes, .int v_length, .ref a_draft, .int v_fault, .int v_faultPlace, .int (2 : Int32), .int v_start, .int v_next, .int v_value, .int v_signsTold, .int v_everyTold])), (a_bytes, .inl (cB, 160, .inl v_bytes))] H := hP
      have hD : va_D A [(a_this, .inr (5, [.ref a_bytes, .int v_length, .ref a_draft, .int v_fault, .int v_faultPlace, .int (2 : Int32), .int v_start, .int v_next, .int v_value, .int v_signsTold, .int v_everyTold])), (a_bytes, .inl (cB, 160, .inl v_bytes))] := hD
      refine lv_aload_n C.1 C.2.1 dX5_readToken_127 rfl (lv_at hl 0 rfl) ?_
      refine lv_aload_n C.1 C.2.1 dX5_readToken_128 rfl (lv_at hl 0 rfl) ?_
      refine lv_aload_n C.1 C.2.1 dX5_readToken_129 rfl (lv_at hl 0 rfl) ?_
      refine gf_5_5_start C hK hP 0 rfl rfl dX5_readToken_130 ?_
      refine lv_bipush (v := 48) C.1 C.2.1 dX5_readToken_133 (by decide) ?_
      refine lv_bipush (v := 57) C.1 C.2.1 dX5_readToken_135 (by decide) ?_
      obtain ⟨r3, h4, hF⟩ := fb hF
      refine callVI C hK hA hP hD hS [0, 1] (c_X5_endOfRun (a_this := a_this) (a_bytes := a_bytes) (a_draft := a_draft) (v_length := v_length) (v_fault := v_fault) (v_faultPlace := v_faultPlace) (v_token := (2 : Int32)) (v_start := v_start) (v_next := v_next) (v_value := v_value) (v_signsTold := v_signsTold) (v_everyTold := v_everyTold) (v_bytes := v_bytes) h4) cv_X5_endOfRun kw2_10 rfl (by decide) rfl rfl rfl ⟨Nat.le_of_ble_eq_true rfl, Nat.le_of_ble_eq_true rfl⟩ ⟨Nat.zero_le _, Nat.zero_le _⟩ hl.1 rfl (Nat.le_of_ble_eq_true rfl) dX5_readToken_137 (fun H locs hP hD hS => ?_)
      have hP : va_P D vwCl [(a_this, .inr (5, [.ref a_bytes, .int v_length, .ref a_draft, .int v_fault, .int v_faultPlace, .int (2 : Int32), .int v_start, .int v_next, .int v_value, .int v_signsTold, .int v_everyTold])), (a_bytes, .inl (cB, 160, .inl v_bytes))] H := hP
      have hD : va_D A [(a_this, .inr (5, [.ref a_bytes, .int v_length, .ref a_draft, .int v_fault, .int v_faultPlace, .int (2 : Int32), .int v_start, .int v_next, .int v_value, .int v_signsTold, .int v_everyTold])), (a_bytes, .inl (cB, 160, .inl v_bytes))] := hD
      refine pf_5_5_next C hK hP hD hS 0 rfl rfl dX5_readToken_140 (fun H locs hP hD hS => ?_)
      have hP : va_P D vwCl [(a_this, .inr (5, [.ref a_bytes, .int v_length, .ref a_draft, .int v_fault, .int v_faultPlace, .int (2 : Int32), .int v_start, .int r3, .int v_value, .int v_signsTold, .int v_everyTold])), (a_bytes, .inl (cB, 160, .inl v_bytes))] H := hP
      have hD : va_D A [(a_this, .inr (5, [.ref a_bytes, .int v_length, .ref a_draft, .int v_fault, .int v_faultPlace, .int (2 : Int32), .int v_start, .int r3, .int v_value, .int v_signsTold, .int v_everyTold])), (a_bytes, .inl (cB, 160, .inl v_bytes))] := hD
      refine lv_aload_n C.1 C.2.1 dX5_readToken_143 rfl (lv_at hl 0 rfl) ?_
      refine gf_5_5_next C hK hP 0 rfl rfl dX5_readToken_144 ?_
      refine lv_aload_n C.1 C.2.1 dX5_readToken_147 rfl (lv_at hl 0 rfl) ?_
      refine gf_5_5_start C hK hP 0 rfl rfl dX5_readToken_148 ?_
      refine lv_isub C.1 C.2.1 dX5_readToken_151 ?_
      refine lv_iconst (v := 2) C.1 C.2.1 dX5_readToken_152 (by decide) ?_
      refine lv_icmp_gt (tgt := 163) C.1 C.2.1 dX5_readToken_153 (by decide) (fun c5 => ?_) (fun c5 => ?_)
      · have hF := fp hF c5
        refine lv_aload_n C.1 C.2.1 dX5_readToken_163 rfl (lv_at hl 0 rfl) ?_
        refine lv_iconst (v := 1) C.1 C.2.1 dX5_readToken_164 (by decide) ?_
        obtain ⟨⟨r6, w7, w8⟩, h9, hF⟩ := fb hF
        refine callVI C hK hA hP hD hS [0] (c_X5_refuse (a_this := a_this) (a_bytes := a_bytes) (a_draft := a_draft) (v_length := v_length) (v_fault := v_fault) (v_faultPlace := v_faultPlace) (v_token := (2 : Int32)) (v_start := v_start) (v_next := r3) (v_value := v_value) (v_signsTold := v_signsTold) (v_everyTold := v_everyTold) h9) cv_X5_refuse kw2_18 rfl (by decide) rfl rfl rfl ⟨Nat.le_of_ble_eq_true rfl, Nat.le_of_ble_eq_true rfl⟩ ⟨Nat.zero_le _, Nat.zero_le _⟩ hl.1 rfl (Nat.le_of_ble_eq_true rfl) dX5_readToken_165 (fun H locs hP hD hS => ?_)
        have hP : va_P D vwCl [(a_this, .inr (5, [.ref a_bytes, .int v_length, .ref a_draft, .int w7, .int w8, .int (2 : Int32), .int v_start, .int r3, .int v_value, .int v_signsTold, .int v_everyTold])), (a_bytes, .inl (cB, 160, .inl v_bytes))] H := hP
        have hD : va_D A [(a_this, .inr (5, [.ref a_bytes, .int v_length, .ref a_draft, .int w7, .int w8, .int (2 : Int32), .int v_start, .int r3, .int v_value, .int v_signsTold, .int v_everyTold])), (a_bytes, .inl (cB, 160, .inl v_bytes))] := hD
        obtain ⟨h10, hF⟩ := fk hF
        have hF := Option.some.inj hF
        subst hF
        exact retZ C hr hlk (narZ h10) hP hD hS dX5_readToken_168
      · have hF := fn hF c5
        refine lv_aload_n C.1 C.2.1 dX5_readToken_156 rfl (lv_at hl 0 rfl) ?_
        obtain ⟨⟨r11, w12⟩, h13, hF⟩ := fb hF
        refine callVI C hK hA hP hD hS [0, 1] (c_X5_readValue (a_this := a_this) (a_bytes := a_bytes) (a_draft := a_draft) (v_length := v_length) (v_fault := v_fault) (v_faultPlace := v_faultPlace) (v_token := (2 : Int32)) (v_start := v_start) (v_next := r3) (v_value := v_value) (v_signsTold := v_signsTold) (v_everyTold := v_everyTold) (v_bytes := v_bytes) h13) cv_X5_readValue kw2_14 rfl (by decide) rfl rfl rfl ⟨Nat.le_of_ble_eq_true rfl, Nat.le_of_ble_eq_true rfl⟩ ⟨Nat.zero_le _, Nat.zero_le _⟩ hl.1 rfl (Nat.le_of_ble_eq_true rfl) dX5_readToken_157 (fun H locs hP hD hS => ?_)
        have hP : va_P D vwCl [(a_this, .inr (5, [.ref a_bytes, .int v_length, .ref a_draft, .int v_fault, .int v_faultPlace, .int (2 : Int32), .int v_start, .int r3, .int w12, .int v_signsTold, .int v_everyTold])), (a_bytes, .inl (cB, 160, .inl v_bytes))] H := hP
        have hD : va_D A [(a_this, .inr (5, [.ref a_bytes, .int v_length, .ref a_draft, .int v_fault, .int v_faultPlace, .int (2 : Int32), .int v_start, .int r3, .int w12, .int v_signsTold, .int v_everyTold])), (a_bytes, .inl (cB, 160, .inl v_bytes))] := hD
        refine lv_goto (tgt := 168) C.1 C.2.1 dX5_readToken_160 (by decide) ?_
        obtain ⟨h14, hF⟩ := fk hF
        have hF := Option.some.inj hF
        subst hF
        exact retZ C hr hlk (narZ h14) hP hD hS dX5_readToken_168
set_option maxHeartbeats 4000000 in
set_option maxRecDepth 100000 in
theorem c0_X5_readToken {l : Launch} {D : va_G} {cI cB cZ cR cM cS : ClassId} {a_this : Nat} {a_bytes : Nat} {a_draft : Nat} {v_length : Int32} {v_fault : Int32} {v_faultPlace : Int32} {v_token : Int32} {v_start : Int32} {v_next : Int32} {v_value : Int32} {v_signsTold : Int32} {v_everyTold : Int32} {v_bytes : Nat → Int32} {res : Int32 × Int32 × Int32 × Int32 × Int32 × Int32 × Int32} (hF : F_X5_readToken v_length v_fault v_faultPlace v_token v_start v_next v_value v_bytes = some res) : MI l yX5_readToken cX5_readToken 2 .boolean rm_X5_readToken D (TS cI cB cZ cR cM cS) [.ref a_this] [(a_this, .inr (5, [.ref a_bytes, .int v_length, .ref a_draft, .int v_fault, .int v_faultPlace, .int v_token, .int v_start, .int v_next, .int v_value, .int v_signsTold, .int v_everyTold])), (a_bytes, .inl (cB, 160, .inl v_bytes))] [(a_this, .inr (5, [.ref a_bytes, .int v_length, .ref a_draft, .int res.2.1, .int res.2.2.1, .int res.2.2.2.1, .int res.2.2.2.2.1, .int res.2.2.2.2.2.1, .int res.2.2.2.2.2.2, .int v_signsTold, .int v_everyTold])), (a_bytes, .inl (cB, 160, .inl v_bytes))] res.1 :=
  MI_of (by decide) (Nat.le_of_ble_eq_true rfl) (fun p e s m args below meth c A ls C hr hlk hK hA hP hD hS hl => by
    have C : CX p m c cX5_readToken 2 s args RX5 := C
    have hl : lv_has ls 2 [(0, .ref a_this)] := hl
    unfold F_X5_readToken at hF
    refine lv_aload_n C.1 C.2.1 dX5_readToken_0 rfl (lv_at hl 0 rfl) ?_
    refine lv_aload_n C.1 C.2.1 dX5_readToken_1 rfl (lv_at hl 0 rfl) ?_
    refine lv_aload_n C.1 C.2.1 dX5_readToken_2 rfl (lv_at hl 0 rfl) ?_
    refine gf_5_5_next C hK hP 0 rfl rfl dX5_readToken_3 ?_
    refine lv_bipush (v := 32) C.1 C.2.1 dX5_readToken_6 (by decide) ?_
    refine lv_bipush (v := 32) C.1 C.2.1 dX5_readToken_8 (by decide) ?_
    obtain ⟨r1, h2, hF⟩ := fb hF
    refine callVI C hK hA hP hD hS [0, 1] (c_X5_endOfRun (a_this := a_this) (a_bytes := a_bytes) (a_draft := a_draft) (v_length := v_length) (v_fault := v_fault) (v_faultPlace := v_faultPlace) (v_token := v_token) (v_start := v_start) (v_next := v_next) (v_value := v_value) (v_signsTold := v_signsTold) (v_everyTold := v_everyTold) (v_bytes := v_bytes) h2) cv_X5_endOfRun kw2_10 rfl (by decide) rfl rfl rfl ⟨Nat.le_of_ble_eq_true rfl, Nat.le_of_ble_eq_true rfl⟩ ⟨Nat.zero_le _, Nat.zero_le _⟩ hl.1 rfl (Nat.le_of_ble_eq_true rfl) dX5_readToken_10 (fun H locs hP hD hS => ?_)
    have hP : va_P D vwCl [(a_this, .inr (5, [.ref a_bytes, .int v_length, .ref a_draft, .int v_fault, .int v_faultPlace, .int v_token, .int v_start, .int v_next, .int v_value, .int v_signsTold, .int v_everyTold])), (a_bytes, .inl (cB, 160, .inl v_bytes))] H := hP
    have hD : va_D A [(a_this, .inr (5, [.ref a_bytes, .int v_length, .ref a_draft, .int v_fault, .int v_faultPlace, .int v_token, .int v_start, .int v_next, .int v_value, .int v_signsTold, .int v_everyTold])), (a_bytes, .inl (cB, 160, .inl v_bytes))] := hD
    refine pf_5_5_start C hK hP hD hS 0 rfl rfl dX5_readToken_13 (fun H locs hP hD hS => ?_)
    have hP : va_P D vwCl [(a_this, .inr (5, [.ref a_bytes, .int v_length, .ref a_draft, .int v_fault, .int v_faultPlace, .int v_token, .int r1, .int v_next, .int v_value, .int v_signsTold, .int v_everyTold])), (a_bytes, .inl (cB, 160, .inl v_bytes))] H := hP
    have hD : va_D A [(a_this, .inr (5, [.ref a_bytes, .int v_length, .ref a_draft, .int v_fault, .int v_faultPlace, .int v_token, .int r1, .int v_next, .int v_value, .int v_signsTold, .int v_everyTold])), (a_bytes, .inl (cB, 160, .inl v_bytes))] := hD
    refine lv_aload_n C.1 C.2.1 dX5_readToken_16 rfl (lv_at hl 0 rfl) ?_
    refine lv_aload_n C.1 C.2.1 dX5_readToken_17 rfl (lv_at hl 0 rfl) ?_
    refine gf_5_5_start C hK hP 0 rfl rfl dX5_readToken_18 ?_
    refine pf_5_5_next C hK hP hD hS 0 rfl rfl dX5_readToken_21 (fun H locs hP hD hS => ?_)
    have hP : va_P D vwCl [(a_this, .inr (5, [.ref a_bytes, .int v_length, .ref a_draft, .int v_fault, .int v_faultPlace, .int v_token, .int r1, .int r1, .int v_value, .int v_signsTold, .int v_everyTold])), (a_bytes, .inl (cB, 160, .inl v_bytes))] H := hP
    have hD : va_D A [(a_this, .inr (5, [.ref a_bytes, .int v_length, .ref a_draft, .int v_fault, .int v_faultPlace, .int v_token, .int r1, .int r1, .int v_value, .int v_signsTold, .int v_everyTold])), (a_bytes, .inl (cB, 160, .inl v_bytes))] := hD
    refine lv_aload_n C.1 C.2.1 dX5_readToken_24 rfl (lv_at hl 0 rfl) ?_
    refine gf_5_5_start C hK hP 0 rfl rfl dX5_readToken_25 ?_
    refine lv_aload_n C.1 C.2.1 dX5_readToken_28 rfl (lv_at hl 0 rfl) ?_
    refine gf_5_5_length C hK hP 0 rfl rfl dX5_readToken_29 ?_
    refine lv_icmp_lt (tgt := 42) C.1 C.2.1 dX5_readToken_32 (by decide) (fun c3 => ?_) (fun c3 => ?_)
    · have hF := fp hF c3
      refine lv_aload_n C.1 C.2.1 dX5_readToken_42 rfl (lv_at hl 0 rfl) ?_
      refine gf_5_5_bytes C hK hP 0 rfl rfl dX5_readToken_43 ?_
      refine lv_aload_n C.1 C.2.1 dX5_readToken_46 rfl (lv_at hl 0 rfl) ?_
      refine gf_5_5_start C hK hP 0 rfl rfl dX5_readToken_47 ?_
      obtain ⟨h4, hF⟩ := fk hF
      refine va_bald C.1 C.2.1 hK.1 hP 1 1 rfl rfl h4 dX5_readToken_50 ?_
      refine lv_istore_n (lv' := [(1, .int (v_bytes r1.toNatClampNeg)), (0, .ref a_this)]) C.1 C.2.1 dX5_readToken_51 rfl hl (by decide) rfl (fun ls hl => ?_)
      refine lv_iload_n C.1 C.2.1 dX5_readToken_52 rfl (lv_at hl 0 rfl) ?_
      refine lv_bipush (v := 59) C.1 C.2.1 dX5_readToken_53 (by decide) ?_
      refine lv_icmp_ne (tgt := 75) C.1 C.2.1 dX5_readToken_55 (by decide) (fun c5 => ?_) (fun c5 => ?_)
      · have hF := fn hF c5
        refine lv_iload_n C.1 C.2.1 dX5_readToken_75 rfl (lv_at hl 0 rfl) ?_
        refine lv_bipush (v := 97) C.1 C.2.1 dX5_readToken_76 (by decide) ?_
        refine lv_icmp_lt (tgt := 110) C.1 C.2.1 dX5_readToken_78 (by decide) (fun c6 => ?_) (fun c6 => ?_)
        · have hF := fp hF c6
          exact b_X5_readToken_110 C hr hlk hK hA v_length v_fault v_faultPlace v_token r1 r1 v_value v_bytes (v_bytes r1.toNatClampNeg) _ _ _ hF hP hD hS (lv_sub hl [1, 0] rfl)
        · have hF := fn hF c6
          refine lv_iload_n C.1 C.2.1 dX5_readToken_81 rfl (lv_at hl 0 rfl) ?_
          refine lv_bipush (v := 122) C.1 C.2.1 dX5_readToken_82 (by decide) ?_
          refine lv_icmp_gt (tgt := 110) C.1 C.2.1 dX5_readToken_84 (by decide) (fun c7 => ?_) (fun c7 => ?_)
          · have hF := fp hF c7
            exact b_X5_readToken_110 C hr hlk hK hA v_length v_fault v_faultPlace v_token r1 r1 v_value v_bytes (v_bytes r1.toNatClampNeg) _ _ _ hF hP hD hS (lv_sub hl [1, 0] rfl)
          · have hF := fn hF c7
            refine lv_aload_n C.1 C.2.1 dX5_readToken_87 rfl (lv_at hl 1 rfl) ?_
            refine lv_iconst (v := 1) C.1 C.2.1 dX5_readToken_88 (by decide) ?_
            refine pf_5_5_token C hK hP hD hS 0 rfl rfl dX5_readToken_89 (fun H locs hP hD hS => ?_)
            have hP : va_P D vwCl [(a_this, .inr (5, [.ref a_bytes, .int v_length, .ref a_draft, .int v_fault, .int v_faultPlace, .int (1 : Int32), .int r1, .int r1, .int v_value, .int v_signsTold, .int v_everyTold])), (a_bytes, .inl (cB, 160, .inl v_bytes))] H := hP
            have hD : va_D A [(a_this, .inr (5, [.ref a_bytes, .int v_length, .ref a_draft, .int v_fault, .int v_faultPlace, .int (1 : Int32), .int r1, .int r1, .int v_value, .int v_signsTold, .int v_everyTold])), (a_bytes, .inl (cB, 160, .inl v_bytes))] := hD
            refine lv_aload_n C.1 C.2.1 dX5_readToken_92 rfl (lv_at hl 1 rfl) ?_
            refine lv_aload_n C.1 C.2.1 dX5_readToken_93 rfl (lv_at hl 1 rfl) ?_
            refine lv_aload_n C.1 C.2.1 dX5_readToken_94 rfl (lv_at hl 1 rfl) ?_
            refine gf_5_5_start C hK hP 0 rfl rfl dX5_readToken_95 ?_
            refine lv_bipush (v := 97) C.1 C.2.1 dX5_readToken_98 (by decide) ?_
            refine lv_bipush (v := 122) C.1 C.2.1 dX5_readToken_100 (by decide) ?_
            obtain ⟨r8, h9, hF⟩ := fb hF
            refine callVI C hK hA hP hD hS [0, 1] (c_X5_endOfRun (a_this := a_this) (a_bytes := a_bytes) (a_draft := a_draft) (v_length := v_length) (v_fault := v_fault) (v_faultPlace := v_faultPlace) (v_token := (1 : Int32)) (v_start := r1) (v_next := r1) (v_value := v_value) (v_signsTold := v_signsTold) (v_everyTold := v_everyTold) (v_bytes := v_bytes) h9) cv_X5_endOfRun kw2_10 rfl (by decide) rfl rfl rfl ⟨Nat.le_of_ble_eq_true rfl, Nat.le_of_ble_eq_true rfl⟩ ⟨Nat.zero_le _, Nat.zero_le _⟩ hl.1 rfl (Nat.le_of_ble_eq_true rfl) dX5_readToken_102 (fun H locs hP hD hS => ?_)
            have hP : va_P D vwCl [(a_this, .inr (5, [.ref a_bytes, .int v_length, .ref a_draft, .int v_fault, .int v_faultPlace, .int (1 : Int32), .int r1, .int r1, .int v_value, .int v_signsTold, .int v_everyTold])), (a_bytes, .inl (cB, 160, .inl v_bytes))] H := hP
            have hD : va_D A [(a_this, .inr (5, [.ref a_bytes, .int v_length, .ref a_draft, .int v_fault, .int v_faultPlace, .int (1 : Int32), .int r1, .int r1, .int v_value, .int v_signsTold, .int v_everyTold])), (a_bytes, .inl (cB, 160, .inl v_bytes))] := hD
            refine pf_5_5_next C hK hP hD hS 0 rfl rfl dX5_readToken_105 (fun H locs hP hD hS => ?_)
            have hP : va_P D vwCl [(a_this, .inr (5, [.ref a_bytes, .int v_length, .ref a_draft, .int v_fault, .int v_faultPlace, .int (1 : Int32), .int r1, .int r8, .int v_value, .int v_signsTold, .int v_everyTold])), (a_bytes, .inl (cB, 160, .inl v_bytes))] H := hP
            have hD : va_D A [(a_this, .inr (5, [.ref a_bytes, .int v_length, .ref a_draft, .int v_fault, .int v_faultPlace, .int (1 : Int32), .int r1, .int r8, .int v_value, .int v_signsTold, .int v_everyTold])), (a_bytes, .inl (cB, 160, .inl v_bytes))] := hD
            refine lv_iconst (v := 1) C.1 C.2.1 dX5_readToken_108 (by decide) ?_
            have hF := Option.some.inj hF
            subst hF
            exact retZ (v := 1) C hr hlk (by decide) hP hD hS dX5_readToken_109
      · have hF := fp hF c5
        refine lv_aload_n C.1 C.2.1 dX5_readToken_58 rfl (lv_at hl 1 rfl) ?_
        refine lv_iconst (v := 3) C.1 C.2.1 dX5_readToken_59 (by decide) ?_
        refine pf_5_5_token C hK hP hD hS 0 rfl rfl dX5_readToken_60 (fun H locs hP hD hS => ?_)
        have hP : va_P D vwCl [(a_this, .inr (5, [.ref a_bytes, .int v_length, .ref a_draft, .int v_fault, .int v_faultPlace, .int (3 : Int32), .int r1, .int r1, .int v_value, .int v_signsTold, .int v_everyTold])), (a_bytes, .inl (cB, 160, .inl v_bytes))] H := hP
        have hD : va_D A [(a_this, .inr (5, [.ref a_bytes, .int v_length, .ref a_draft, .int v_fault, .int v_faultPlace, .int (3 : Int32), .int r1, .int r1, .int v_value, .int v_signsTold, .int v_everyTold])), (a_bytes, .inl (cB, 160, .inl v_bytes))] := hD
        refine lv_aload_n C.1 C.2.1 dX5_readToken_63 rfl (lv_at hl 1 rfl) ?_
        refine lv_aload_n C.1 C.2.1 dX5_readToken_64 rfl (lv_at hl 1 rfl) ?_
        refine gf_5_5_start C hK hP 0 rfl rfl dX5_readToken_65 ?_
        refine lv_iconst (v := 1) C.1 C.2.1 dX5_readToken_68 (by decide) ?_
        refine lv_iadd C.1 C.2.1 dX5_readToken_69 ?_
        refine pf_5_5_next C hK hP hD hS 0 rfl rfl dX5_readToken_70 (fun H locs hP hD hS => ?_)
        have hP : va_P D vwCl [(a_this, .inr (5, [.ref a_bytes, .int v_length, .ref a_draft, .int v_fault, .int v_faultPlace, .int (3 : Int32), .int r1, .int (r1 + (1 : Int32)), .int v_value, .int v_signsTold, .int v_everyTold])), (a_bytes, .inl (cB, 160, .inl v_bytes))] H := hP
        have hD : va_D A [(a_this, .inr (5, [.ref a_bytes, .int v_length, .ref a_draft, .int v_fault, .int v_faultPlace, .int (3 : Int32), .int r1, .int (r1 + (1 : Int32)), .int v_value, .int v_signsTold, .int v_everyTold])), (a_bytes, .inl (cB, 160, .inl v_bytes))] := hD
        refine lv_iconst (v := 1) C.1 C.2.1 dX5_readToken_73 (by decide) ?_
        have hF := Option.some.inj hF
        subst hF
        exact retZ (v := 1) C hr hlk (by decide) hP hD hS dX5_readToken_74
    · have hF := fn hF c3
      refine lv_aload_n C.1 C.2.1 dX5_readToken_35 rfl (lv_at hl 0 rfl) ?_
      refine lv_iconst (v := 0) C.1 C.2.1 dX5_readToken_36 (by decide) ?_
      refine pf_5_5_token C hK hP hD hS 0 rfl rfl dX5_readToken_37 (fun H locs hP hD hS => ?_)
      have hP : va_P D vwCl [(a_this, .inr (5, [.ref a_bytes, .int v_length, .ref a_draft, .int v_fault, .int v_faultPlace, .int (0 : Int32), .int r1, .int r1, .int v_value, .int v_signsTold, .int v_everyTold])), (a_bytes, .inl (cB, 160, .inl v_bytes))] H := hP
      have hD : va_D A [(a_this, .inr (5, [.ref a_bytes, .int v_length, .ref a_draft, .int v_fault, .int v_faultPlace, .int (0 : Int32), .int r1, .int r1, .int v_value, .int v_signsTold, .int v_everyTold])), (a_bytes, .inl (cB, 160, .inl v_bytes))] := hD
      refine lv_iconst (v := 1) C.1 C.2.1 dX5_readToken_40 (by decide) ?_
      have hF := Option.some.inj hF
      subst hF
      exact retZ (v := 1) C hr hlk (by decide) hP hD hS dX5_readToken_41)
theorem c_X5_readToken {l : Launch} {D : va_G} {cI cB cZ cR cM cS : ClassId} {a_this : Nat} {a_bytes : Nat} {a_draft : Nat} {v_length : Int32} {v_fault : Int32} {v_faultPlace : Int32} {v_token : Int32} {v_start : Int32} {v_next : Int32} {v_value : Int32} {v_signsTold : Int32} {v_everyTold : Int32} {v_bytes : Nat → Int32} {r_ : Int32} {v_fault' : Int32} {v_faultPlace' : Int32} {v_token' : Int32} {v_start' : Int32} {v_next' : Int32} {v_value' : Int32} (hF : F_X5_readToken v_length v_fault v_faultPlace v_token v_start v_next v_value v_bytes = some (r_, v_fault', v_faultPlace', v_token', v_start', v_next', v_value')) : MI l yX5_readToken cX5_readToken 2 .boolean rm_X5_readToken D (TS cI cB cZ cR cM cS) [.ref a_this] [(a_this, .inr (5, [.ref a_bytes, .int v_length, .ref a_draft, .int v_fault, .int v_faultPlace, .int v_token, .int v_start, .int v_next, .int v_value, .int v_signsTold, .int v_everyTold])), (a_bytes, .inl (cB, 160, .inl v_bytes))] [(a_this, .inr (5, [.ref a_bytes, .int v_length, .ref a_draft, .int v_fault', .int v_faultPlace', .int v_token', .int v_start', .int v_next', .int v_value', .int v_signsTold, .int v_everyTold])), (a_bytes, .inl (cB, 160, .inl v_bytes))] r_ :=
  c0_X5_readToken (res := (r_, v_fault', v_faultPlace', v_token', v_start', v_next', v_value')) hF
def rm_X5_isNamed : Room := { frames := 4, cells := 0, slots := 0, locals := 85 }
theorem cv_X5_isNamed : CV yX5_isNamed cX5_isNamed 3 (some .boolean) rm_X5_isNamed RX5 1 := ⟨kw2_33, kwp_6, kw1_2, kw2_34, by decide +kernel, rfl, rfl⟩
set_option maxHeartbeats 4000000 in
set_option maxRecDepth 100000 in
theorem b_X5_isNamed_20 {l : Launch} {D : va_G} {cI cB cZ cR cM cS : ClassId} {a_this : Nat} {a_bytes : Nat} {a_draft : Nat} {adK adV : Nat → Nat} {v_length : Int32} {v_fault : Int32} {v_faultPlace : Int32} {v_token : Int32} {v_value : Int32} {v_signsTold : Int32} {v_everyTold : Int32} {p : Program} {e : Env} {s : State} {m : MethodId} {args : Array Value} {below : List Frame} {meth : Method} {c : Code} {A : Nat → Prop} {res : Int32} (C : CX p m c cX5_isNamed 3 s args RX5) (hr : meth.sig.returnType = (some .boolean)) (hlk : meth.locks = false) (hK : KK D (TS cI cB cZ cR cM cS) s) (hQ : SQ adK adV A s s.heap) (hA : ∀ q, s.heap.size ≤ q → A q) : ∀ (fu : Nat) (v_start : Int32) (v_next : Int32) (v_bytes : Nat → Int32) (x1 : Nat) (x2 : Int32) (H : Heap) (locs : List Loc) (ls : Array Slot), F_X5_isNamed_20 fu v_start v_next v_bytes x1 x2 = some res → va_P D vwCl [(a_this, .inr (5, [.ref a_bytes, .int v_length, .ref a_draft, .int v_fault, .int v_faultPlace, .int v_token, .int v_start, .int v_next, .int v_value, .int v_signsTold, .int v_everyTold])), (a_bytes, .inl (cB, 160, .inl v_bytes))] H → va_D A [(a_this, .inr (5, [.ref a_bytes, .int v_length, .ref a_draft, .int v_fault, .int v_faultPlace, .int v_token, .int v_start, .int v_next, .int v_value, .int v_signsTold, .int v_everyTold])), (a_bytes, .inl (cB, 160, .inl v_bytes))] → va_S A s.heap H locs → lv_has ls 3 [(0, .ref a_this), (1, .ref (adK x1)), (2, .int x2)] → W p l e rm_X5_isNamed s m args below meth c H locs 0 0 (MQ below (va_Qi (fun x (_ : Unit) => x = res) (BW D A [(a_this, .inr (5, [.ref a_bytes, .int v_length, .ref a_draft, .int v_fault, .int v_faultPlace, .int v_token, .int v_start, .int v_next, .int v_value, .int v_signsTold, .int v_everyTold])), (a_bytes, .inl (cB, 160, .inl v_bytes))]) A) args s 0 0 A) (F0 m 20 ls []) := by
  intro fu
  induction fu with
  | zero => intro v_start v_next v_bytes x1 x2 H locs ls hF; cases hF
  | succ fu ih =>
    intro v_start v_next v_bytes x1 x2 H locs ls hF  hP hD hS hl
    unfold F_X5_isNamed_20 at hF
    refine lv_iload_n C.1 C.2.1 dX5_isNamed_20 rfl (lv_at hl 2 rfl) ?_
    refine lv_aload_n C.1 C.2.1 dX5_isNamed_21 rfl (lv_at hl 1 rfl) ?_
    obtain ⟨h1, hF⟩ := fk hF
    refine callVIS C hK hQ hA hP hD hS [] (c_J0l h1) cv_J0l kw2_35 (vk_recv hQ.1 h1 hS) rfl rfl rfl ⟨Nat.le_of_ble_eq_true rfl, Nat.le_of_ble_eq_true rfl⟩ ⟨Nat.zero_le _, Nat.zero_le _⟩ hl.1 rfl (Nat.le_of_ble_eq_true rfl) dX5_isNamed_22 (fun H locs hP hD hS => ?_)
    have hP := va_Pe setL0 hP
    have hD := va_De setL0 hD
    refine lv_icmp_ge (tgt := 55) C.1 C.2.1 dX5_isNamed_25 (by decide) (fun c2 => ?_) (fun c2 => ?_)
    · have hF := fp hF c2
      refine lv_iconst (v := 1) C.1 C.2.1 dX5_isNamed_55 (by decide) ?_
      have hF := Option.some.inj hF
      subst hF
      exact retZ (v := 1) C hr hlk (by decide) hP hD hS dX5_isNamed_56
    · have hF := fn hF c2
      refine lv_aload_n C.1 C.2.1 dX5_isNamed_28 rfl (lv_at hl 0 rfl) ?_
      refine gf_5_5_bytes C hK hP 0 rfl rfl dX5_isNamed_29 ?_
      refine lv_aload_n C.1 C.2.1 dX5_isNamed_32 rfl (lv_at hl 0 rfl) ?_
      refine gf_5_5_start C hK hP 0 rfl rfl dX5_isNamed_33 ?_
      refine lv_iload_n C.1 C.2.1 dX5_isNamed_36 rfl (lv_at hl 2 rfl) ?_
      refine lv_iadd C.1 C.2.1 dX5_isNamed_37 ?_
      obtain ⟨h3, hF⟩ := fk hF
      refine va_bald C.1 C.2.1 hK.1 hP 1 1 rfl rfl h3 dX5_isNamed_38 ?_
      refine lv_aload_n C.1 C.2.1 dX5_isNamed_39 rfl (lv_at hl 1 rfl) ?_
      refine lv_iload_n C.1 C.2.1 dX5_isNamed_40 rfl (lv_at hl 2 rfl) ?_
      obtain ⟨⟨h4a, h4b, h4c, h4d⟩, hF⟩ := fk hF
      refine callVIS C hK hQ hA hP hD hS [] (c_J0c h4a h4b h4c h4d) cv_J0c kw2_45 (vk_recv hQ.1 h4a hS) rfl rfl rfl ⟨Nat.le_of_ble_eq_true rfl, Nat.le_of_ble_eq_true rfl⟩ ⟨Nat.zero_le _, Nat.zero_le _⟩ hl.1 rfl (Nat.le_of_ble_eq_true rfl) dX5_isNamed_41 (fun H locs hP hD hS => ?_)
      have hP := va_Pe setL0 hP
      have hD := va_De setL0 hD
      refine lv_icmp_eq (tgt := 49) C.1 C.2.1 dX5_isNamed_44 (by decide) (fun c5 => ?_) (fun c5 => ?_)
      · have hF := fp hF c5
        refine lv_iinc (v := x2 + 1) (lv' := [(2, .int (x2 + 1)), (0, .ref a_this), (1, .ref (adK x1))]) C.1 C.2.1 dX5_isNamed_49 hl (k := 2) rfl rfl (by decide) rfl (fun ls hl => ?_)
        refine lv_goto (tgt := 20) C.1 C.2.1 dX5_isNamed_52 (by decide) ?_
        exact ih v_start v_next v_bytes x1 (x2 + 1) _ _ _ hF hP hD hS (lv_sub hl [1, 2, 0] rfl)
      · have hF := fn hF c5
        refine lv_iconst (v := 0) C.1 C.2.1 dX5_isNamed_47 (by decide) ?_
        have hF := Option.some.inj hF
        subst hF
        exact retZ (v := 0) C hr hlk (by decide) hP hD hS dX5_isNamed_48
set_option maxHeartbeats 4000000 in
set_option maxRecDepth 100000 in
theorem c_X5_isNamed {l : Launch} {D : va_G} {cI cB cZ cR cM cS : ClassId} {a_this : Nat} {a_bytes : Nat} {a_draft : Nat} {adK adV : Nat → Nat} {v_length : Int32} {v_fault : Int32} {v_faultPlace : Int32} {v_token : Int32} {v_start : Int32} {v_next : Int32} {v_value : Int32} {v_signsTold : Int32} {v_everyTold : Int32} {v_bytes : Nat → Int32} {x1 : Nat} {res : Int32} (hF : F_X5_isNamed v_start v_next v_bytes x1 = some res) : MIS l yX5_isNamed cX5_isNamed 3 .boolean rm_X5_isNamed D (TS cI cB cZ cR cM cS) adK adV [.ref a_this, .ref (adK x1)] [(a_this, .inr (5, [.ref a_bytes, .int v_length, .ref a_draft, .int v_fault, .int v_faultPlace, .int v_token, .int v_start, .int v_next, .int v_value, .int v_signsTold, .int v_everyTold])), (a_bytes, .inl (cB, 160, .inl v_bytes))] [(a_this, .inr (5, [.ref a_bytes, .int v_length, .ref a_draft, .int v_fault, .int v_faultPlace, .int v_token, .int v_start, .int v_next, .int v_value, .int v_signsTold, .int v_everyTold])), (a_bytes, .inl (cB, 160, .inl v_bytes))] res :=
  MIS_of (by decide) (Nat.le_of_ble_eq_true rfl) (fun p e s m args below meth c A ls C hr hlk hK hQ hA hP hD hS hl => by
    have C : CX p m c cX5_isNamed 3 s args RX5 := C
    have hl : lv_has ls 3 [(0, .ref a_this), (1, .ref (adK x1))] := hl
    unfold F_X5_isNamed at hF
    refine lv_aload_n C.1 C.2.1 dX5_isNamed_0 rfl (lv_at hl 0 rfl) ?_
    refine gf_5_5_next C hK hP 0 rfl rfl dX5_isNamed_1 ?_
    refine lv_aload_n C.1 C.2.1 dX5_isNamed_4 rfl (lv_at hl 0 rfl) ?_
    refine gf_5_5_start C hK hP 0 rfl rfl dX5_isNamed_5 ?_
    refine lv_isub C.1 C.2.1 dX5_isNamed_8 ?_
    refine lv_aload_n C.1 C.2.1 dX5_isNamed_9 rfl (lv_at hl 1 rfl) ?_
    obtain ⟨h1, hF⟩ := fk hF
    refine callVIS C hK hQ hA hP hD hS [] (c_J0l h1) cv_J0l kw2_35 (vk_recv hQ.1 h1 hS) rfl rfl rfl ⟨Nat.le_of_ble_eq_true rfl, Nat.le_of_ble_eq_true rfl⟩ ⟨Nat.zero_le _, Nat.zero_le _⟩ hl.1 rfl (Nat.le_of_ble_eq_true rfl) dX5_isNamed_10 (fun H locs hP hD hS => ?_)
    have hP := va_Pe setL0 hP
    have hD := va_De setL0 hD
    refine lv_icmp_eq (tgt := 18) C.1 C.2.1 dX5_isNamed_13 (by decide) (fun c2 => ?_) (fun c2 => ?_)
    · have hF := fp hF c2
      refine lv_iconst (v := 0) C.1 C.2.1 dX5_isNamed_18 (by decide) ?_
      refine lv_istore_n (lv' := [(2, .int (0 : Int32)), (0, .ref a_this), (1, .ref (adK x1))]) C.1 C.2.1 dX5_isNamed_19 rfl hl (by decide) rfl (fun ls hl => ?_)
      exact b_X5_isNamed_20 C hr hlk hK hQ hA FU v_start v_next v_bytes x1 (0 : Int32) _ _ _ hF hP hD hS (lv_sub hl [1, 2, 0] rfl)
    · have hF := fn hF c2
      refine lv_iconst (v := 0) C.1 C.2.1 dX5_isNamed_16 (by decide) ?_
      have hF := Option.some.inj hF
      subst hF
      exact retZ (v := 0) C hr hlk (by decide) hP hD hS dX5_isNamed_17)
def rm_X5_sortNamed : Room := { frames := 5, cells := 0, slots := 0, locals := 107 }
theorem cv_X5_sortNamed : CV yX5_sortNamed cX5_sortNamed 1 (some .int) rm_X5_sortNamed RX5 0 := ⟨kw2_28, kwp_5, kw1_2, kw2_29, by decide +kernel, rfl, rfl⟩
set_option maxHeartbeats 4000000 in
set_option maxRecDepth 100000 in
theorem c_X5_sortNamed {l : Launch} {D : va_G} {cI cB cZ cR cM cS : ClassId} {a_this : Nat} {a_bytes : Nat} {a_draft : Nat} {adK adV : Nat → Nat} {v_length : Int32} {v_fault : Int32} {v_faultPlace : Int32} {v_token : Int32} {v_start : Int32} {v_next : Int32} {v_value : Int32} {v_signsTold : Int32} {v_everyTold : Int32} {v_bytes : Nat → Int32} {res : Int32} (hF : F_X5_sortNamed v_start v_next v_bytes = some res) : MIS l yX5_sortNamed cX5_sortNamed 1 .int rm_X5_sortNamed D (TS cI cB cZ cR cM cS) adK adV [.ref a_this] [(a_this, .inr (5, [.ref a_bytes, .int v_length, .ref a_draft, .int v_fault, .int v_faultPlace, .int v_token, .int v_start, .int v_next, .int v_value, .int v_signsTold, .int v_everyTold])), (a_bytes, .inl (cB, 160, .inl v_bytes))] [(a_this, .inr (5, [.ref a_bytes, .int v_length, .ref a_draft, .int v_fault, .int v_faultPlace, .int v_token, .int v_start, .int v_next, .int v_value, .int v_signsTold, .int v_everyTold])), (a_bytes, .inl (cB, 160, .inl v_bytes))] res :=
  MIS_of (by decide) (Nat.le_of_ble_eq_true rfl) (fun p e s m args below meth c A ls C hr hlk hK hQ hA hP hD hS hl => by
    have C : CX p m c cX5_sortNamed 1 s args RX5 := C
    have hl : lv_has ls 1 [(0, .ref a_this)] := hl
    unfold F_X5_sortNamed at hF
    refine lv_aload_n C.1 C.2.1 dX5_sortNamed_0 rfl (lv_at hl 0 rfl) ?_
    refine va_ldcS C.1 C.2.1 C.2.2.2.1 hQ.2.2.2.1 dX5_sortNamed_1 ?_
    obtain ⟨r1, h2, hF⟩ := fb hF
    refine callVIS C hK hQ hA hP hD hS [0, 1] (c_X5_isNamed (a_this := a_this) (a_bytes := a_bytes) (a_draft := a_draft) (v_length := v_length) (v_fault := v_fault) (v_faultPlace := v_faultPlace) (v_token := v_token) (v_start := v_start) (v_next := v_next) (v_value := v_value) (v_signsTold := v_signsTold) (v_everyTold := v_everyTold) (v_bytes := v_bytes) h2) cv_X5_isNamed kw2_31 (va_recv hK.1 hP (ci := 5) (q0 := 0) rfl rfl) rfl (by decide) rfl ⟨Nat.le_of_ble_eq_true rfl, Nat.le_of_ble_eq_true rfl⟩ ⟨Nat.zero_le _, Nat.zero_le _⟩ hl.1 rfl (Nat.le_of_ble_eq_true rfl) dX5_sortNamed_3 (fun H locs hP hD hS => ?_)
    have hP : va_P D vwCl [(a_this, .inr (5, [.ref a_bytes, .int v_length, .ref a_draft, .int v_fault, .int v_faultPlace, .int v_token, .int v_start, .int v_next, .int v_value, .int v_signsTold, .int v_everyTold])), (a_bytes, .inl (cB, 160, .inl v_bytes))] H := hP
    have hD : va_D A [(a_this, .inr (5, [.ref a_bytes, .int v_length, .ref a_draft, .int v_fault, .int v_faultPlace, .int v_token, .int v_start, .int v_next, .int v_value, .int v_signsTold, .int v_everyTold])), (a_bytes, .inl (cB, 160, .inl v_bytes))] := hD
    refine lv_if_eq (tgt := 11) C.1 C.2.1 dX5_sortNamed_6 (by decide) (fun c3 => ?_) (fun c3 => ?_)
    · have hF := fp hF c3
      refine lv_aload_n C.1 C.2.1 dX5_sortNamed_11 rfl (lv_at hl 0 rfl) ?_
      refine va_ldcS C.1 C.2.1 C.2.2.2.1 hQ.2.2.2.2.1 dX5_sortNamed_12 ?_
      obtain ⟨r4, h5, hF⟩ := fb hF
      refine callVIS C hK hQ hA hP hD hS [0, 1] (c_X5_isNamed (a_this := a_this) (a_bytes := a_bytes) (a_draft := a_draft) (v_length := v_length) (v_fault := v_fault) (v_faultPlace := v_faultPlace) (v_token := v_token) (v_start := v_start) (v_next := v_next) (v_value := v_value) (v_signsTold := v_signsTold) (v_everyTold := v_everyTold) (v_bytes := v_bytes) h5) cv_X5_isNamed kw2_31 (va_recv hK.1 hP (ci := 5) (q0 := 0) rfl rfl) rfl (by decide) rfl ⟨Nat.le_of_ble_eq_true rfl, Nat.le_of_ble_eq_true rfl⟩ ⟨Nat.zero_le _, Nat.zero_le _⟩ hl.1 rfl (Nat.le_of_ble_eq_true rfl) dX5_sortNamed_14 (fun H locs hP hD hS => ?_)
      have hP : va_P D vwCl [(a_this, .inr (5, [.ref a_bytes, .int v_length, .ref a_draft, .int v_fault, .int v_faultPlace, .int v_token, .int v_start, .int v_next, .int v_value, .int v_signsTold, .int v_everyTold])), (a_bytes, .inl (cB, 160, .inl v_bytes))] H := hP
      have hD : va_D A [(a_this, .inr (5, [.ref a_bytes, .int v_length, .ref a_draft, .int v_fault, .int v_faultPlace, .int v_token, .int v_start, .int v_next, .int v_value, .int v_signsTold, .int v_everyTold])), (a_bytes, .inl (cB, 160, .inl v_bytes))] := hD
      refine lv_if_eq (tgt := 22) C.1 C.2.1 dX5_sortNamed_17 (by decide) (fun c6 => ?_) (fun c6 => ?_)
      · have hF := fp hF c6
        refine lv_aload_n C.1 C.2.1 dX5_sortNamed_22 rfl (lv_at hl 0 rfl) ?_
        refine va_ldcS C.1 C.2.1 C.2.2.2.1 hQ.2.2.2.2.2.1 dX5_sortNamed_23 ?_
        obtain ⟨r7, h8, hF⟩ := fb hF
        refine callVIS C hK hQ hA hP hD hS [0, 1] (c_X5_isNamed (a_this := a_this) (a_bytes := a_bytes) (a_draft := a_draft) (v_length := v_length) (v_fault := v_fault) (v_faultPlace := v_faultPlace) (v_token := v_token) (v_start := v_start) (v_next := v_next) (v_value := v_value) (v_signsTold := v_signsTold) (v_everyTold := v_everyTold) (v_bytes := v_bytes) h8) cv_X5_isNamed kw2_31 (va_recv hK.1 hP (ci := 5) (q0 := 0) rfl rfl) rfl (by decide) rfl ⟨Nat.le_of_ble_eq_true rfl, Nat.le_of_ble_eq_true rfl⟩ ⟨Nat.zero_le _, Nat.zero_le _⟩ hl.1 rfl (Nat.le_of_ble_eq_true rfl) dX5_sortNamed_25 (fun H locs hP hD hS => ?_)
        have hP : va_P D vwCl [(a_this, .inr (5, [.ref a_bytes, .int v_length, .ref a_draft, .int v_fault, .int v_faultPlace, .int v_token, .int v_start, .int v_next, .int v_value, .int v_signsTold, .int v_everyTold])), (a_bytes, .inl (cB, 160, .inl v_bytes))] H := hP
        have hD : va_D A [(a_this, .inr (5, [.ref a_bytes, .int v_length, .ref a_draft, .int v_fault, .int v_faultPlace, .int v_token, .int v_start, .int v_next, .int v_value, .int v_signsTold, .int v_everyTold])), (a_bytes, .inl (cB, 160, .inl v_bytes))] := hD
        refine lv_if_eq (tgt := 33) C.1 C.2.1 dX5_sortNamed_28 (by decide) (fun c9 => ?_) (fun c9 => ?_)
        · have hF := fp hF c9
          refine lv_aload_n C.1 C.2.1 dX5_sortNamed_33 rfl (lv_at hl 0 rfl) ?_
          refine va_ldcS C.1 C.2.1 C.2.2.2.1 hQ.2.2.2.2.2.2.1 dX5_sortNamed_34 ?_
          obtain ⟨r10, h11, hF⟩ := fb hF
          refine callVIS C hK hQ hA hP hD hS [0, 1] (c_X5_isNamed (a_this := a_this) (a_bytes := a_bytes) (a_draft := a_draft) (v_length := v_length) (v_fault := v_fault) (v_faultPlace := v_faultPlace) (v_token := v_token) (v_start := v_start) (v_next := v_next) (v_value := v_value) (v_signsTold := v_signsTold) (v_everyTold := v_everyTold) (v_bytes := v_bytes) h11) cv_X5_isNamed kw2_31 (va_recv hK.1 hP (ci := 5) (q0 := 0) rfl rfl) rfl (by decide) rfl ⟨Nat.le_of_ble_eq_true rfl, Nat.le_of_ble_eq_true rfl⟩ ⟨Nat.zero_le _, Nat.zero_le _⟩ hl.1 rfl (Nat.le_of_ble_eq_true rfl) dX5_sortNamed_36 (fun H locs hP hD hS => ?_)
          have hP : va_P D vwCl [(a_this, .inr (5, [.ref a_bytes, .int v_length, .ref a_draft, .int v_fault, .int v_faultPlace, .int v_token, .int v_start, .int v_next, .int v_value, .int v_signsTold, .int v_everyTold])), (a_bytes, .inl (cB, 160, .inl v_bytes))] H := hP
          have hD : va_D A [(a_this, .inr (5, [.ref a_bytes, .int v_length, .ref a_draft, .int v_fault, .int v_faultPlace, .int v_token, .int v_start, .int v_next, .int v_value, .int v_signsTold, .int v_everyTold])), (a_bytes, .inl (cB, 160, .inl v_bytes))] := hD
          refine lv_if_eq (tgt := 46) C.1 C.2.1 dX5_sortNamed_39 (by decide) (fun c12 => ?_) (fun c12 => ?_)
          · have hF := fp hF c12
            refine lv_iconst (v := (-1)) C.1 C.2.1 dX5_sortNamed_46 (by decide) ?_
            have hF := Option.some.inj hF
            subst hF
            exact retI C hr hlk hP hD hS dX5_sortNamed_47
          · have hF := fn hF c12
            refine lv_iconst (v := 3) C.1 C.2.1 dX5_sortNamed_42 (by decide) ?_
            refine lv_goto (tgt := 47) C.1 C.2.1 dX5_sortNamed_43 (by decide) ?_
            have hF := Option.some.inj hF
            subst hF
            exact retI C hr hlk hP hD hS dX5_sortNamed_47
        · have hF := fn hF c9
          refine lv_iconst (v := 2) C.1 C.2.1 dX5_sortNamed_31 (by decide) ?_
          have hF := Option.some.inj hF
          subst hF
          exact retI C hr hlk hP hD hS dX5_sortNamed_32
      · have hF := fn hF c6
        refine lv_iconst (v := 1) C.1 C.2.1 dX5_sortNamed_20 (by decide) ?_
        have hF := Option.some.inj hF
        subst hF
        exact retI C hr hlk hP hD hS dX5_sortNamed_21
    · have hF := fn hF c3
      refine lv_iconst (v := 0) C.1 C.2.1 dX5_sortNamed_9 (by decide) ?_
      have hF := Option.some.inj hF
      subst hF
      exact retI C hr hlk hP hD hS dX5_sortNamed_10)
def rm_X5_isNumber : Room := { frames := 1, cells := 0, slots := 0, locals := 21 }
theorem cv_X5_isNumber : CV yX5_isNumber cX5_isNumber 3 (some .boolean) rm_X5_isNumber RX5 2 := ⟨kw2_96, kwp_9, kw1_2, kw2_97, by decide +kernel, rfl, rfl⟩
set_option maxHeartbeats 4000000 in
set_option maxRecDepth 100000 in
theorem b_X5_isNumber_38 {l : Launch} {D : va_G} {cI cB cZ cR cM cS : ClassId} {a_this : Nat} {a_bytes : Nat} {a_draft : Nat} {v_length : Int32} {v_next : Int32} {v_signsTold : Int32} {v_everyTold : Int32} {p : Program} {e : Env} {s : State} {m : MethodId} {args : Array Value} {below : List Frame} {meth : Method} {c : Code} {A : Nat → Prop} {res : Int32 × Int32 × Int32} (C : CX p m c cX5_isNumber 3 s args RX5) (hr : meth.sig.returnType = (some .boolean)) (hlk : meth.locks = false) (hK : KK D (TS cI cB cZ cR cM cS) s) (hA : ∀ q, s.heap.size ≤ q → A q) : ∀ (v_fault : Int32) (v_faultPlace : Int32) (v_token : Int32) (v_start : Int32) (v_value : Int32) (H : Heap) (locs : List Loc) (ls : Array Slot), F_X5_isNumber_38 v_fault v_faultPlace v_token v_start v_value = some res → va_P D vwCl [(a_this, .inr (5, [.ref a_bytes, .int v_length, .ref a_draft, .int v_fault, .int v_faultPlace, .int v_token, .int v_start, .int v_next, .int v_value, .int v_signsTold, .int v_everyTold]))] H → va_D A [(a_this, .inr (5, [.ref a_bytes, .int v_length, .ref a_draft, .int v_fault, .int v_faultPlace, .int v_token, .int v_start, .int v_next, .int v_value, .int v_signsTold, .int v_everyTold]))] → va_S A s.heap H locs → lv_has ls 3 [] → W p l e rm_X5_isNumber s m args below meth c H locs 0 0 (MQ below (va_Qi (fun x (_ : Unit) => x = res.1) (BW D A [(a_this, .inr (5, [.ref a_bytes, .int v_length, .ref a_draft, .int res.2.1, .int res.2.2, .int v_token, .int v_start, .int v_next, .int v_value, .int v_signsTold, .int v_everyTold]))]) A) args s 0 0 A) (F0 m 38 ls []) := by
  intro v_fault v_faultPlace v_token v_start v_value H locs ls hF  hP hD hS hl
  unfold F_X5_isNumber_38 at hF
  refine lv_iconst (v := 1) C.1 C.2.1 dX5_isNumber_38 (by decide) ?_
  refine lv_goto (tgt := 43) C.1 C.2.1 dX5_isNumber_39 (by decide) ?_
  have hF := Option.some.inj hF
  subst hF
  exact retZ (v := 1) C hr hlk (by decide) hP hD hS dX5_isNumber_43
set_option maxHeartbeats 4000000 in
set_option maxRecDepth 100000 in
theorem b_X5_isNumber_30 {l : Launch} {D : va_G} {cI cB cZ cR cM cS : ClassId} {a_this : Nat} {a_bytes : Nat} {a_draft : Nat} {v_length : Int32} {v_next : Int32} {v_signsTold : Int32} {v_everyTold : Int32} {p : Program} {e : Env} {s : State} {m : MethodId} {args : Array Value} {below : List Frame} {meth : Method} {c : Code} {A : Nat → Prop} {res : Int32 × Int32 × Int32} (C : CX p m c cX5_isNumber 3 s args RX5) (hr : meth.sig.returnType = (some .boolean)) (hlk : meth.locks = false) (hK : KK D (TS cI cB cZ cR cM cS) s) (hA : ∀ q, s.heap.size ≤ q → A q) : ∀ (v_fault : Int32) (v_faultPlace : Int32) (v_token : Int32) (v_start : Int32) (v_value : Int32) (H : Heap) (locs : List Loc) (ls : Array Slot), F_X5_isNumber_30 v_fault v_faultPlace v_token v_start v_value = some res → va_P D vwCl [(a_this, .inr (5, [.ref a_bytes, .int v_length, .ref a_draft, .int v_fault, .int v_faultPlace, .int v_token, .int v_start, .int v_next, .int v_value, .int v_signsTold, .int v_everyTold]))] H → va_D A [(a_this, .inr (5, [.ref a_bytes, .int v_length, .ref a_draft, .int v_fault, .int v_faultPlace, .int v_token, .int v_start, .int v_next, .int v_value, .int v_signsTold, .int v_everyTold]))] → va_S A s.heap H locs → lv_has ls 3 [(0, .ref a_this)] → W p l e rm_X5_isNumber s m args below meth c H locs 0 0 (MQ below (va_Qi (fun x (_ : Unit) => x = res.1) (BW D A [(a_this, .inr (5, [.ref a_bytes, .int v_length, .ref a_draft, .int res.2.1, .int res.2.2, .int v_token, .int v_start, .int v_next, .int v_value, .int v_signsTold, .int v_everyTold]))]) A) args s 0 0 A) (F0 m 30 ls []) := by
  intro v_fault v_faultPlace v_token v_start v_value H locs ls hF  hP hD hS hl
  unfold F_X5_isNumber_30 at hF
  refine lv_aload_n C.1 C.2.1 dX5_isNumber_30 rfl (lv_at hl 0 rfl) ?_
  refine lv_iconst (v := 3) C.1 C.2.1 dX5_isNumber_31 (by decide) ?_
  obtain ⟨⟨r1, w2, w3⟩, h4, hF⟩ := fb hF
  refine callVI C hK hA hP hD hS [0] (c_X5_refuse (a_this := a_this) (a_bytes := a_bytes) (a_draft := a_draft) (v_length := v_length) (v_fault := v_fault) (v_faultPlace := v_faultPlace) (v_token := v_token) (v_start := v_start) (v_next := v_next) (v_value := v_value) (v_signsTold := v_signsTold) (v_everyTold := v_everyTold) h4) cv_X5_refuse kw2_18 rfl (by decide) rfl rfl rfl ⟨Nat.le_of_ble_eq_true rfl, Nat.le_of_ble_eq_true rfl⟩ ⟨Nat.zero_le _, Nat.zero_le _⟩ hl.1 rfl (Nat.le_of_ble_eq_true rfl) dX5_isNumber_32 (fun H locs hP hD hS => ?_)
  have hP : va_P D vwCl [(a_this, .inr (5, [.ref a_bytes, .int v_length, .ref a_draft, .int w2, .int w3, .int v_token, .int v_start, .int v_next, .int v_value, .int v_signsTold, .int v_everyTold]))] H := hP
  have hD : va_D A [(a_this, .inr (5, [.ref a_bytes, .int v_length, .ref a_draft, .int w2, .int w3, .int v_token, .int v_start, .int v_next, .int v_value, .int v_signsTold, .int v_everyTold]))] := hD
  refine lv_if_eq (tgt := 42) C.1 C.2.1 dX5_isNumber_35 (by decide) (fun c5 => ?_) (fun c5 => ?_)
  · have hF := fp hF c5
    refine lv_iconst (v := 0) C.1 C.2.1 dX5_isNumber_42 (by decide) ?_
    have hF := Option.some.inj hF
    subst hF
    exact retZ (v := 0) C hr hlk (by decide) hP hD hS dX5_isNumber_43
  · have hF := fn hF c5
    exact b_X5_isNumber_38 C hr hlk hK hA w2 w3 v_token v_start v_value _ _ _ hF hP hD hS (lv_sub hl [] rfl)
set_option maxHeartbeats 4000000 in
set_option maxRecDepth 100000 in
theorem c0_X5_isNumber {l : Launch} {D : va_G} {cI cB cZ cR cM cS : ClassId} {a_this : Nat} {a_bytes : Nat} {a_draft : Nat} {v_length : Int32} {v_fault : Int32} {v_faultPlace : Int32} {v_token : Int32} {v_start : Int32} {v_next : Int32} {v_value : Int32} {v_signsTold : Int32} {v_everyTold : Int32} {x1 : Int32} {x2 : Int32} {res : Int32 × Int32 × Int32} (hF : F_X5_isNumber v_fault v_faultPlace v_token v_start v_value x1 x2 = some res) : MI l yX5_isNumber cX5_isNumber 3 .boolean rm_X5_isNumber D (TS cI cB cZ cR cM cS) [.ref a_this, .int x1, .int x2] [(a_this, .inr (5, [.ref a_bytes, .int v_length, .ref a_draft, .int v_fault, .int v_faultPlace, .int v_token, .int v_start, .int v_next, .int v_value, .int v_signsTold, .int v_everyTold]))] [(a_this, .inr (5, [.ref a_bytes, .int v_length, .ref a_draft, .int res.2.1, .int res.2.2, .int v_token, .int v_start, .int v_next, .int v_value, .int v_signsTold, .int v_everyTold]))] res.1 :=
  MI_of (by decide) (Nat.le_of_ble_eq_true rfl) (fun p e s m args below meth c A ls C hr hlk hK hA hP hD hS hl => by
    have C : CX p m c cX5_isNumber 3 s args RX5 := C
    have hl : lv_has ls 3 [(0, .ref a_this), (1, .int x1), (2, .int x2)] := hl
    unfold F_X5_isNumber at hF
    refine lv_aload_n C.1 C.2.1 dX5_isNumber_0 rfl (lv_at hl 0 rfl) ?_
    refine gf_5_5_token C hK hP 0 rfl rfl dX5_isNumber_1 ?_
    refine lv_iconst (v := 2) C.1 C.2.1 dX5_isNumber_4 (by decide) ?_
    refine lv_icmp_eq (tgt := 14) C.1 C.2.1 dX5_isNumber_5 (by decide) (fun c1 => ?_) (fun c1 => ?_)
    · have hF := fp hF c1
      refine lv_aload_n C.1 C.2.1 dX5_isNumber_14 rfl (lv_at hl 0 rfl) ?_
      refine gf_5_5_value C hK hP 0 rfl rfl dX5_isNumber_15 ?_
      refine lv_iload_n C.1 C.2.1 dX5_isNumber_18 rfl (lv_at hl 1 rfl) ?_
      refine lv_icmp_lt (tgt := 30) C.1 C.2.1 dX5_isNumber_19 (by decide) (fun c2 => ?_) (fun c2 => ?_)
      · have hF := fp hF c2
        exact b_X5_isNumber_30 C hr hlk hK hA v_fault v_faultPlace v_token v_start v_value _ _ _ hF hP hD hS (lv_sub hl [0] rfl)
      · have hF := fn hF c2
        refine lv_aload_n C.1 C.2.1 dX5_isNumber_22 rfl (lv_at hl 0 rfl) ?_
        refine gf_5_5_value C hK hP 0 rfl rfl dX5_isNumber_23 ?_
        refine lv_iload_n C.1 C.2.1 dX5_isNumber_26 rfl (lv_at hl 2 rfl) ?_
        refine lv_icmp_le (tgt := 38) C.1 C.2.1 dX5_isNumber_27 (by decide) (fun c3 => ?_) (fun c3 => ?_)
        · have hF := fp hF c3
          exact b_X5_isNumber_38 C hr hlk hK hA v_fault v_faultPlace v_token v_start v_value _ _ _ hF hP hD hS (lv_sub hl [] rfl)
        · have hF := fn hF c3
          exact b_X5_isNumber_30 C hr hlk hK hA v_fault v_faultPlace v_token v_start v_value _ _ _ hF hP hD hS (lv_sub hl [0] rfl)
    · have hF := fn hF c1
      refine lv_aload_n C.1 C.2.1 dX5_isNumber_8 rfl (lv_at hl 0 rfl) ?_
      refine lv_iconst (v := 2) C.1 C.2.1 dX5_isNumber_9 (by decide) ?_
      obtain ⟨⟨r4, w5, w6⟩, h7, hF⟩ := fb hF
      refine callVI C hK hA hP hD hS [0] (c_X5_refuse (a_this := a_this) (a_bytes := a_bytes) (a_draft := a_draft) (v_length := v_length) (v_fault := v_fault) (v_faultPlace := v_faultPlace) (v_token := v_token) (v_start := v_start) (v_next := v_next) (v_value := v_value) (v_signsTold := v_signsTold) (v_everyTold := v_everyTold) h7) cv_X5_refuse kw2_18 rfl (by decide) rfl rfl rfl ⟨Nat.le_of_ble_eq_true rfl, Nat.le_of_ble_eq_true rfl⟩ ⟨Nat.zero_le _, Nat.zero_le _⟩ hl.1 rfl (Nat.le_of_ble_eq_true rfl) dX5_isNumber_10 (fun H locs hP hD hS => ?_)
      have hP : va_P D vwCl [(a_this, .inr (5, [.ref a_bytes, .int v_length, .ref a_draft, .int w5, .int w6, .int v_token, .int v_start, .int v_next, .int v_value, .int v_signsTold, .int v_everyTold]))] H := hP
      have hD : va_D A [(a_this, .inr (5, [.ref a_bytes, .int v_length, .ref a_draft, .int w5, .int w6, .int v_token, .int v_start, .int v_next, .int v_value, .int v_signsTold, .int v_everyTold]))] := hD
      obtain ⟨h8, hF⟩ := fk hF
      have hF := Option.some.inj hF
      subst hF
      exact retZ C hr hlk (narZ h8) hP hD hS dX5_isNumber_13)
theorem c_X5_isNumber {l : Launch} {D : va_G} {cI cB cZ cR cM cS : ClassId} {a_this : Nat} {a_bytes : Nat} {a_draft : Nat} {v_length : Int32} {v_fault : Int32} {v_faultPlace : Int32} {v_token : Int32} {v_start : Int32} {v_next : Int32} {v_value : Int32} {v_signsTold : Int32} {v_everyTold : Int32} {x1 : Int32} {x2 : Int32} {r_ : Int32} {v_fault' : Int32} {v_faultPlace' : Int32} (hF : F_X5_isNumber v_fault v_faultPlace v_token v_start v_value x1 x2 = some (r_, v_fault', v_faultPlace')) : MI l yX5_isNumber cX5_isNumber 3 .boolean rm_X5_isNumber D (TS cI cB cZ cR cM cS) [.ref a_this, .int x1, .int x2] [(a_this, .inr (5, [.ref a_bytes, .int v_length, .ref a_draft, .int v_fault, .int v_faultPlace, .int v_token, .int v_start, .int v_next, .int v_value, .int v_signsTold, .int v_everyTold]))] [(a_this, .inr (5, [.ref a_bytes, .int v_length, .ref a_draft, .int v_fault', .int v_faultPlace', .int v_token, .int v_start, .int v_next, .int v_value, .int v_signsTold, .int v_everyTold]))] r_ :=
  c0_X5_isNumber (res := (r_, v_fault', v_faultPlace')) hF
def rm_X5_takeNumber : Room := { frames := 2, cells := 0, slots := 0, locals := 45 }
theorem cv_X5_takeNumber : CV yX5_takeNumber cX5_takeNumber 3 (some .boolean) rm_X5_takeNumber RX5 2 := ⟨kw2_92, kwp_8, kw1_2, kw2_93, by decide +kernel, rfl, rfl⟩
set_option maxHeartbeats 4000000 in
set_option maxRecDepth 100000 in
theorem c0_X5_takeNumber {l : Launch} {D : va_G} {cI cB cZ cR cM cS : ClassId} {a_this : Nat} {a_bytes : Nat} {a_draft : Nat} {v_length : Int32} {v_fault : Int32} {v_faultPlace : Int32} {v_token : Int32} {v_start : Int32} {v_next : Int32} {v_value : Int32} {v_signsTold : Int32} {v_everyTold : Int32} {v_bytes : Nat → Int32} {x1 : Int32} {x2 : Int32} {res : Int32 × Int32 × Int32 × Int32 × Int32 × Int32 × Int32} (hF : F_X5_takeNumber v_length v_fault v_faultPlace v_token v_start v_next v_value v_bytes x1 x2 = some res) : MI l yX5_takeNumber cX5_takeNumber 3 .boolean rm_X5_takeNumber D (TS cI cB cZ cR cM cS) [.ref a_this, .int x1, .int x2] [(a_this, .inr (5, [.ref a_bytes, .int v_length, .ref a_draft, .int v_fault, .int v_faultPlace, .int v_token, .int v_start, .int v_next, .int v_value, .int v_signsTold, .int v_everyTold])), (a_bytes, .inl (cB, 160, .inl v_bytes))] [(a_this, .inr (5, [.ref a_bytes, .int v_length, .ref a_draft, .int res.2.1, .int res.2.2.1, .int res.2.2.2.1, .int res.2.2.2.2.1, .int res.2.2.2.2.2.1, .int res.2.2.2.2.2.2, .int v_signsTold, .int v_everyTold])), (a_bytes, .inl (cB, 160, .inl v_bytes))] res.1 :=
  MI_of (by decide) (Nat.le_of_ble_eq_true rfl) (fun p e s m args below meth c A ls C hr hlk hK hA hP hD hS hl => by
    have C : CX p m c cX5_takeNumber 3 s args RX5 := C
    have hl : lv_has ls 3 [(0, .ref a_this), (1, .int x1), (2, .int x2)] := hl
    unfold F_X5_takeNumber at hF
    refine lv_aload_n C.1 C.2.1 dX5_takeNumber_0 rfl (lv_at hl 0 rfl) ?_
    obtain ⟨⟨r1, w2, w3, w4, w5, w6, w7⟩, h8, hF⟩ := fb hF
    refine callVI C hK hA hP hD hS [0, 1] (c_X5_readToken (a_this := a_this) (a_bytes := a_bytes) (a_draft := a_draft) (v_length := v_length) (v_fault := v_fault) (v_faultPlace := v_faultPlace) (v_token := v_token) (v_start := v_start) (v_next := v_next) (v_value := v_value) (v_signsTold := v_signsTold) (v_everyTold := v_everyTold) (v_bytes := v_bytes) h8) cv_X5_readToken kw2_6 rfl (by decide) rfl rfl rfl ⟨Nat.le_of_ble_eq_true rfl, Nat.le_of_ble_eq_true rfl⟩ ⟨Nat.zero_le _, Nat.zero_le _⟩ hl.1 rfl (Nat.le_of_ble_eq_true rfl) dX5_takeNumber_1 (fun H locs hP hD hS => ?_)
    have hP : va_P D vwCl [(a_this, .inr (5, [.ref a_bytes, .int v_length, .ref a_draft, .int w2, .int w3, .int w4, .int w5, .int w6, .int w7, .int v_signsTold, .int v_everyTold])), (a_bytes, .inl (cB, 160, .inl v_bytes))] H := hP
    have hD : va_D A [(a_this, .inr (5, [.ref a_bytes, .int v_length, .ref a_draft, .int w2, .int w3, .int w4, .int w5, .int w6, .int w7, .int v_signsTold, .int v_everyTold])), (a_bytes, .inl (cB, 160, .inl v_bytes))] := hD
    refine lv_if_eq (tgt := 20) C.1 C.2.1 dX5_takeNumber_4 (by decide) (fun c9 => ?_) (fun c9 => ?_)
    · have hF := fp hF c9
      refine lv_iconst (v := 0) C.1 C.2.1 dX5_takeNumber_20 (by decide) ?_
      have hF := Option.some.inj hF
      subst hF
      exact retZ (v := 0) C hr hlk (by decide) hP hD hS dX5_takeNumber_21
    · have hF := fn hF c9
      refine lv_aload_n C.1 C.2.1 dX5_takeNumber_7 rfl (lv_at hl 0 rfl) ?_
      refine lv_iload_n C.1 C.2.1 dX5_takeNumber_8 rfl (lv_at hl 1 rfl) ?_
      refine lv_iload_n C.1 C.2.1 dX5_takeNumber_9 rfl (lv_at hl 2 rfl) ?_
      obtain ⟨⟨r10, w11, w12⟩, h13, hF⟩ := fb hF
      refine callVI C hK hA hP hD hS [0] (c_X5_isNumber (a_this := a_this) (a_bytes := a_bytes) (a_draft := a_draft) (v_length := v_length) (v_fault := w2) (v_faultPlace := w3) (v_token := w4) (v_start := w5) (v_next := w6) (v_value := w7) (v_signsTold := v_signsTold) (v_everyTold := v_everyTold) h13) cv_X5_isNumber kw2_94 rfl (by decide) rfl rfl rfl ⟨Nat.le_of_ble_eq_true rfl, Nat.le_of_ble_eq_true rfl⟩ ⟨Nat.zero_le _, Nat.zero_le _⟩ hl.1 rfl (Nat.le_of_ble_eq_true rfl) dX5_takeNumber_10 (fun H locs hP hD hS => ?_)
      have hP : va_P D vwCl [(a_this, .inr (5, [.ref a_bytes, .int v_length, .ref a_draft, .int w11, .int w12, .int w4, .int w5, .int w6, .int w7, .int v_signsTold, .int v_everyTold])), (a_bytes, .inl (cB, 160, .inl v_bytes))] H := hP
      have hD : va_D A [(a_this, .inr (5, [.ref a_bytes, .int v_length, .ref a_draft, .int w11, .int w12, .int w4, .int w5, .int w6, .int w7, .int v_signsTold, .int v_everyTold])), (a_bytes, .inl (cB, 160, .inl v_bytes))] := hD
      refine lv_if_eq (tgt := 20) C.1 C.2.1 dX5_takeNumber_13 (by decide) (fun c14 => ?_) (fun c14 => ?_)
      · have hF := fp hF c14
        refine lv_iconst (v := 0) C.1 C.2.1 dX5_takeNumber_20 (by decide) ?_
        have hF := Option.some.inj hF
        subst hF
        exact retZ (v := 0) C hr hlk (by decide) hP hD hS dX5_takeNumber_21
      · have hF := fn hF c14
        refine lv_iconst (v := 1) C.1 C.2.1 dX5_takeNumber_16 (by decide) ?_
        refine lv_goto (tgt := 21) C.1 C.2.1 dX5_takeNumber_17 (by decide) ?_
        have hF := Option.some.inj hF
        subst hF
        exact retZ (v := 1) C hr hlk (by decide) hP hD hS dX5_takeNumber_21)
theorem c_X5_takeNumber {l : Launch} {D : va_G} {cI cB cZ cR cM cS : ClassId} {a_this : Nat} {a_bytes : Nat} {a_draft : Nat} {v_length : Int32} {v_fault : Int32} {v_faultPlace : Int32} {v_token : Int32} {v_start : Int32} {v_next : Int32} {v_value : Int32} {v_signsTold : Int32} {v_everyTold : Int32} {v_bytes : Nat → Int32} {x1 : Int32} {x2 : Int32} {r_ : Int32} {v_fault' : Int32} {v_faultPlace' : Int32} {v_token' : Int32} {v_start' : Int32} {v_next' : Int32} {v_value' : Int32} (hF : F_X5_takeNumber v_length v_fault v_faultPlace v_token v_start v_next v_value v_bytes x1 x2 = some (r_, v_fault', v_faultPlace', v_token', v_start', v_next', v_value')) : MI l yX5_takeNumber cX5_takeNumber 3 .boolean rm_X5_takeNumber D (TS cI cB cZ cR cM cS) [.ref a_this, .int x1, .int x2] [(a_this, .inr (5, [.ref a_bytes, .int v_length, .ref a_draft, .int v_fault, .int v_faultPlace, .int v_token, .int v_start, .int v_next, .int v_value, .int v_signsTold, .int v_everyTold])), (a_bytes, .inl (cB, 160, .inl v_bytes))] [(a_this, .inr (5, [.ref a_bytes, .int v_length, .ref a_draft, .int v_fault', .int v_faultPlace', .int v_token', .int v_start', .int v_next', .int v_value', .int v_signsTold, .int v_everyTold])), (a_bytes, .inl (cB, 160, .inl v_bytes))] r_ :=
  c0_X5_takeNumber (res := (r_, v_fault', v_faultPlace', v_token', v_start', v_next', v_value')) hF
def rm_X5_takeStop : Room := { frames := 2, cells := 0, slots := 0, locals := 45 }
theorem cv_X5_takeStop : CV yX5_takeStop cX5_takeStop 1 (some .boolean) rm_X5_takeStop RX5 0 := ⟨kw2_108, kwp_10, kw1_2, kw2_109, by decide +kernel, rfl, rfl⟩
set_option maxHeartbeats 4000000 in
set_option maxRecDepth 100000 in
theorem b_X5_takeStop_23 {l : Launch} {D : va_G} {cI cB cZ cR cM cS : ClassId} {a_this : Nat} {a_bytes : Nat} {a_draft : Nat} {v_signsTold : Int32} {v_everyTold : Int32} {p : Program} {e : Env} {s : State} {m : MethodId} {args : Array Value} {below : List Frame} {meth : Method} {c : Code} {A : Nat → Prop} {res : Int32 × Int32 × Int32 × Int32 × Int32 × Int32 × Int32} (C : CX p m c cX5_takeStop 1 s args RX5) (hr : meth.sig.returnType = (some .boolean)) (hlk : meth.locks = false) (hK : KK D (TS cI cB cZ cR cM cS) s) (hA : ∀ q, s.heap.size ≤ q → A q) : ∀ (v_length : Int32) (v_fault : Int32) (v_faultPlace : Int32) (v_token : Int32) (v_start : Int32) (v_next : Int32) (v_value : Int32) (v_bytes : Nat → Int32) (H : Heap) (locs : List Loc) (ls : Array Slot), F_X5_takeStop_23 v_length v_fault v_faultPlace v_token v_start v_next v_value v_bytes = some res → va_P D vwCl [(a_this, .inr (5, [.ref a_bytes, .int v_length, .ref a_draft, .int v_fault, .int v_faultPlace, .int v_token, .int v_start, .int v_next, .int v_value, .int v_signsTold, .int v_everyTold])), (a_bytes, .inl (cB, 160, .inl v_bytes))] H → va_D A [(a_this, .inr (5, [.ref a_bytes, .int v_length, .ref a_draft, .int v_fault, .int v_faultPlace, .int v_token, .int v_start, .int v_next, .int v_value, .int v_signsTold, .int v_everyTold])), (a_bytes, .inl (cB, 160, .inl v_bytes))] → va_S A s.heap H locs → lv_has ls 1 [] → W p l e rm_X5_takeStop s m args below meth c H locs 0 0 (MQ below (va_Qi (fun x (_ : Unit) => x = res.1) (BW D A [(a_this, .inr (5, [.ref a_bytes, .int v_length, .ref a_draft, .int res.2.1, .int res.2.2.1, .int res.2.2.2.1, .int res.2.2.2.2.1, .int res.2.2.2.2.2.1, .int res.2.2.2.2.2.2, .int v_signsTold, .int v_everyTold])), (a_bytes, .inl (cB, 160, .inl v_bytes))]) A) args s 0 0 A) (F0 m 23 ls []) := by
  intro v_length v_fault v_faultPlace v_token v_start v_next v_value v_bytes H locs ls hF  hP hD hS hl
  unfold F_X5_takeStop_23 at hF
  refine lv_iconst (v := 1) C.1 C.2.1 dX5_takeStop_23 (by decide) ?_
  refine lv_goto (tgt := 28) C.1 C.2.1 dX5_takeStop_24 (by decide) ?_
  have hF := Option.some.inj hF
  subst hF
  exact retZ (v := 1) C hr hlk (by decide) hP hD hS dX5_takeStop_28
set_option maxHeartbeats 4000000 in
set_option maxRecDepth 100000 in
theorem c0_X5_takeStop {l : Launch} {D : va_G} {cI cB cZ cR cM cS : ClassId} {a_this : Nat} {a_bytes : Nat} {a_draft : Nat} {v_length : Int32} {v_fault : Int32} {v_faultPlace : Int32} {v_token : Int32} {v_start : Int32} {v_next : Int32} {v_value : Int32} {v_signsTold : Int32} {v_everyTold : Int32} {v_bytes : Nat → Int32} {res : Int32 × Int32 × Int32 × Int32 × Int32 × Int32 × Int32} (hF : F_X5_takeStop v_length v_fault v_faultPlace v_token v_start v_next v_value v_bytes = some res) : MI l yX5_takeStop cX5_takeStop 1 .boolean rm_X5_takeStop D (TS cI cB cZ cR cM cS) [.ref a_this] [(a_this, .inr (5, [.ref a_bytes, .int v_length, .ref a_draft, .int v_fault, .int v_faultPlace, .int v_token, .int v_start, .int v_next, .int v_value, .int v_signsTold, .int v_everyTold])), (a_bytes, .inl (cB, 160, .inl v_bytes))] [(a_this, .inr (5, [.ref a_bytes, .int v_length, .ref a_draft, .int res.2.1, .int res.2.2.1, .int res.2.2.2.1, .int res.2.2.2.2.1, .int res.2.2.2.2.2.1, .int res.2.2.2.2.2.2, .int v_signsTold, .int v_everyTold])), (a_bytes, .inl (cB, 160, .inl v_bytes))] res.1 :=
  MI_of (by decide) (Nat.le_of_ble_eq_true rfl) (fun p e s m args below meth c A ls C hr hlk hK hA hP hD hS hl => by
    have C : CX p m c cX5_takeStop 1 s args RX5 := C
    have hl : lv_has ls 1 [(0, .ref a_this)] := hl
    unfold F_X5_takeStop at hF
    refine lv_aload_n C.1 C.2.1 dX5_takeStop_0 rfl (lv_at hl 0 rfl) ?_
    obtain ⟨⟨r1, w2, w3, w4, w5, w6, w7⟩, h8, hF⟩ := fb hF
    refine callVI C hK hA hP hD hS [0, 1] (c_X5_readToken (a_this := a_this) (a_bytes := a_bytes) (a_draft := a_draft) (v_length := v_length) (v_fault := v_fault) (v_faultPlace := v_faultPlace) (v_token := v_token) (v_start := v_start) (v_next := v_next) (v_value := v_value) (v_signsTold := v_signsTold) (v_everyTold := v_everyTold) (v_bytes := v_bytes) h8) cv_X5_readToken kw2_6 rfl (by decide) rfl rfl rfl ⟨Nat.le_of_ble_eq_true rfl, Nat.le_of_ble_eq_true rfl⟩ ⟨Nat.zero_le _, Nat.zero_le _⟩ hl.1 rfl (Nat.le_of_ble_eq_true rfl) dX5_takeStop_1 (fun H locs hP hD hS => ?_)
    have hP : va_P D vwCl [(a_this, .inr (5, [.ref a_bytes, .int v_length, .ref a_draft, .int w2, .int w3, .int w4, .int w5, .int w6, .int w7, .int v_signsTold, .int v_everyTold])), (a_bytes, .inl (cB, 160, .inl v_bytes))] H := hP
    have hD : va_D A [(a_this, .inr (5, [.ref a_bytes, .int v_length, .ref a_draft, .int w2, .int w3, .int w4, .int w5, .int w6, .int w7, .int v_signsTold, .int v_everyTold])), (a_bytes, .inl (cB, 160, .inl v_bytes))] := hD
    refine lv_if_eq (tgt := 27) C.1 C.2.1 dX5_takeStop_4 (by decide) (fun c9 => ?_) (fun c9 => ?_)
    · have hF := fp hF c9
      refine lv_iconst (v := 0) C.1 C.2.1 dX5_takeStop_27 (by decide) ?_
      have hF := Option.some.inj hF
      subst hF
      exact retZ (v := 0) C hr hlk (by decide) hP hD hS dX5_takeStop_28
    · have hF := fn hF c9
      refine lv_aload_n C.1 C.2.1 dX5_takeStop_7 rfl (lv_at hl 0 rfl) ?_
      refine gf_5_5_token C hK hP 0 rfl rfl dX5_takeStop_8 ?_
      refine lv_iconst (v := 3) C.1 C.2.1 dX5_takeStop_11 (by decide) ?_
      refine lv_icmp_eq (tgt := 23) C.1 C.2.1 dX5_takeStop_12 (by decide) (fun c10 => ?_) (fun c10 => ?_)
      · have hF := fp hF c10
        exact b_X5_takeStop_23 C hr hlk hK hA v_length w2 w3 w4 w5 w6 w7 v_bytes _ _ _ hF hP hD hS (lv_sub hl [] rfl)
      · have hF := fn hF c10
        refine lv_aload_n C.1 C.2.1 dX5_takeStop_15 rfl (lv_at hl 0 rfl) ?_
        refine lv_iconst (v := 2) C.1 C.2.1 dX5_takeStop_16 (by decide) ?_
        obtain ⟨⟨r11, w12, w13⟩, h14, hF⟩ := fb hF
        refine callVI C hK hA hP hD hS [0] (c_X5_refuse (a_this := a_this) (a_bytes := a_bytes) (a_draft := a_draft) (v_length := v_length) (v_fault := w2) (v_faultPlace := w3) (v_token := w4) (v_start := w5) (v_next := w6) (v_value := w7) (v_signsTold := v_signsTold) (v_everyTold := v_everyTold) h14) cv_X5_refuse kw2_18 rfl (by decide) rfl rfl rfl ⟨Nat.le_of_ble_eq_true rfl, Nat.le_of_ble_eq_true rfl⟩ ⟨Nat.zero_le _, Nat.zero_le _⟩ hl.1 rfl (Nat.le_of_ble_eq_true rfl) dX5_takeStop_17 (fun H locs hP hD hS => ?_)
        have hP : va_P D vwCl [(a_this, .inr (5, [.ref a_bytes, .int v_length, .ref a_draft, .int w12, .int w13, .int w4, .int w5, .int w6, .int w7, .int v_signsTold, .int v_everyTold])), (a_bytes, .inl (cB, 160, .inl v_bytes))] H := hP
        have hD : va_D A [(a_this, .inr (5, [.ref a_bytes, .int v_length, .ref a_draft, .int w12, .int w13, .int w4, .int w5, .int w6, .int w7, .int v_signsTold, .int v_everyTold])), (a_bytes, .inl (cB, 160, .inl v_bytes))] := hD
        refine lv_if_eq (tgt := 27) C.1 C.2.1 dX5_takeStop_20 (by decide) (fun c15 => ?_) (fun c15 => ?_)
        · have hF := fp hF c15
          refine lv_iconst (v := 0) C.1 C.2.1 dX5_takeStop_27 (by decide) ?_
          have hF := Option.some.inj hF
          subst hF
          exact retZ (v := 0) C hr hlk (by decide) hP hD hS dX5_takeStop_28
        · have hF := fn hF c15
          exact b_X5_takeStop_23 C hr hlk hK hA v_length w12 w13 w4 w5 w6 w7 v_bytes _ _ _ hF hP hD hS (lv_sub hl [] rfl))
theorem c_X5_takeStop {l : Launch} {D : va_G} {cI cB cZ cR cM cS : ClassId} {a_this : Nat} {a_bytes : Nat} {a_draft : Nat} {v_length : Int32} {v_fault : Int32} {v_faultPlace : Int32} {v_token : Int32} {v_start : Int32} {v_next : Int32} {v_value : Int32} {v_signsTold : Int32} {v_everyTold : Int32} {v_bytes : Nat → Int32} {r_ : Int32} {v_fault' : Int32} {v_faultPlace' : Int32} {v_token' : Int32} {v_start' : Int32} {v_next' : Int32} {v_value' : Int32} (hF : F_X5_takeStop v_length v_fault v_faultPlace v_token v_start v_next v_value v_bytes = some (r_, v_fault', v_faultPlace', v_token', v_start', v_next', v_value')) : MI l yX5_takeStop cX5_takeStop 1 .boolean rm_X5_takeStop D (TS cI cB cZ cR cM cS) [.ref a_this] [(a_this, .inr (5, [.ref a_bytes, .int v_length, .ref a_draft, .int v_fault, .int v_faultPlace, .int v_token, .int v_start, .int v_next, .int v_value, .int v_signsTold, .int v_everyTold])), (a_bytes, .inl (cB, 160, .inl v_bytes))] [(a_this, .inr (5, [.ref a_bytes, .int v_length, .ref a_draft, .int v_fault', .int v_faultPlace', .int v_token', .int v_start', .int v_next', .int v_value', .int v_signsTold, .int v_everyTold])), (a_bytes, .inl (cB, 160, .inl v_bytes))] r_ :=
  c0_X5_takeStop (res := (r_, v_fault', v_faultPlace', v_token', v_start', v_next', v_value')) hF
def rm_X5_takeEvery : Room := { frames := 3, cells := 0, slots := 0, locals := 67 }
theorem cv_X5_takeEvery : CV yX5_takeEvery cX5_takeEvery 1 (some .boolean) rm_X5_takeEvery RX5 0 := ⟨kw2_122, kwp_12, kw1_2, kw2_123, by decide +kernel, rfl, rfl⟩
set_option maxHeartbeats 4000000 in
set_option maxRecDepth 100000 in
theorem c0_X5_takeEvery {l : Launch} {D : va_G} {cI cB cZ cR cM cS : ClassId} {a_this : Nat} {a_bytes : Nat} {a_draft : Nat} {a_draft_signs : Nat} {a_draft_rotors : Nat} {v_length : Int32} {v_fault : Int32} {v_faultPlace : Int32} {v_token : Int32} {v_start : Int32} {v_next : Int32} {v_value : Int32} {v_signsTold : Int32} {v_everyTold : Int32} {v_bytes : Nat → Int32} {v_draft_field : Int32} {v_draft_tick : Int32} {v_draft_pace : Int32} {v_draft_signNumber : Int32} {v_draft_rotorNumber : Int32} {res : Int32 × Int32 × Int32 × Int32 × Int32 × Int32 × Int32 × Int32 × Int32} (hF : F_X5_takeEvery v_length v_fault v_faultPlace v_token v_start v_next v_value v_everyTold v_bytes v_draft_pace = some res) : MI l yX5_takeEvery cX5_takeEvery 1 .boolean rm_X5_takeEvery D (TS cI cB cZ cR cM cS) [.ref a_this] [(a_this, .inr (5, [.ref a_bytes, .int v_length, .ref a_draft, .int v_fault, .int v_faultPlace, .int v_token, .int v_start, .int v_next, .int v_value, .int v_signsTold, .int v_everyTold])), (a_bytes, .inl (cB, 160, .inl v_bytes)), (a_draft, .inr (0, [.int v_draft_field, .int v_draft_tick, .int v_draft_pace, .int v_draft_signNumber, .int v_draft_rotorNumber, .ref a_draft_signs, .ref a_draft_rotors]))] [(a_this, .inr (5, [.ref a_bytes, .int v_length, .ref a_draft, .int res.2.1, .int res.2.2.1, .int res.2.2.2.1, .int res.2.2.2.2.1, .int res.2.2.2.2.2.1, .int res.2.2.2.2.2.2.1, .int v_signsTold, .int res.2.2.2.2.2.2.2.1])), (a_bytes, .inl (cB, 160, .inl v_bytes)), (a_draft, .inr (0, [.int v_draft_field, .int v_draft_tick, .int res.2.2.2.2.2.2.2.2, .int v_draft_signNumber, .int v_draft_rotorNumber, .ref a_draft_signs, .ref a_draft_rotors]))] res.1 :=
  MI_of (by decide) (Nat.le_of_ble_eq_true rfl) (fun p e s m args below meth c A ls C hr hlk hK hA hP hD hS hl => by
    have C : CX p m c cX5_takeEvery 1 s args RX5 := C
    have hl : lv_has ls 1 [(0, .ref a_this)] := hl
    unfold F_X5_takeEvery at hF
    refine lv_aload_n C.1 C.2.1 dX5_takeEvery_0 rfl (lv_at hl 0 rfl) ?_
    refine gf_5_5_everyTold C hK hP 0 rfl rfl dX5_takeEvery_1 ?_
    refine lv_if_eq (tgt := 13) C.1 C.2.1 dX5_takeEvery_4 (by decide) (fun c1 => ?_) (fun c1 => ?_)
    · have hF := fp hF c1
      refine lv_aload_n C.1 C.2.1 dX5_takeEvery_13 rfl (lv_at hl 0 rfl) ?_
      refine lv_iconst (v := 1) C.1 C.2.1 dX5_takeEvery_14 (by decide) ?_
      refine pf_5_5_everyTold C hK hP hD hS 0 rfl rfl (by decide) dX5_takeEvery_15 (fun H locs hP hD hS => ?_)
      have hP : va_P D vwCl [(a_this, .inr (5, [.ref a_bytes, .int v_length, .ref a_draft, .int v_fault, .int v_faultPlace, .int v_token, .int v_start, .int v_next, .int v_value, .int v_signsTold, .int (1 : Int32)])), (a_bytes, .inl (cB, 160, .inl v_bytes)), (a_draft, .inr (0, [.int v_draft_field, .int v_draft_tick, .int v_draft_pace, .int v_draft_signNumber, .int v_draft_rotorNumber, .ref a_draft_signs, .ref a_draft_rotors]))] H := hP
      have hD : va_D A [(a_this, .inr (5, [.ref a_bytes, .int v_length, .ref a_draft, .int v_fault, .int v_faultPlace, .int v_token, .int v_start, .int v_next, .int v_value, .int v_signsTold, .int (1 : Int32)])), (a_bytes, .inl (cB, 160, .inl v_bytes)), (a_draft, .inr (0, [.int v_draft_field, .int v_draft_tick, .int v_draft_pace, .int v_draft_signNumber, .int v_draft_rotorNumber, .ref a_draft_signs, .ref a_draft_rotors]))] := hD
      refine lv_aload_n C.1 C.2.1 dX5_takeEvery_18 rfl (lv_at hl 0 rfl) ?_
      refine lv_iconst (v := 1) C.1 C.2.1 dX5_takeEvery_19 (by decide) ?_
      refine lv_bipush (v := 9) C.1 C.2.1 dX5_takeEvery_20 (by decide) ?_
      obtain ⟨⟨r2, w3, w4, w5, w6, w7, w8⟩, h9, hF⟩ := fb hF
      refine callVI C hK hA hP hD hS [0, 1] (c_X5_takeNumber (a_this := a_this) (a_bytes := a_bytes) (a_draft := a_draft) (v_length := v_length) (v_fault := v_fault) (v_faultPlace := v_faultPlace) (v_token := v_token) (v_start := v_start) (v_next := v_next) (v_value := v_value) (v_signsTold := v_signsTold) (v_everyTold := (1 : Int32)) (v_bytes := v_bytes) h9) cv_X5_takeNumber kw2_90 rfl (by decide) rfl rfl rfl ⟨Nat.le_of_ble_eq_true rfl, Nat.le_of_ble_eq_true rfl⟩ ⟨Nat.zero_le _, Nat.zero_le _⟩ hl.1 rfl (Nat.le_of_ble_eq_true rfl) dX5_takeEvery_22 (fun H locs hP hD hS => ?_)
      have hP : va_P D vwCl [(a_this, .inr (5, [.ref a_bytes, .int v_length, .ref a_draft, .int w3, .int w4, .int w5, .int w6, .int w7, .int w8, .int v_signsTold, .int (1 : Int32)])), (a_bytes, .inl (cB, 160, .inl v_bytes)), (a_draft, .inr (0, [.int v_draft_field, .int v_draft_tick, .int v_draft_pace, .int v_draft_signNumber, .int v_draft_rotorNumber, .ref a_draft_signs, .ref a_draft_rotors]))] H := hP
      have hD : va_D A [(a_this, .inr (5, [.ref a_bytes, .int v_length, .ref a_draft, .int w3, .int w4, .int w5, .int w6, .int w7, .int w8, .int v_signsTold, .int (1 : Int32)])), (a_bytes, .inl (cB, 160, .inl v_bytes)), (a_draft, .inr (0, [.int v_draft_field, .int v_draft_tick, .int v_draft_pace, .int v_draft_signNumber, .int v_draft_rotorNumber, .ref a_draft_signs, .ref a_draft_rotors]))] := hD
      refine lv_if_ne (tgt := 30) C.1 C.2.1 dX5_takeEvery_25 (by decide) (fun c10 => ?_) (fun c10 => ?_)
      · have hF := fn hF c10
        refine lv_aload_n C.1 C.2.1 dX5_takeEvery_30 rfl (lv_at hl 0 rfl) ?_
        refine gf_5_5_draft C hK hP 0 rfl rfl dX5_takeEvery_31 ?_
        refine lv_aload_n C.1 C.2.1 dX5_takeEvery_34 rfl (lv_at hl 0 rfl) ?_
        refine gf_5_5_value C hK hP 0 rfl rfl dX5_takeEvery_35 ?_
        refine pf_5_0_pace C hK hP hD hS 2 rfl rfl dX5_takeEvery_38 (fun H locs hP hD hS => ?_)
        have hP : va_P D vwCl [(a_this, .inr (5, [.ref a_bytes, .int v_length, .ref a_draft, .int w3, .int w4, .int w5, .int w6, .int w7, .int w8, .int v_signsTold, .int (1 : Int32)])), (a_bytes, .inl (cB, 160, .inl v_bytes)), (a_draft, .inr (0, [.int v_draft_field, .int v_draft_tick, .int w8, .int v_draft_signNumber, .int v_draft_rotorNumber, .ref a_draft_signs, .ref a_draft_rotors]))] H := hP
        have hD : va_D A [(a_this, .inr (5, [.ref a_bytes, .int v_length, .ref a_draft, .int w3, .int w4, .int w5, .int w6, .int w7, .int w8, .int v_signsTold, .int (1 : Int32)])), (a_bytes, .inl (cB, 160, .inl v_bytes)), (a_draft, .inr (0, [.int v_draft_field, .int v_draft_tick, .int w8, .int v_draft_signNumber, .int v_draft_rotorNumber, .ref a_draft_signs, .ref a_draft_rotors]))] := hD
        refine lv_aload_n C.1 C.2.1 dX5_takeEvery_41 rfl (lv_at hl 0 rfl) ?_
        obtain ⟨⟨r11, w12, w13, w14, w15, w16, w17⟩, h18, hF⟩ := fb hF
        refine callVI C hK hA hP hD hS [0, 1] (c_X5_takeStop (a_this := a_this) (a_bytes := a_bytes) (a_draft := a_draft) (v_length := v_length) (v_fault := w3) (v_faultPlace := w4) (v_token := w5) (v_start := w6) (v_next := w7) (v_value := w8) (v_signsTold := v_signsTold) (v_everyTold := (1 : Int32)) (v_bytes := v_bytes) h18) cv_X5_takeStop kw2_106 rfl (by decide) rfl rfl rfl ⟨Nat.le_of_ble_eq_true rfl, Nat.le_of_ble_eq_true rfl⟩ ⟨Nat.zero_le _, Nat.zero_le _⟩ hl.1 rfl (Nat.le_of_ble_eq_true rfl) dX5_takeEvery_42 (fun H locs hP hD hS => ?_)
        have hP : va_P D vwCl [(a_this, .inr (5, [.ref a_bytes, .int v_length, .ref a_draft, .int w12, .int w13, .int w14, .int w15, .int w16, .int w17, .int v_signsTold, .int (1 : Int32)])), (a_bytes, .inl (cB, 160, .inl v_bytes)), (a_draft, .inr (0, [.int v_draft_field, .int v_draft_tick, .int w8, .int v_draft_signNumber, .int v_draft_rotorNumber, .ref a_draft_signs, .ref a_draft_rotors]))] H := hP
        have hD : va_D A [(a_this, .inr (5, [.ref a_bytes, .int v_length, .ref a_draft, .int w12, .int w13, .int w14, .int w15, .int w16, .int w17, .int v_signsTold, .int (1 : Int32)])), (a_bytes, .inl (cB, 160, .inl v_bytes)), (a_draft, .inr (0, [.int v_draft_field, .int v_draft_tick, .int w8, .int v_draft_signNumber, .int v_draft_rotorNumber, .ref a_draft_signs, .ref a_draft_rotors]))] := hD
        obtain ⟨h19, hF⟩ := fk hF
        have hF := Option.some.inj hF
        subst hF
        exact retZ C hr hlk (narZ h19) hP hD hS dX5_takeEvery_45
      · have hF := fp hF c10
        refine lv_iconst (v := 0) C.1 C.2.1 dX5_takeEvery_28 (by decide) ?_
        have hF := Option.some.inj hF
        subst hF
        exact retZ (v := 0) C hr hlk (by decide) hP hD hS dX5_takeEvery_29
    · have hF := fn hF c1
      refine lv_aload_n C.1 C.2.1 dX5_takeEvery_7 rfl (lv_at hl 0 rfl) ?_
      refine lv_iconst (v := 4) C.1 C.2.1 dX5_takeEvery_8 (by decide) ?_
      obtain ⟨⟨r20, w21, w22⟩, h23, hF⟩ := fb hF
      refine callVI C hK hA hP hD hS [0] (c_X5_refuse (a_this := a_this) (a_bytes := a_bytes) (a_draft := a_draft) (v_length := v_length) (v_fault := v_fault) (v_faultPlace := v_faultPlace) (v_token := v_token) (v_start := v_start) (v_next := v_next) (v_value := v_value) (v_signsTold := v_signsTold) (v_everyTold := v_everyTold) h23) cv_X5_refuse kw2_18 rfl (by decide) rfl rfl rfl ⟨Nat.le_of_ble_eq_true rfl, Nat.le_of_ble_eq_true rfl⟩ ⟨Nat.zero_le _, Nat.zero_le _⟩ hl.1 rfl (Nat.le_of_ble_eq_true rfl) dX5_takeEvery_9 (fun H locs hP hD hS => ?_)
      have hP : va_P D vwCl [(a_this, .inr (5, [.ref a_bytes, .int v_length, .ref a_draft, .int w21, .int w22, .int v_token, .int v_start, .int v_next, .int v_value, .int v_signsTold, .int v_everyTold])), (a_bytes, .inl (cB, 160, .inl v_bytes)), (a_draft, .inr (0, [.int v_draft_field, .int v_draft_tick, .int v_draft_pace, .int v_draft_signNumber, .int v_draft_rotorNumber, .ref a_draft_signs, .ref a_draft_rotors]))] H := hP
      have hD : va_D A [(a_this, .inr (5, [.ref a_bytes, .int v_length, .ref a_draft, .int w21, .int w22, .int v_token, .int v_start, .int v_next, .int v_value, .int v_signsTold, .int v_everyTold])), (a_bytes, .inl (cB, 160, .inl v_bytes)), (a_draft, .inr (0, [.int v_draft_field, .int v_draft_tick, .int v_draft_pace, .int v_draft_signNumber, .int v_draft_rotorNumber, .ref a_draft_signs, .ref a_draft_rotors]))] := hD
      obtain ⟨h24, hF⟩ := fk hF
      have hF := Option.some.inj hF
      subst hF
      exact retZ C hr hlk (narZ h24) hP hD hS dX5_takeEvery_12)
theorem c_X5_takeEvery {l : Launch} {D : va_G} {cI cB cZ cR cM cS : ClassId} {a_this : Nat} {a_bytes : Nat} {a_draft : Nat} {a_draft_signs : Nat} {a_draft_rotors : Nat} {v_length : Int32} {v_fault : Int32} {v_faultPlace : Int32} {v_token : Int32} {v_start : Int32} {v_next : Int32} {v_value : Int32} {v_signsTold : Int32} {v_everyTold : Int32} {v_bytes : Nat → Int32} {v_draft_field : Int32} {v_draft_tick : Int32} {v_draft_pace : Int32} {v_draft_signNumber : Int32} {v_draft_rotorNumber : Int32} {r_ : Int32} {v_fault' : Int32} {v_faultPlace' : Int32} {v_token' : Int32} {v_start' : Int32} {v_next' : Int32} {v_value' : Int32} {v_everyTold' : Int32} {v_draft_pace' : Int32} (hF : F_X5_takeEvery v_length v_fault v_faultPlace v_token v_start v_next v_value v_everyTold v_bytes v_draft_pace = some (r_, v_fault', v_faultPlace', v_token', v_start', v_next', v_value', v_everyTold', v_draft_pace')) : MI l yX5_takeEvery cX5_takeEvery 1 .boolean rm_X5_takeEvery D (TS cI cB cZ cR cM cS) [.ref a_this] [(a_this, .inr (5, [.ref a_bytes, .int v_length, .ref a_draft, .int v_fault, .int v_faultPlace, .int v_token, .int v_start, .int v_next, .int v_value, .int v_signsTold, .int v_everyTold])), (a_bytes, .inl (cB, 160, .inl v_bytes)), (a_draft, .inr (0, [.int v_draft_field, .int v_draft_tick, .int v_draft_pace, .int v_draft_signNumber, .int v_draft_rotorNumber, .ref a_draft_signs, .ref a_draft_rotors]))] [(a_this, .inr (5, [.ref a_bytes, .int v_length, .ref a_draft, .int v_fault', .int v_faultPlace', .int v_token', .int v_start', .int v_next', .int v_value', .int v_signsTold, .int v_everyTold'])), (a_bytes, .inl (cB, 160, .inl v_bytes)), (a_draft, .inr (0, [.int v_draft_field, .int v_draft_tick, .int v_draft_pace', .int v_draft_signNumber, .int v_draft_rotorNumber, .ref a_draft_signs, .ref a_draft_rotors]))] r_ :=
  c0_X5_takeEvery (res := (r_, v_fault', v_faultPlace', v_token', v_start', v_next', v_value', v_everyTold', v_draft_pace')) hF
def rm_X5_takeSigns : Room := { frames := 2, cells := 0, slots := 0, locals := 45 }
theorem cv_X5_takeSigns : CV yX5_takeSigns cX5_takeSigns 2 (some .boolean) rm_X5_takeSigns RX5 0 := ⟨kw2_113, kwp_11, kw1_2, kw2_114, by decide +kernel, rfl, rfl⟩
set_option maxHeartbeats 4000000 in
set_option maxRecDepth 100000 in
theorem b_X5_takeSigns_113 {l : Launch} {D : va_G} {cI cB cZ cR cM cS : ClassId} {a_this : Nat} {a_bytes : Nat} {a_draft : Nat} {a_draft_signs : Nat} {a_draft_rotors : Nat} {v_everyTold : Int32} {v_draft_field : Int32} {v_draft_tick : Int32} {v_draft_pace : Int32} {v_draft_rotorNumber : Int32} {p : Program} {e : Env} {s : State} {m : MethodId} {args : Array Value} {below : List Frame} {meth : Method} {c : Code} {A : Nat → Prop} {res : Int32 × Int32 × Int32 × Int32 × Int32 × Int32 × Int32 × Int32 × Int32 × (Nat → Int32)} (C : CX p m c cX5_takeSigns 2 s args RX5) (hr : meth.sig.returnType = (some .boolean)) (hlk : meth.locks = false) (hK : KK D (TS cI cB cZ cR cM cS) s) (hA : ∀ q, s.heap.size ≤ q → A q) : ∀ (v_length : Int32) (v_fault : Int32) (v_faultPlace : Int32) (v_token : Int32) (v_start : Int32) (v_next : Int32) (v_value : Int32) (v_signsTold : Int32) (v_bytes : Nat → Int32) (v_draft_signNumber : Int32) (v_draft_signs : Nat → Int32) (H : Heap) (locs : List Loc) (ls : Array Slot), F_X5_takeSigns_113 v_length v_fault v_faultPlace v_token v_start v_next v_value v_signsTold v_bytes v_draft_signNumber v_draft_signs = some res → va_P D vwCl [(a_this, .inr (5, [.ref a_bytes, .int v_length, .ref a_draft, .int v_fault, .int v_faultPlace, .int v_token, .int v_start, .int v_next, .int v_value, .int v_signsTold, .int v_everyTold])), (a_bytes, .inl (cB, 160, .inl v_bytes)), (a_draft, .inr (0, [.int v_draft_field, .int v_draft_tick, .int v_draft_pace, .int v_draft_signNumber, .int v_draft_rotorNumber, .ref a_draft_signs, .ref a_draft_rotors])), (a_draft_signs, .inl (cI, 16, .inl v_draft_signs))] H → va_D A [(a_this, .inr (5, [.ref a_bytes, .int v_length, .ref a_draft, .int v_fault, .int v_faultPlace, .int v_token, .int v_start, .int v_next, .int v_value, .int v_signsTold, .int v_everyTold])), (a_bytes, .inl (cB, 160, .inl v_bytes)), (a_draft, .inr (0, [.int v_draft_field, .int v_draft_tick, .int v_draft_pace, .int v_draft_signNumber, .int v_draft_rotorNumber, .ref a_draft_signs, .ref a_draft_rotors])), (a_draft_signs, .inl (cI, 16, .inl v_draft_signs))] → va_S A s.heap H locs → lv_has ls 2 [] → W p l e rm_X5_takeSigns s m args below meth c H locs 0 0 (MQ below (va_Qi (fun x (_ : Unit) => x = res.1) (BW D A [(a_this, .inr (5, [.ref a_bytes, .int v_length, .ref a_draft, .int res.2.1, .int res.2.2.1, .int res.2.2.2.1, .int res.2.2.2.2.1, .int res.2.2.2.2.2.1, .int res.2.2.2.2.2.2.1, .int res.2.2.2.2.2.2.2.1, .int v_everyTold])), (a_bytes, .inl (cB, 160, .inl v_bytes)), (a_draft, .inr (0, [.int v_draft_field, .int v_draft_tick, .int v_draft_pace, .int res.2.2.2.2.2.2.2.2.1, .int v_draft_rotorNumber, .ref a_draft_signs, .ref a_draft_rotors])), (a_draft_signs, .inl (cI, 16, .inl res.2.2.2.2.2.2.2.2.2))]) A) args s 0 0 A) (F0 m 113 ls []) := by
  intro v_length v_fault v_faultPlace v_token v_start v_next v_value v_signsTold v_bytes v_draft_signNumber v_draft_signs H locs ls hF  hP hD hS hl
  unfold F_X5_takeSigns_113 at hF
  refine lv_iconst (v := 1) C.1 C.2.1 dX5_takeSigns_113 (by decide) ?_
  refine lv_goto (tgt := 118) C.1 C.2.1 dX5_takeSigns_114 (by decide) ?_
  have hF := Option.some.inj hF
  subst hF
  exact retZ (v := 1) C hr hlk (by decide) hP hD hS dX5_takeSigns_118
set_option maxHeartbeats 4000000 in
set_option maxRecDepth 100000 in
theorem b_X5_takeSigns_107 {l : Launch} {D : va_G} {cI cB cZ cR cM cS : ClassId} {a_this : Nat} {a_bytes : Nat} {a_draft : Nat} {a_draft_signs : Nat} {a_draft_rotors : Nat} {v_everyTold : Int32} {v_draft_field : Int32} {v_draft_tick : Int32} {v_draft_pace : Int32} {v_draft_rotorNumber : Int32} {p : Program} {e : Env} {s : State} {m : MethodId} {args : Array Value} {below : List Frame} {meth : Method} {c : Code} {A : Nat → Prop} {res : Int32 × Int32 × Int32 × Int32 × Int32 × Int32 × Int32 × Int32 × Int32 × (Nat → Int32)} (C : CX p m c cX5_takeSigns 2 s args RX5) (hr : meth.sig.returnType = (some .boolean)) (hlk : meth.locks = false) (hK : KK D (TS cI cB cZ cR cM cS) s) (hA : ∀ q, s.heap.size ≤ q → A q) : ∀ (v_length : Int32) (v_fault : Int32) (v_faultPlace : Int32) (v_token : Int32) (v_start : Int32) (v_next : Int32) (v_value : Int32) (v_signsTold : Int32) (v_bytes : Nat → Int32) (v_draft_signNumber : Int32) (v_draft_signs : Nat → Int32) (s0 : Int32) (H : Heap) (locs : List Loc) (ls : Array Slot), F_X5_takeSigns_107 v_length v_fault v_faultPlace v_token v_start v_next v_value v_signsTold v_bytes v_draft_signNumber v_draft_signs s0 = some res → va_P D vwCl [(a_this, .inr (5, [.ref a_bytes, .int v_length, .ref a_draft, .int v_fault, .int v_faultPlace, .int v_token, .int v_start, .int v_next, .int v_value, .int v_signsTold, .int v_everyTold])), (a_bytes, .inl (cB, 160, .inl v_bytes)), (a_draft, .inr (0, [.int v_draft_field, .int v_draft_tick, .int v_draft_pace, .int v_draft_signNumber, .int v_draft_rotorNumber, .ref a_draft_signs, .ref a_draft_rotors])), (a_draft_signs, .inl (cI, 16, .inl v_draft_signs))] H → va_D A [(a_this, .inr (5, [.ref a_bytes, .int v_length, .ref a_draft, .int v_fault, .int v_faultPlace, .int v_token, .int v_start, .int v_next, .int v_value, .int v_signsTold, .int v_everyTold])), (a_bytes, .inl (cB, 160, .inl v_bytes)), (a_draft, .inr (0, [.int v_draft_field, .int v_draft_tick, .int v_draft_pace, .int v_draft_signNumber, .int v_draft_rotorNumber, .ref a_draft_signs, .ref a_draft_rotors])), (a_draft_signs, .inl (cI, 16, .inl v_draft_signs))] → va_S A s.heap H locs → lv_has ls 2 [] → W p l e rm_X5_takeSigns s m args below meth c H locs 0 0 (MQ below (va_Qi (fun x (_ : Unit) => x = res.1) (BW D A [(a_this, .inr (5, [.ref a_bytes, .int v_length, .ref a_draft, .int res.2.1, .int res.2.2.1, .int res.2.2.2.1, .int res.2.2.2.2.1, .int res.2.2.2.2.2.1, .int res.2.2.2.2.2.2.1, .int res.2.2.2.2.2.2.2.1, .int v_everyTold])), (a_bytes, .inl (cB, 160, .inl v_bytes)), (a_draft, .inr (0, [.int v_draft_field, .int v_draft_tick, .int v_draft_pace, .int res.2.2.2.2.2.2.2.2.1, .int v_draft_rotorNumber, .ref a_draft_signs, .ref a_draft_rotors])), (a_draft_signs, .inl (cI, 16, .inl res.2.2.2.2.2.2.2.2.2))]) A) args s 0 0 A) (F0 m 107 ls [.int s0, .ref a_this]) := by
  intro v_length v_fault v_faultPlace v_token v_start v_next v_value v_signsTold v_bytes v_draft_signNumber v_draft_signs s0 H locs ls hF  hP hD hS hl
  unfold F_X5_takeSigns_107 at hF
  obtain ⟨⟨r1, w2, w3⟩, h4, hF⟩ := fb hF
  refine callVI C hK hA hP hD hS [0] (c_X5_refuse (a_this := a_this) (a_bytes := a_bytes) (a_draft := a_draft) (v_length := v_length) (v_fault := v_fault) (v_faultPlace := v_faultPlace) (v_token := v_token) (v_start := v_start) (v_next := v_next) (v_value := v_value) (v_signsTold := v_signsTold) (v_everyTold := v_everyTold) h4) cv_X5_refuse kw2_18 rfl (by decide) rfl rfl rfl ⟨Nat.le_of_ble_eq_true rfl, Nat.le_of_ble_eq_true rfl⟩ ⟨Nat.zero_le _, Nat.zero_le _⟩ hl.1 rfl (Nat.le_of_ble_eq_true rfl) dX5_takeSigns_107 (fun H locs hP hD hS => ?_)
  have hP : va_P D vwCl [(a_this, .inr (5, [.ref a_bytes, .int v_length, .ref a_draft, .int w2, .int w3, .int v_token, .int v_start, .int v_next, .int v_value, .int v_signsTold, .int v_everyTold])), (a_bytes, .inl (cB, 160, .inl v_bytes)), (a_draft, .inr (0, [.int v_draft_field, .int v_draft_tick, .int v_draft_pace, .int v_draft_signNumber, .int v_draft_rotorNumber, .ref a_draft_signs, .ref a_draft_rotors])), (a_draft_signs, .inl (cI, 16, .inl v_draft_signs))] H := hP
  have hD : va_D A [(a_this, .inr (5, [.ref a_bytes, .int v_length, .ref a_draft, .int w2, .int w3, .int v_token, .int v_start, .int v_next, .int v_value, .int v_signsTold, .int v_everyTold])), (a_bytes, .inl (cB, 160, .inl v_bytes)), (a_draft, .inr (0, [.int v_draft_field, .int v_draft_tick, .int v_draft_pace, .int v_draft_signNumber, .int v_draft_rotorNumber, .ref a_draft_signs, .ref a_draft_rotors])), (a_draft_signs, .inl (cI, 16, .inl v_draft_signs))] := hD
  refine lv_if_eq (tgt := 117) C.1 C.2.1 dX5_takeSigns_110 (by decide) (fun c5 => ?_) (fun c5 => ?_)
  · have hF := fp hF c5
    refine lv_iconst (v := 0) C.1 C.2.1 dX5_takeSigns_117 (by decide) ?_
    have hF := Option.some.inj hF
    subst hF
    exact retZ (v := 0) C hr hlk (by decide) hP hD hS dX5_takeSigns_118
  · have hF := fn hF c5
    exact b_X5_takeSigns_113 C hr hlk hK hA v_length w2 w3 v_token v_start v_next v_value v_signsTold v_bytes v_draft_signNumber v_draft_signs _ _ _ hF hP hD hS (lv_sub hl [] rfl)
set_option maxHeartbeats 4000000 in
set_option maxRecDepth 100000 in
theorem b_X5_takeSigns_20 {l : Launch} {D : va_G} {cI cB cZ cR cM cS : ClassId} {a_this : Nat} {a_bytes : Nat} {a_draft : Nat} {a_draft_signs : Nat} {a_draft_rotors : Nat} {v_everyTold : Int32} {v_draft_field : Int32} {v_draft_tick : Int32} {v_draft_pace : Int32} {v_draft_rotorNumber : Int32} {p : Program} {e : Env} {s : State} {m : MethodId} {args : Array Value} {below : List Frame} {meth : Method} {c : Code} {A : Nat → Prop} {res : Int32 × Int32 × Int32 × Int32 × Int32 × Int32 × Int32 × Int32 × Int32 × (Nat → Int32)} (C : CX p m c cX5_takeSigns 2 s args RX5) (hr : meth.sig.returnType = (some .boolean)) (hlk : meth.locks = false) (hK : KK D (TS cI cB cZ cR cM cS) s) (hA : ∀ q, s.heap.size ≤ q → A q) : ∀ (fu : Nat) (v_length : Int32) (v_fault : Int32) (v_faultPlace : Int32) (v_token : Int32) (v_start : Int32) (v_next : Int32) (v_value : Int32) (v_signsTold : Int32) (v_bytes : Nat → Int32) (v_draft_signNumber : Int32) (v_draft_signs : Nat → Int32) (x1 : Int32) (H : Heap) (locs : List Loc) (ls : Array Slot), F_X5_takeSigns_20 fu v_length v_fault v_faultPlace v_token v_start v_next v_value v_signsTold v_bytes v_draft_signNumber v_draft_signs x1 = some res → va_P D vwCl [(a_this, .inr (5, [.ref a_bytes, .int v_length, .ref a_draft, .int v_fault, .int v_faultPlace, .int v_token, .int v_start, .int v_next, .int v_value, .int v_signsTold, .int v_everyTold])), (a_bytes, .inl (cB, 160, .inl v_bytes)), (a_draft, .inr (0, [.int v_draft_field, .int v_draft_tick, .int v_draft_pace, .int v_draft_signNumber, .int v_draft_rotorNumber, .ref a_draft_signs, .ref a_draft_rotors])), (a_draft_signs, .inl (cI, 16, .inl v_draft_signs))] H → va_D A [(a_this, .inr (5, [.ref a_bytes, .int v_length, .ref a_draft, .int v_fault, .int v_faultPlace, .int v_token, .int v_start, .int v_next, .int v_value, .int v_signsTold, .int v_everyTold])), (a_bytes, .inl (cB, 160, .inl v_bytes)), (a_draft, .inr (0, [.int v_draft_field, .int v_draft_tick, .int v_draft_pace, .int v_draft_signNumber, .int v_draft_rotorNumber, .ref a_draft_signs, .ref a_draft_rotors])), (a_draft_signs, .inl (cI, 16, .inl v_draft_signs))] → va_S A s.heap H locs → lv_has ls 2 [(0, .ref a_this), (1, .int x1)] → W p l e rm_X5_takeSigns s m args below meth c H locs 0 0 (MQ below (va_Qi (fun x (_ : Unit) => x = res.1) (BW D A [(a_this, .inr (5, [.ref a_bytes, .int v_length, .ref a_draft, .int res.2.1, .int res.2.2.1, .int res.2.2.2.1, .int res.2.2.2.2.1, .int res.2.2.2.2.2.1, .int res.2.2.2.2.2.2.1, .int res.2.2.2.2.2.2.2.1, .int v_everyTold])), (a_bytes, .inl (cB, 160, .inl v_bytes)), (a_draft, .inr (0, [.int v_draft_field, .int v_draft_tick, .int v_draft_pace, .int res.2.2.2.2.2.2.2.2.1, .int v_draft_rotorNumber, .ref a_draft_signs, .ref a_draft_rotors])), (a_draft_signs, .inl (cI, 16, .inl res.2.2.2.2.2.2.2.2.2))]) A) args s 0 0 A) (F0 m 20 ls []) := by
  intro fu
  induction fu with
  | zero => intro v_length v_fault v_faultPlace v_token v_start v_next v_value v_signsTold v_bytes v_draft_signNumber v_draft_signs x1 H locs ls hF; cases hF
  | succ fu ih =>
    intro v_length v_fault v_faultPlace v_token v_start v_next v_value v_signsTold v_bytes v_draft_signNumber v_draft_signs x1 H locs ls hF  hP hD hS hl
    unfold F_X5_takeSigns_20 at hF
    refine lv_iload_n C.1 C.2.1 dX5_takeSigns_20 rfl (lv_at hl 1 rfl) ?_
    refine lv_bipush (v := 16) C.1 C.2.1 dX5_takeSigns_21 (by decide) ?_
    refine lv_icmp_ge (tgt := 78) C.1 C.2.1 dX5_takeSigns_23 (by decide) (fun c1 => ?_) (fun c1 => ?_)
    · have hF := fp hF c1
      refine lv_aload_n C.1 C.2.1 dX5_takeSigns_78 rfl (lv_at hl 0 rfl) ?_
      obtain ⟨⟨r2, w3, w4, w5, w6, w7, w8⟩, h9, hF⟩ := fb hF
      refine callVI C hK hA hP hD hS [0, 1] (c_X5_readToken (a_this := a_this) (a_bytes := a_bytes) (a_draft := a_draft) (v_length := v_length) (v_fault := v_fault) (v_faultPlace := v_faultPlace) (v_token := v_token) (v_start := v_start) (v_next := v_next) (v_value := v_value) (v_signsTold := v_signsTold) (v_everyTold := v_everyTold) (v_bytes := v_bytes) h9) cv_X5_readToken kw2_6 rfl (by decide) rfl rfl rfl ⟨Nat.le_of_ble_eq_true rfl, Nat.le_of_ble_eq_true rfl⟩ ⟨Nat.zero_le _, Nat.zero_le _⟩ hl.1 rfl (Nat.le_of_ble_eq_true rfl) dX5_takeSigns_79 (fun H locs hP hD hS => ?_)
      have hP : va_P D vwCl [(a_this, .inr (5, [.ref a_bytes, .int v_length, .ref a_draft, .int w3, .int w4, .int w5, .int w6, .int w7, .int w8, .int v_signsTold, .int v_everyTold])), (a_bytes, .inl (cB, 160, .inl v_bytes)), (a_draft, .inr (0, [.int v_draft_field, .int v_draft_tick, .int v_draft_pace, .int v_draft_signNumber, .int v_draft_rotorNumber, .ref a_draft_signs, .ref a_draft_rotors])), (a_draft_signs, .inl (cI, 16, .inl v_draft_signs))] H := hP
      have hD : va_D A [(a_this, .inr (5, [.ref a_bytes, .int v_length, .ref a_draft, .int w3, .int w4, .int w5, .int w6, .int w7, .int w8, .int v_signsTold, .int v_everyTold])), (a_bytes, .inl (cB, 160, .inl v_bytes)), (a_draft, .inr (0, [.int v_draft_field, .int v_draft_tick, .int v_draft_pace, .int v_draft_signNumber, .int v_draft_rotorNumber, .ref a_draft_signs, .ref a_draft_rotors])), (a_draft_signs, .inl (cI, 16, .inl v_draft_signs))] := hD
      refine lv_if_eq (tgt := 117) C.1 C.2.1 dX5_takeSigns_82 (by decide) (fun c10 => ?_) (fun c10 => ?_)
      · have hF := fp hF c10
        refine lv_iconst (v := 0) C.1 C.2.1 dX5_takeSigns_117 (by decide) ?_
        have hF := Option.some.inj hF
        subst hF
        exact retZ (v := 0) C hr hlk (by decide) hP hD hS dX5_takeSigns_118
      · have hF := fn hF c10
        refine lv_aload_n C.1 C.2.1 dX5_takeSigns_85 rfl (lv_at hl 0 rfl) ?_
        refine gf_5_5_token C hK hP 0 rfl rfl dX5_takeSigns_86 ?_
        refine lv_iconst (v := 3) C.1 C.2.1 dX5_takeSigns_89 (by decide) ?_
        refine lv_icmp_eq (tgt := 113) C.1 C.2.1 dX5_takeSigns_90 (by decide) (fun c11 => ?_) (fun c11 => ?_)
        · have hF := fp hF c11
          exact b_X5_takeSigns_113 C hr hlk hK hA v_length w3 w4 w5 w6 w7 w8 v_signsTold v_bytes v_draft_signNumber v_draft_signs _ _ _ hF hP hD hS (lv_sub hl [] rfl)
        · have hF := fn hF c11
          refine lv_aload_n C.1 C.2.1 dX5_takeSigns_93 rfl (lv_at hl 0 rfl) ?_
          refine lv_aload_n C.1 C.2.1 dX5_takeSigns_94 rfl (lv_at hl 0 rfl) ?_
          refine gf_5_5_token C hK hP 0 rfl rfl dX5_takeSigns_95 ?_
          refine lv_iconst (v := 2) C.1 C.2.1 dX5_takeSigns_98 (by decide) ?_
          refine lv_icmp_ne (tgt := 106) C.1 C.2.1 dX5_takeSigns_99 (by decide) (fun c12 => ?_) (fun c12 => ?_)
          · have hF := fn hF c12
            refine lv_iconst (v := 2) C.1 C.2.1 dX5_takeSigns_106 (by decide) ?_
            exact b_X5_takeSigns_107 C hr hlk hK hA v_length w3 w4 w5 w6 w7 w8 v_signsTold v_bytes v_draft_signNumber v_draft_signs (2 : Int32) _ _ _ hF hP hD hS (lv_sub hl [] rfl)
          · have hF := fp hF c12
            refine lv_iconst (v := 5) C.1 C.2.1 dX5_takeSigns_102 (by decide) ?_
            refine lv_goto (tgt := 107) C.1 C.2.1 dX5_takeSigns_103 (by decide) ?_
            exact b_X5_takeSigns_107 C hr hlk hK hA v_length w3 w4 w5 w6 w7 w8 v_signsTold v_bytes v_draft_signNumber v_draft_signs (5 : Int32) _ _ _ hF hP hD hS (lv_sub hl [] rfl)
    · have hF := fn hF c1
      refine lv_aload_n C.1 C.2.1 dX5_takeSigns_26 rfl (lv_at hl 0 rfl) ?_
      obtain ⟨⟨r13, w14, w15, w16, w17, w18, w19⟩, h20, hF⟩ := fb hF
      refine callVI C hK hA hP hD hS [0, 1] (c_X5_readToken (a_this := a_this) (a_bytes := a_bytes) (a_draft := a_draft) (v_length := v_length) (v_fault := v_fault) (v_faultPlace := v_faultPlace) (v_token := v_token) (v_start := v_start) (v_next := v_next) (v_value := v_value) (v_signsTold := v_signsTold) (v_everyTold := v_everyTold) (v_bytes := v_bytes) h20) cv_X5_readToken kw2_6 rfl (by decide) rfl rfl rfl ⟨Nat.le_of_ble_eq_true rfl, Nat.le_of_ble_eq_true rfl⟩ ⟨Nat.zero_le _, Nat.zero_le _⟩ hl.1 rfl (Nat.le_of_ble_eq_true rfl) dX5_takeSigns_27 (fun H locs hP hD hS => ?_)
      have hP : va_P D vwCl [(a_this, .inr (5, [.ref a_bytes, .int v_length, .ref a_draft, .int w14, .int w15, .int w16, .int w17, .int w18, .int w19, .int v_signsTold, .int v_everyTold])), (a_bytes, .inl (cB, 160, .inl v_bytes)), (a_draft, .inr (0, [.int v_draft_field, .int v_draft_tick, .int v_draft_pace, .int v_draft_signNumber, .int v_draft_rotorNumber, .ref a_draft_signs, .ref a_draft_rotors])), (a_draft_signs, .inl (cI, 16, .inl v_draft_signs))] H := hP
      have hD : va_D A [(a_this, .inr (5, [.ref a_bytes, .int v_length, .ref a_draft, .int w14, .int w15, .int w16, .int w17, .int w18, .int w19, .int v_signsTold, .int v_everyTold])), (a_bytes, .inl (cB, 160, .inl v_bytes)), (a_draft, .inr (0, [.int v_draft_field, .int v_draft_tick, .int v_draft_pace, .int v_draft_signNumber, .int v_draft_rotorNumber, .ref a_draft_signs, .ref a_draft_rotors])), (a_draft_signs, .inl (cI, 16, .inl v_draft_signs))] := hD
      refine lv_if_ne (tgt := 35) C.1 C.2.1 dX5_takeSigns_30 (by decide) (fun c21 => ?_) (fun c21 => ?_)
      · have hF := fn hF c21
        refine lv_iload_n C.1 C.2.1 dX5_takeSigns_35 rfl (lv_at hl 1 rfl) ?_
        refine lv_if_le (tgt := 49) C.1 C.2.1 dX5_takeSigns_36 (by decide) (fun c22 => ?_) (fun c22 => ?_)
        · have hF := fp hF c22
          refine lv_aload_n C.1 C.2.1 dX5_takeSigns_49 rfl (lv_at hl 0 rfl) ?_
          refine lv_iconst (v := 0) C.1 C.2.1 dX5_takeSigns_50 (by decide) ?_
          refine lv_iconst (v := 3) C.1 C.2.1 dX5_takeSigns_51 (by decide) ?_
          obtain ⟨⟨r23, w24, w25⟩, h26, hF⟩ := fb hF
          refine callVI C hK hA hP hD hS [0] (c_X5_isNumber (a_this := a_this) (a_bytes := a_bytes) (a_draft := a_draft) (v_length := v_length) (v_fault := w14) (v_faultPlace := w15) (v_token := w16) (v_start := w17) (v_next := w18) (v_value := w19) (v_signsTold := v_signsTold) (v_everyTold := v_everyTold) h26) cv_X5_isNumber kw2_94 rfl (by decide) rfl rfl rfl ⟨Nat.le_of_ble_eq_true rfl, Nat.le_of_ble_eq_true rfl⟩ ⟨Nat.zero_le _, Nat.zero_le _⟩ hl.1 rfl (Nat.le_of_ble_eq_true rfl) dX5_takeSigns_52 (fun H locs hP hD hS => ?_)
          have hP : va_P D vwCl [(a_this, .inr (5, [.ref a_bytes, .int v_length, .ref a_draft, .int w24, .int w25, .int w16, .int w17, .int w18, .int w19, .int v_signsTold, .int v_everyTold])), (a_bytes, .inl (cB, 160, .inl v_bytes)), (a_draft, .inr (0, [.int v_draft_field, .int v_draft_tick, .int v_draft_pace, .int v_draft_signNumber, .int v_draft_rotorNumber, .ref a_draft_signs, .ref a_draft_rotors])), (a_draft_signs, .inl (cI, 16, .inl v_draft_signs))] H := hP
          have hD : va_D A [(a_this, .inr (5, [.ref a_bytes, .int v_length, .ref a_draft, .int w24, .int w25, .int w16, .int w17, .int w18, .int w19, .int v_signsTold, .int v_everyTold])), (a_bytes, .inl (cB, 160, .inl v_bytes)), (a_draft, .inr (0, [.int v_draft_field, .int v_draft_tick, .int v_draft_pace, .int v_draft_signNumber, .int v_draft_rotorNumber, .ref a_draft_signs, .ref a_draft_rotors])), (a_draft_signs, .inl (cI, 16, .inl v_draft_signs))] := hD
          refine lv_if_ne (tgt := 60) C.1 C.2.1 dX5_takeSigns_55 (by decide) (fun c27 => ?_) (fun c27 => ?_)
          · have hF := fn hF c27
            refine lv_aload_n C.1 C.2.1 dX5_takeSigns_60 rfl (lv_at hl 0 rfl) ?_
            refine gf_5_5_draft C hK hP 0 rfl rfl dX5_takeSigns_61 ?_
            refine lv_aload_n C.1 C.2.1 dX5_takeSigns_64 rfl (lv_at hl 0 rfl) ?_
            refine gf_5_5_value C hK hP 0 rfl rfl dX5_takeSigns_65 ?_
            obtain ⟨⟨r28, w29, w30⟩, h31, hF⟩ := fb hF
            refine callVI C hK hA hP hD hS [2, 3] (c_X0_addSign (a_this := a_draft) (a_signs := a_draft_signs) (a_rotors := a_draft_rotors) (v_field := v_draft_field) (v_tick := v_draft_tick) (v_pace := v_draft_pace) (v_signNumber := v_draft_signNumber) (v_rotorNumber := v_draft_rotorNumber) (v_signs := v_draft_signs) h31) cv_X0_addSign kw2_115 rfl (by decide) rfl rfl rfl ⟨Nat.le_of_ble_eq_true rfl, Nat.le_of_ble_eq_true rfl⟩ ⟨Nat.zero_le _, Nat.zero_le _⟩ hl.1 rfl (Nat.le_of_ble_eq_true rfl) dX5_takeSigns_68 (fun H locs hP hD hS => ?_)
            have hP : va_P D vwCl [(a_this, .inr (5, [.ref a_bytes, .int v_length, .ref a_draft, .int w24, .int w25, .int w16, .int w17, .int w18, .int w19, .int v_signsTold, .int v_everyTold])), (a_bytes, .inl (cB, 160, .inl v_bytes)), (a_draft, .inr (0, [.int v_draft_field, .int v_draft_tick, .int v_draft_pace, .int w29, .int v_draft_rotorNumber, .ref a_draft_signs, .ref a_draft_rotors])), (a_draft_signs, .inl (cI, 16, .inl w30))] H := hP
            have hD : va_D A [(a_this, .inr (5, [.ref a_bytes, .int v_length, .ref a_draft, .int w24, .int w25, .int w16, .int w17, .int w18, .int w19, .int v_signsTold, .int v_everyTold])), (a_bytes, .inl (cB, 160, .inl v_bytes)), (a_draft, .inr (0, [.int v_draft_field, .int v_draft_tick, .int v_draft_pace, .int w29, .int v_draft_rotorNumber, .ref a_draft_signs, .ref a_draft_rotors])), (a_draft_signs, .inl (cI, 16, .inl w30))] := hD
            refine lv_pop C.1 C.2.1 dX5_takeSigns_71 rfl ?_
            refine lv_iinc (v := x1 + 1) (lv' := [(1, .int (x1 + 1)), (0, .ref a_this)]) C.1 C.2.1 dX5_takeSigns_72 hl (k := 1) rfl rfl (by decide) rfl (fun ls hl => ?_)
            refine lv_goto (tgt := 20) C.1 C.2.1 dX5_takeSigns_75 (by decide) ?_
            exact ih v_length w24 w25 w16 w17 w18 w19 v_signsTold v_bytes w29 w30 (x1 + 1) _ _ _ hF hP hD hS (lv_sub hl [1, 0] rfl)
          · have hF := fp hF c27
            refine lv_iconst (v := 0) C.1 C.2.1 dX5_takeSigns_58 (by decide) ?_
            have hF := Option.some.inj hF
            subst hF
            exact retZ (v := 0) C hr hlk (by decide) hP hD hS dX5_takeSigns_59
        · have hF := fn hF c22
          refine lv_aload_n C.1 C.2.1 dX5_takeSigns_39 rfl (lv_at hl 0 rfl) ?_
          refine gf_5_5_token C hK hP 0 rfl rfl dX5_takeSigns_40 ?_
          refine lv_iconst (v := 3) C.1 C.2.1 dX5_takeSigns_43 (by decide) ?_
          refine lv_icmp_ne (tgt := 49) C.1 C.2.1 dX5_takeSigns_44 (by decide) (fun c32 => ?_) (fun c32 => ?_)
          · have hF := fn hF c32
            refine lv_aload_n C.1 C.2.1 dX5_takeSigns_49 rfl (lv_at hl 0 rfl) ?_
            refine lv_iconst (v := 0) C.1 C.2.1 dX5_takeSigns_50 (by decide) ?_
            refine lv_iconst (v := 3) C.1 C.2.1 dX5_takeSigns_51 (by decide) ?_
            obtain ⟨⟨r33, w34, w35⟩, h36, hF⟩ := fb hF
            refine callVI C hK hA hP hD hS [0] (c_X5_isNumber (a_this := a_this) (a_bytes := a_bytes) (a_draft := a_draft) (v_length := v_length) (v_fault := w14) (v_faultPlace := w15) (v_token := w16) (v_start := w17) (v_next := w18) (v_value := w19) (v_signsTold := v_signsTold) (v_everyTold := v_everyTold) h36) cv_X5_isNumber kw2_94 rfl (by decide) rfl rfl rfl ⟨Nat.le_of_ble_eq_true rfl, Nat.le_of_ble_eq_true rfl⟩ ⟨Nat.zero_le _, Nat.zero_le _⟩ hl.1 rfl (Nat.le_of_ble_eq_true rfl) dX5_takeSigns_52 (fun H locs hP hD hS => ?_)
            have hP : va_P D vwCl [(a_this, .inr (5, [.ref a_bytes, .int v_length, .ref a_draft, .int w34, .int w35, .int w16, .int w17, .int w18, .int w19, .int v_signsTold, .int v_everyTold])), (a_bytes, .inl (cB, 160, .inl v_bytes)), (a_draft, .inr (0, [.int v_draft_field, .int v_draft_tick, .int v_draft_pace, .int v_draft_signNumber, .int v_draft_rotorNumber, .ref a_draft_signs, .ref a_draft_rotors])), (a_draft_signs, .inl (cI, 16, .inl v_draft_signs))] H := hP
            have hD : va_D A [(a_this, .inr (5, [.ref a_bytes, .int v_length, .ref a_draft, .int w34, .int w35, .int w16, .int w17, .int w18, .int w19, .int v_signsTold, .int v_everyTold])), (a_bytes, .inl (cB, 160, .inl v_bytes)), (a_draft, .inr (0, [.int v_draft_field, .int v_draft_tick, .int v_draft_pace, .int v_draft_signNumber, .int v_draft_rotorNumber, .ref a_draft_signs, .ref a_draft_rotors])), (a_draft_signs, .inl (cI, 16, .inl v_draft_signs))] := hD
            refine lv_if_ne (tgt := 60) C.1 C.2.1 dX5_takeSigns_55 (by decide) (fun c37 => ?_) (fun c37 => ?_)
            · have hF := fn hF c37
              refine lv_aload_n C.1 C.2.1 dX5_takeSigns_60 rfl (lv_at hl 0 rfl) ?_
              refine gf_5_5_draft C hK hP 0 rfl rfl dX5_takeSigns_61 ?_
              refine lv_aload_n C.1 C.2.1 dX5_takeSigns_64 rfl (lv_at hl 0 rfl) ?_
              refine gf_5_5_value C hK hP 0 rfl rfl dX5_takeSigns_65 ?_
              obtain ⟨⟨r38, w39, w40⟩, h41, hF⟩ := fb hF
              refine callVI C hK hA hP hD hS [2, 3] (c_X0_addSign (a_this := a_draft) (a_signs := a_draft_signs) (a_rotors := a_draft_rotors) (v_field := v_draft_field) (v_tick := v_draft_tick) (v_pace := v_draft_pace) (v_signNumber := v_draft_signNumber) (v_rotorNumber := v_draft_rotorNumber) (v_signs := v_draft_signs) h41) cv_X0_addSign kw2_115 rfl (by decide) rfl rfl rfl ⟨Nat.le_of_ble_eq_true rfl, Nat.le_of_ble_eq_true rfl⟩ ⟨Nat.zero_le _, Nat.zero_le _⟩ hl.1 rfl (Nat.le_of_ble_eq_true rfl) dX5_takeSigns_68 (fun H locs hP hD hS => ?_)
              have hP : va_P D vwCl [(a_this, .inr (5, [.ref a_bytes, .int v_length, .ref a_draft, .int w34, .int w35, .int w16, .int w17, .int w18, .int w19, .int v_signsTold, .int v_everyTold])), (a_bytes, .inl (cB, 160, .inl v_bytes)), (a_draft, .inr (0, [.int v_draft_field, .int v_draft_tick, .int v_draft_pace, .int w39, .int v_draft_rotorNumber, .ref a_draft_signs, .ref a_draft_rotors])), (a_draft_signs, .inl (cI, 16, .inl w40))] H := hP
              have hD : va_D A [(a_this, .inr (5, [.ref a_bytes, .int v_length, .ref a_draft, .int w34, .int w35, .int w16, .int w17, .int w18, .int w19, .int v_signsTold, .int v_everyTold])), (a_bytes, .inl (cB, 160, .inl v_bytes)), (a_draft, .inr (0, [.int v_draft_field, .int v_draft_tick, .int v_draft_pace, .int w39, .int v_draft_rotorNumber, .ref a_draft_signs, .ref a_draft_rotors])), (a_draft_signs, .inl (cI, 16, .inl w40))] := hD
              refine lv_pop C.1 C.2.1 dX5_takeSigns_71 rfl ?_
              refine lv_iinc (v := x1 + 1) (lv' := [(1, .int (x1 + 1)), (0, .ref a_this)]) C.1 C.2.1 dX5_takeSigns_72 hl (k := 1) rfl rfl (by decide) rfl (fun ls hl => ?_)
              refine lv_goto (tgt := 20) C.1 C.2.1 dX5_takeSigns_75 (by decide) ?_
              exact ih v_length w34 w35 w16 w17 w18 w19 v_signsTold v_bytes w39 w40 (x1 + 1) _ _ _ hF hP hD hS (lv_sub hl [1, 0] rfl)
            · have hF := fp hF c37
              refine lv_iconst (v := 0) C.1 C.2.1 dX5_takeSigns_58 (by decide) ?_
              have hF := Option.some.inj hF
              subst hF
              exact retZ (v := 0) C hr hlk (by decide) hP hD hS dX5_takeSigns_59
          · have hF := fp hF c32
            refine lv_iconst (v := 1) C.1 C.2.1 dX5_takeSigns_47 (by decide) ?_
            have hF := Option.some.inj hF
            subst hF
            exact retZ (v := 1) C hr hlk (by decide) hP hD hS dX5_takeSigns_48
      · have hF := fp hF c21
        refine lv_iconst (v := 0) C.1 C.2.1 dX5_takeSigns_33 (by decide) ?_
        have hF := Option.some.inj hF
        subst hF
        exact retZ (v := 0) C hr hlk (by decide) hP hD hS dX5_takeSigns_34
set_option maxHeartbeats 4000000 in
set_option maxRecDepth 100000 in
theorem c0_X5_takeSigns {l : Launch} {D : va_G} {cI cB cZ cR cM cS : ClassId} {a_this : Nat} {a_bytes : Nat} {a_draft : Nat} {a_draft_signs : Nat} {a_draft_rotors : Nat} {v_length : Int32} {v_fault : Int32} {v_faultPlace : Int32} {v_token : Int32} {v_start : Int32} {v_next : Int32} {v_value : Int32} {v_signsTold : Int32} {v_everyTold : Int32} {v_bytes : Nat → Int32} {v_draft_field : Int32} {v_draft_tick : Int32} {v_draft_pace : Int32} {v_draft_signNumber : Int32} {v_draft_rotorNumber : Int32} {v_draft_signs : Nat → Int32} {res : Int32 × Int32 × Int32 × Int32 × Int32 × Int32 × Int32 × Int32 × Int32 × (Nat → Int32)} (hF : F_X5_takeSigns v_length v_fault v_faultPlace v_token v_start v_next v_value v_signsTold v_bytes v_draft_signNumber v_draft_signs = some res) : MI l yX5_takeSigns cX5_takeSigns 2 .boolean rm_X5_takeSigns D (TS cI cB cZ cR cM cS) [.ref a_this] [(a_this, .inr (5, [.ref a_bytes, .int v_length, .ref a_draft, .int v_fault, .int v_faultPlace, .int v_token, .int v_start, .int v_next, .int v_value, .int v_signsTold, .int v_everyTold])), (a_bytes, .inl (cB, 160, .inl v_bytes)), (a_draft, .inr (0, [.int v_draft_field, .int v_draft_tick, .int v_draft_pace, .int v_draft_signNumber, .int v_draft_rotorNumber, .ref a_draft_signs, .ref a_draft_rotors])), (a_draft_signs, .inl (cI, 16, .inl v_draft_signs))] [(a_this, .inr (5, [.ref a_bytes, .int v_length, .ref a_draft, .int res.2.1, .int res.2.2.1, .int res.2.2.2.1, .int res.2.2.2.2.1, .int res.2.2.2.2.2.1, .int res.2.2.2.2.2.2.1, .int res.2.2.2.2.2.2.2.1, .int v_everyTold])), (a_bytes, .inl (cB, 160, .inl v_bytes)), (a_draft, .inr (0, [.int v_draft_field, .int v_draft_tick, .int v_draft_pace, .int res.2.2.2.2.2.2.2.2.1, .int v_draft_rotorNumber, .ref a_draft_signs, .ref a_draft_rotors])), (a_draft_signs, .inl (cI, 16, .inl res.2.2.2.2.2.2.2.2.2))] res.1 :=
  MI_of (by decide) (Nat.le_of_ble_eq_true rfl) (fun p e s m args below meth c A ls C hr hlk hK hA hP hD hS hl => by
    have C : CX p m c cX5_takeSigns 2 s args RX5 := C
    have hl : lv_has ls 2 [(0, .ref a_this)] := hl
    unfold F_X5_takeSigns at hF
    refine lv_aload_n C.1 C.2.1 dX5_takeSigns_0 rfl (lv_at hl 0 rfl) ?_
    refine gf_5_5_signsTold C hK hP 0 rfl rfl dX5_takeSigns_1 ?_
    refine lv_if_eq (tgt := 13) C.1 C.2.1 dX5_takeSigns_4 (by decide) (fun c1 => ?_) (fun c1 => ?_)
    · have hF := fp hF c1
      refine lv_aload_n C.1 C.2.1 dX5_takeSigns_13 rfl (lv_at hl 0 rfl) ?_
      refine lv_iconst (v := 1) C.1 C.2.1 dX5_takeSigns_14 (by decide) ?_
      refine pf_5_5_signsTold C hK hP hD hS 0 rfl rfl (by decide) dX5_takeSigns_15 (fun H locs hP hD hS => ?_)
      have hP : va_P D vwCl [(a_this, .inr (5, [.ref a_bytes, .int v_length, .ref a_draft, .int v_fault, .int v_faultPlace, .int v_token, .int v_start, .int v_next, .int v_value, .int (1 : Int32), .int v_everyTold])), (a_bytes, .inl (cB, 160, .inl v_bytes)), (a_draft, .inr (0, [.int v_draft_field, .int v_draft_tick, .int v_draft_pace, .int v_draft_signNumber, .int v_draft_rotorNumber, .ref a_draft_signs, .ref a_draft_rotors])), (a_draft_signs, .inl (cI, 16, .inl v_draft_signs))] H := hP
      have hD : va_D A [(a_this, .inr (5, [.ref a_bytes, .int v_length, .ref a_draft, .int v_fault, .int v_faultPlace, .int v_token, .int v_start, .int v_next, .int v_value, .int (1 : Int32), .int v_everyTold])), (a_bytes, .inl (cB, 160, .inl v_bytes)), (a_draft, .inr (0, [.int v_draft_field, .int v_draft_tick, .int v_draft_pace, .int v_draft_signNumber, .int v_draft_rotorNumber, .ref a_draft_signs, .ref a_draft_rotors])), (a_draft_signs, .inl (cI, 16, .inl v_draft_signs))] := hD
      refine lv_iconst (v := 0) C.1 C.2.1 dX5_takeSigns_18 (by decide) ?_
      refine lv_istore_n (lv' := [(1, .int (0 : Int32)), (0, .ref a_this)]) C.1 C.2.1 dX5_takeSigns_19 rfl hl (by decide) rfl (fun ls hl => ?_)
      exact b_X5_takeSigns_20 C hr hlk hK hA FU v_length v_fault v_faultPlace v_token v_start v_next v_value (1 : Int32) v_bytes v_draft_signNumber v_draft_signs (0 : Int32) _ _ _ hF hP hD hS (lv_sub hl [1, 0] rfl)
    · have hF := fn hF c1
      refine lv_aload_n C.1 C.2.1 dX5_takeSigns_7 rfl (lv_at hl 0 rfl) ?_
      refine lv_iconst (v := 4) C.1 C.2.1 dX5_takeSigns_8 (by decide) ?_
      obtain ⟨⟨r2, w3, w4⟩, h5, hF⟩ := fb hF
      refine callVI C hK hA hP hD hS [0] (c_X5_refuse (a_this := a_this) (a_bytes := a_bytes) (a_draft := a_draft) (v_length := v_length) (v_fault := v_fault) (v_faultPlace := v_faultPlace) (v_token := v_token) (v_start := v_start) (v_next := v_next) (v_value := v_value) (v_signsTold := v_signsTold) (v_everyTold := v_everyTold) h5) cv_X5_refuse kw2_18 rfl (by decide) rfl rfl rfl ⟨Nat.le_of_ble_eq_true rfl, Nat.le_of_ble_eq_true rfl⟩ ⟨Nat.zero_le _, Nat.zero_le _⟩ hl.1 rfl (Nat.le_of_ble_eq_true rfl) dX5_takeSigns_9 (fun H locs hP hD hS => ?_)
      have hP : va_P D vwCl [(a_this, .inr (5, [.ref a_bytes, .int v_length, .ref a_draft, .int w3, .int w4, .int v_token, .int v_start, .int v_next, .int v_value, .int v_signsTold, .int v_everyTold])), (a_bytes, .inl (cB, 160, .inl v_bytes)), (a_draft, .inr (0, [.int v_draft_field, .int v_draft_tick, .int v_draft_pace, .int v_draft_signNumber, .int v_draft_rotorNumber, .ref a_draft_signs, .ref a_draft_rotors])), (a_draft_signs, .inl (cI, 16, .inl v_draft_signs))] H := hP
      have hD : va_D A [(a_this, .inr (5, [.ref a_bytes, .int v_length, .ref a_draft, .int w3, .int w4, .int v_token, .int v_start, .int v_next, .int v_value, .int v_signsTold, .int v_everyTold])), (a_bytes, .inl (cB, 160, .inl v_bytes)), (a_draft, .inr (0, [.int v_draft_field, .int v_draft_tick, .int v_draft_pace, .int v_draft_signNumber, .int v_draft_rotorNumber, .ref a_draft_signs, .ref a_draft_rotors])), (a_draft_signs, .inl (cI, 16, .inl v_draft_signs))] := hD
      obtain ⟨h6, hF⟩ := fk hF
      have hF := Option.some.inj hF
      subst hF
      exact retZ C hr hlk (narZ h6) hP hD hS dX5_takeSigns_12)
theorem c_X5_takeSigns {l : Launch} {D : va_G} {cI cB cZ cR cM cS : ClassId} {a_this : Nat} {a_bytes : Nat} {a_draft : Nat} {a_draft_signs : Nat} {a_draft_rotors : Nat} {v_length : Int32} {v_fault : Int32} {v_faultPlace : Int32} {v_token : Int32} {v_start : Int32} {v_next : Int32} {v_value : Int32} {v_signsTold : Int32} {v_everyTold : Int32} {v_bytes : Nat → Int32} {v_draft_field : Int32} {v_draft_tick : Int32} {v_draft_pace : Int32} {v_draft_signNumber : Int32} {v_draft_rotorNumber : Int32} {v_draft_signs : Nat → Int32} {r_ : Int32} {v_fault' : Int32} {v_faultPlace' : Int32} {v_token' : Int32} {v_start' : Int32} {v_next' : Int32} {v_value' : Int32} {v_signsTold' : Int32} {v_draft_signNumber' : Int32} {v_draft_signs' : Nat → Int32} (hF : F_X5_takeSigns v_length v_fault v_faultPlace v_token v_start v_next v_value v_signsTold v_bytes v_draft_signNumber v_draft_signs = some (r_, v_fault', v_faultPlace', v_token', v_start', v_next', v_value', v_signsTold', v_draft_signNumber', v_draft_signs')) : MI l yX5_takeSigns cX5_takeSigns 2 .boolean rm_X5_takeSigns D (TS cI cB cZ cR cM cS) [.ref a_this] [(a_this, .inr (5, [.ref a_bytes, .int v_length, .ref a_draft, .int v_fault, .int v_faultPlace, .int v_token, .int v_start, .int v_next, .int v_value, .int v_signsTold, .int v_everyTold])), (a_bytes, .inl (cB, 160, .inl v_bytes)), (a_draft, .inr (0, [.int v_draft_field, .int v_draft_tick, .int v_draft_pace, .int v_draft_signNumber, .int v_draft_rotorNumber, .ref a_draft_signs, .ref a_draft_rotors])), (a_draft_signs, .inl (cI, 16, .inl v_draft_signs))] [(a_this, .inr (5, [.ref a_bytes, .int v_length, .ref a_draft, .int v_fault', .int v_faultPlace', .int v_token', .int v_start', .int v_next', .int v_value', .int v_signsTold', .int v_everyTold])), (a_bytes, .inl (cB, 160, .inl v_bytes)), (a_draft, .inr (0, [.int v_draft_field, .int v_draft_tick, .int v_draft_pace, .int v_draft_signNumber', .int v_draft_rotorNumber, .ref a_draft_signs, .ref a_draft_rotors])), (a_draft_signs, .inl (cI, 16, .inl v_draft_signs'))] r_ :=
  c0_X5_takeSigns (res := (r_, v_fault', v_faultPlace', v_token', v_start', v_next', v_value', v_signsTold', v_draft_signNumber', v_draft_signs')) hF
def rm_X5_takeRotor : Room := { frames := 3, cells := 0, slots := 0, locals := 67 }
theorem cv_X5_takeRotor : CV yX5_takeRotor cX5_takeRotor 3 (some .boolean) rm_X5_takeRotor RX5 1 := ⟨kw2_88, kwp_7, kw1_2, kw2_89, by decide +kernel, rfl, rfl⟩
set_option maxHeartbeats 4000000 in
set_option maxRecDepth 100000 in
theorem c0_X5_takeRotor {l : Launch} {D : va_G} {cI cB cZ cR cM cS : ClassId} {a_this : Nat} {a_bytes : Nat} {a_draft : Nat} {a_draft_signs : Nat} {a_draft_rotors : Nat} {a_draft_rotors_e : Nat → Nat} {v_length : Int32} {v_fault : Int32} {v_faultPlace : Int32} {v_token : Int32} {v_start : Int32} {v_next : Int32} {v_value : Int32} {v_signsTold : Int32} {v_everyTold : Int32} {v_bytes : Nat → Int32} {v_draft_field : Int32} {v_draft_tick : Int32} {v_draft_pace : Int32} {v_draft_signNumber : Int32} {v_draft_rotorNumber : Int32} {v_draft_rotorsF : Nat → Rot} {x1 : Int32} {res : Int32 × Int32 × Int32 × Int32 × Int32 × Int32 × Int32 × Int32 × (Nat → Rot)} (hF : F_X5_takeRotor v_length v_fault v_faultPlace v_token v_start v_next v_value v_bytes v_draft_rotorNumber v_draft_rotorsF x1 = some res) : MI l yX5_takeRotor cX5_takeRotor 3 .boolean rm_X5_takeRotor D (TS cI cB cZ cR cM cS) [.ref a_this, .int x1] [(a_this, .inr (5, [.ref a_bytes, .int v_length, .ref a_draft, .int v_fault, .int v_faultPlace, .int v_token, .int v_start, .int v_next, .int v_value, .int v_signsTold, .int v_everyTold])), (a_bytes, .inl (cB, 160, .inl v_bytes)), (a_draft, .inr (0, [.int v_draft_field, .int v_draft_tick, .int v_draft_pace, .int v_draft_signNumber, .int v_draft_rotorNumber, .ref a_draft_signs, .ref a_draft_rotors])), (a_draft_rotors, rfn cR 4 a_draft_rotors_e), rcell a_draft_rotors_e v_draft_rotorsF 0, rcell a_draft_rotors_e v_draft_rotorsF 1, rcell a_draft_rotors_e v_draft_rotorsF 2, rcell a_draft_rotors_e v_draft_rotorsF 3] [(a_this, .inr (5, [.ref a_bytes, .int v_length, .ref a_draft, .int res.2.1, .int res.2.2.1, .int res.2.2.2.1, .int res.2.2.2.2.1, .int res.2.2.2.2.2.1, .int res.2.2.2.2.2.2.1, .int v_signsTold, .int v_everyTold])), (a_bytes, .inl (cB, 160, .inl v_bytes)), (a_draft, .inr (0, [.int v_draft_field, .int v_draft_tick, .int v_draft_pace, .int v_draft_signNumber, .int res.2.2.2.2.2.2.2.1, .ref a_draft_signs, .ref a_draft_rotors])), (a_draft_rotors, rfn cR 4 a_draft_rotors_e), rcell a_draft_rotors_e res.2.2.2.2.2.2.2.2 0, rcell a_draft_rotors_e res.2.2.2.2.2.2.2.2 1, rcell a_draft_rotors_e res.2.2.2.2.2.2.2.2 2, rcell a_draft_rotors_e res.2.2.2.2.2.2.2.2 3] res.1 :=
  MI_of (by decide) (Nat.le_of_ble_eq_true rfl) (fun p e s m args below meth c A ls C hr hlk hK hA hP hD hS hl => by
    have C : CX p m c cX5_takeRotor 3 s args RX5 := C
    have hl : lv_has ls 3 [(0, .ref a_this), (1, .int x1)] := hl
    unfold F_X5_takeRotor at hF
    refine lv_aload_n C.1 C.2.1 dX5_takeRotor_0 rfl (lv_at hl 0 rfl) ?_
    refine gf_5_5_draft C hK hP 0 rfl rfl dX5_takeRotor_1 ?_
    refine gf_5_0_rotorNumber C hK hP 2 rfl rfl dX5_takeRotor_4 ?_
    refine lv_iconst (v := 4) C.1 C.2.1 dX5_takeRotor_7 (by decide) ?_
    refine lv_icmp_lt (tgt := 17) C.1 C.2.1 dX5_takeRotor_8 (by decide) (fun c1 => ?_) (fun c1 => ?_)
    · have hF := fp hF c1
      refine lv_aload_n C.1 C.2.1 dX5_takeRotor_17 rfl (lv_at hl 0 rfl) ?_
      refine lv_iconst (v := 0) C.1 C.2.1 dX5_takeRotor_18 (by decide) ?_
      refine lv_iconst (v := 3) C.1 C.2.1 dX5_takeRotor_19 (by decide) ?_
      obtain ⟨⟨r2, w3, w4, w5, w6, w7, w8⟩, h9, hF⟩ := fb hF
      refine callVI C hK hA hP hD hS [0, 1] (c_X5_takeNumber (a_this := a_this) (a_bytes := a_bytes) (a_draft := a_draft) (v_length := v_length) (v_fault := v_fault) (v_faultPlace := v_faultPlace) (v_token := v_token) (v_start := v_start) (v_next := v_next) (v_value := v_value) (v_signsTold := v_signsTold) (v_everyTold := v_everyTold) (v_bytes := v_bytes) h9) cv_X5_takeNumber kw2_90 rfl (by decide) rfl rfl rfl ⟨Nat.le_of_ble_eq_true rfl, Nat.le_of_ble_eq_true rfl⟩ ⟨Nat.zero_le _, Nat.zero_le _⟩ hl.1 rfl (Nat.le_of_ble_eq_true rfl) dX5_takeRotor_20 (fun H locs hP hD hS => ?_)
      have hP : va_P D vwCl [(a_this, .inr (5, [.ref a_bytes, .int v_length, .ref a_draft, .int w3, .int w4, .int w5, .int w6, .int w7, .int w8, .int v_signsTold, .int v_everyTold])), (a_bytes, .inl (cB, 160, .inl v_bytes)), (a_draft, .inr (0, [.int v_draft_field, .int v_draft_tick, .int v_draft_pace, .int v_draft_signNumber, .int v_draft_rotorNumber, .ref a_draft_signs, .ref a_draft_rotors])), (a_draft_rotors, rfn cR 4 a_draft_rotors_e), rcell a_draft_rotors_e v_draft_rotorsF 0, rcell a_draft_rotors_e v_draft_rotorsF 1, rcell a_draft_rotors_e v_draft_rotorsF 2, rcell a_draft_rotors_e v_draft_rotorsF 3] H := hP
      have hD : va_D A [(a_this, .inr (5, [.ref a_bytes, .int v_length, .ref a_draft, .int w3, .int w4, .int w5, .int w6, .int w7, .int w8, .int v_signsTold, .int v_everyTold])), (a_bytes, .inl (cB, 160, .inl v_bytes)), (a_draft, .inr (0, [.int v_draft_field, .int v_draft_tick, .int v_draft_pace, .int v_draft_signNumber, .int v_draft_rotorNumber, .ref a_draft_signs, .ref a_draft_rotors])), (a_draft_rotors, rfn cR 4 a_draft_rotors_e), rcell a_draft_rotors_e v_draft_rotorsF 0, rcell a_draft_rotors_e v_draft_rotorsF 1, rcell a_draft_rotors_e v_draft_rotorsF 2, rcell a_draft_rotors_e v_draft_rotorsF 3] := hD
      refine lv_if_ne (tgt := 28) C.1 C.2.1 dX5_takeRotor_23 (by decide) (fun c10 => ?_) (fun c10 => ?_)
      · have hF := fn hF c10
        refine lv_aload_n C.1 C.2.1 dX5_takeRotor_28 rfl (lv_at hl 0 rfl) ?_
        refine gf_5_5_value C hK hP 0 rfl rfl dX5_takeRotor_29 ?_
        refine lv_istore_n (lv' := [(2, .int w8), (0, .ref a_this), (1, .int x1)]) C.1 C.2.1 dX5_takeRotor_32 rfl hl (by decide) rfl (fun ls hl => ?_)
        refine lv_aload_n C.1 C.2.1 dX5_takeRotor_33 rfl (lv_at hl 1 rfl) ?_
        refine lv_iconst (v := 0) C.1 C.2.1 dX5_takeRotor_34 (by decide) ?_
        refine lv_bipush (v := 7) C.1 C.2.1 dX5_takeRotor_35 (by decide) ?_
        obtain ⟨⟨r11, w12, w13, w14, w15, w16, w17⟩, h18, hF⟩ := fb hF
        refine callVI C hK hA hP hD hS [0, 1] (c_X5_takeNumber (a_this := a_this) (a_bytes := a_bytes) (a_draft := a_draft) (v_length := v_length) (v_fault := w3) (v_faultPlace := w4) (v_token := w5) (v_start := w6) (v_next := w7) (v_value := w8) (v_signsTold := v_signsTold) (v_everyTold := v_everyTold) (v_bytes := v_bytes) h18) cv_X5_takeNumber kw2_90 rfl (by decide) rfl rfl rfl ⟨Nat.le_of_ble_eq_true rfl, Nat.le_of_ble_eq_true rfl⟩ ⟨Nat.zero_le _, Nat.zero_le _⟩ hl.1 rfl (Nat.le_of_ble_eq_true rfl) dX5_takeRotor_37 (fun H locs hP hD hS => ?_)
        have hP : va_P D vwCl [(a_this, .inr (5, [.ref a_bytes, .int v_length, .ref a_draft, .int w12, .int w13, .int w14, .int w15, .int w16, .int w17, .int v_signsTold, .int v_everyTold])), (a_bytes, .inl (cB, 160, .inl v_bytes)), (a_draft, .inr (0, [.int v_draft_field, .int v_draft_tick, .int v_draft_pace, .int v_draft_signNumber, .int v_draft_rotorNumber, .ref a_draft_signs, .ref a_draft_rotors])), (a_draft_rotors, rfn cR 4 a_draft_rotors_e), rcell a_draft_rotors_e v_draft_rotorsF 0, rcell a_draft_rotors_e v_draft_rotorsF 1, rcell a_draft_rotors_e v_draft_rotorsF 2, rcell a_draft_rotors_e v_draft_rotorsF 3] H := hP
        have hD : va_D A [(a_this, .inr (5, [.ref a_bytes, .int v_length, .ref a_draft, .int w12, .int w13, .int w14, .int w15, .int w16, .int w17, .int v_signsTold, .int v_everyTold])), (a_bytes, .inl (cB, 160, .inl v_bytes)), (a_draft, .inr (0, [.int v_draft_field, .int v_draft_tick, .int v_draft_pace, .int v_draft_signNumber, .int v_draft_rotorNumber, .ref a_draft_signs, .ref a_draft_rotors])), (a_draft_rotors, rfn cR 4 a_draft_rotors_e), rcell a_draft_rotors_e v_draft_rotorsF 0, rcell a_draft_rotors_e v_draft_rotorsF 1, rcell a_draft_rotors_e v_draft_rotorsF 2, rcell a_draft_rotors_e v_draft_rotorsF 3] := hD
        refine lv_if_ne (tgt := 45) C.1 C.2.1 dX5_takeRotor_40 (by decide) (fun c19 => ?_) (fun c19 => ?_)
        · have hF := fn hF c19
          refine lv_aload_n C.1 C.2.1 dX5_takeRotor_45 rfl (lv_at hl 1 rfl) ?_
          refine gf_5_5_draft C hK hP 0 rfl rfl dX5_takeRotor_46 ?_
          refine lv_iload_n C.1 C.2.1 dX5_takeRotor_49 rfl (lv_at hl 2 rfl) ?_
          refine lv_iload_n C.1 C.2.1 dX5_takeRotor_50 rfl (lv_at hl 0 rfl) ?_
          refine lv_aload_n C.1 C.2.1 dX5_takeRotor_51 rfl (lv_at hl 1 rfl) ?_
          refine gf_5_5_value C hK hP 0 rfl rfl dX5_takeRotor_52 ?_
          obtain ⟨⟨w20, w21⟩, h22, hF⟩ := fb hF
          refine callVV C hK hA hP hD hS [2, 3, 4, 5, 6, 7] (c_X0_addRotor (a_this := a_draft) (a_signs := a_draft_signs) (a_rotors := a_draft_rotors) (a_rotors_e := a_draft_rotors_e) (v_field := v_draft_field) (v_tick := v_draft_tick) (v_pace := v_draft_pace) (v_signNumber := v_draft_signNumber) (v_rotorNumber := v_draft_rotorNumber) (v_rotorsF := v_draft_rotorsF) h22) cv_X0_addRotor kw2_98 rfl (by decide) rfl rfl rfl ⟨Nat.le_of_ble_eq_true rfl, Nat.le_of_ble_eq_true rfl⟩ ⟨Nat.zero_le _, Nat.zero_le _⟩ hl.1 rfl (Nat.le_of_ble_eq_true rfl) dX5_takeRotor_55 (fun H locs hP hD hS => ?_)
          have hP : va_P D vwCl [(a_this, .inr (5, [.ref a_bytes, .int v_length, .ref a_draft, .int w12, .int w13, .int w14, .int w15, .int w16, .int w17, .int v_signsTold, .int v_everyTold])), (a_bytes, .inl (cB, 160, .inl v_bytes)), (a_draft, .inr (0, [.int v_draft_field, .int v_draft_tick, .int v_draft_pace, .int v_draft_signNumber, .int w20, .ref a_draft_signs, .ref a_draft_rotors])), (a_draft_rotors, rfn cR 4 a_draft_rotors_e), rcell a_draft_rotors_e w21 0, rcell a_draft_rotors_e w21 1, rcell a_draft_rotors_e w21 2, rcell a_draft_rotors_e w21 3] H := hP
          have hD : va_D A [(a_this, .inr (5, [.ref a_bytes, .int v_length, .ref a_draft, .int w12, .int w13, .int w14, .int w15, .int w16, .int w17, .int v_signsTold, .int v_everyTold])), (a_bytes, .inl (cB, 160, .inl v_bytes)), (a_draft, .inr (0, [.int v_draft_field, .int v_draft_tick, .int v_draft_pace, .int v_draft_signNumber, .int w20, .ref a_draft_signs, .ref a_draft_rotors])), (a_draft_rotors, rfn cR 4 a_draft_rotors_e), rcell a_draft_rotors_e w21 0, rcell a_draft_rotors_e w21 1, rcell a_draft_rotors_e w21 2, rcell a_draft_rotors_e w21 3] := hD
          refine lv_aload_n C.1 C.2.1 dX5_takeRotor_58 rfl (lv_at hl 1 rfl) ?_
          obtain ⟨⟨r23, w24, w25, w26, w27, w28, w29⟩, h30, hF⟩ := fb hF
          refine callVI C hK hA hP hD hS [0, 1] (c_X5_takeStop (a_this := a_this) (a_bytes := a_bytes) (a_draft := a_draft) (v_length := v_length) (v_fault := w12) (v_faultPlace := w13) (v_token := w14) (v_start := w15) (v_next := w16) (v_value := w17) (v_signsTold := v_signsTold) (v_everyTold := v_everyTold) (v_bytes := v_bytes) h30) cv_X5_takeStop kw2_106 rfl (by decide) rfl rfl rfl ⟨Nat.le_of_ble_eq_true rfl, Nat.le_of_ble_eq_true rfl⟩ ⟨Nat.zero_le _, Nat.zero_le _⟩ hl.1 rfl (Nat.le_of_ble_eq_true rfl) dX5_takeRotor_59 (fun H locs hP hD hS => ?_)
          have hP : va_P D vwCl [(a_this, .inr (5, [.ref a_bytes, .int v_length, .ref a_draft, .int w24, .int w25, .int w26, .int w27, .int w28, .int w29, .int v_signsTold, .int v_everyTold])), (a_bytes, .inl (cB, 160, .inl v_bytes)), (a_draft, .inr (0, [.int v_draft_field, .int v_draft_tick, .int v_draft_pace, .int v_draft_signNumber, .int w20, .ref a_draft_signs, .ref a_draft_rotors])), (a_draft_rotors, rfn cR 4 a_draft_rotors_e), rcell a_draft_rotors_e w21 0, rcell a_draft_rotors_e w21 1, rcell a_draft_rotors_e w21 2, rcell a_draft_rotors_e w21 3] H := hP
          have hD : va_D A [(a_this, .inr (5, [.ref a_bytes, .int v_length, .ref a_draft, .int w24, .int w25, .int w26, .int w27, .int w28, .int w29, .int v_signsTold, .int v_everyTold])), (a_bytes, .inl (cB, 160, .inl v_bytes)), (a_draft, .inr (0, [.int v_draft_field, .int v_draft_tick, .int v_draft_pace, .int v_draft_signNumber, .int w20, .ref a_draft_signs, .ref a_draft_rotors])), (a_draft_rotors, rfn cR 4 a_draft_rotors_e), rcell a_draft_rotors_e w21 0, rcell a_draft_rotors_e w21 1, rcell a_draft_rotors_e w21 2, rcell a_draft_rotors_e w21 3] := hD
          obtain ⟨h31, hF⟩ := fk hF
          have hF := Option.some.inj hF
          subst hF
          exact retZ C hr hlk (narZ h31) hP hD hS dX5_takeRotor_62
        · have hF := fp hF c19
          refine lv_iconst (v := 0) C.1 C.2.1 dX5_takeRotor_43 (by decide) ?_
          have hF := Option.some.inj hF
          subst hF
          exact retZ (v := 0) C hr hlk (by decide) hP hD hS dX5_takeRotor_44
      · have hF := fp hF c10
        refine lv_iconst (v := 0) C.1 C.2.1 dX5_takeRotor_26 (by decide) ?_
        have hF := Option.some.inj hF
        subst hF
        exact retZ (v := 0) C hr hlk (by decide) hP hD hS dX5_takeRotor_27
    · have hF := fn hF c1
      refine lv_aload_n C.1 C.2.1 dX5_takeRotor_11 rfl (lv_at hl 0 rfl) ?_
      refine lv_iconst (v := 5) C.1 C.2.1 dX5_takeRotor_12 (by decide) ?_
      obtain ⟨⟨r32, w33, w34⟩, h35, hF⟩ := fb hF
      refine callVI C hK hA hP hD hS [0] (c_X5_refuse (a_this := a_this) (a_bytes := a_bytes) (a_draft := a_draft) (v_length := v_length) (v_fault := v_fault) (v_faultPlace := v_faultPlace) (v_token := v_token) (v_start := v_start) (v_next := v_next) (v_value := v_value) (v_signsTold := v_signsTold) (v_everyTold := v_everyTold) h35) cv_X5_refuse kw2_18 rfl (by decide) rfl rfl rfl ⟨Nat.le_of_ble_eq_true rfl, Nat.le_of_ble_eq_true rfl⟩ ⟨Nat.zero_le _, Nat.zero_le _⟩ hl.1 rfl (Nat.le_of_ble_eq_true rfl) dX5_takeRotor_13 (fun H locs hP hD hS => ?_)
      have hP : va_P D vwCl [(a_this, .inr (5, [.ref a_bytes, .int v_length, .ref a_draft, .int w33, .int w34, .int v_token, .int v_start, .int v_next, .int v_value, .int v_signsTold, .int v_everyTold])), (a_bytes, .inl (cB, 160, .inl v_bytes)), (a_draft, .inr (0, [.int v_draft_field, .int v_draft_tick, .int v_draft_pace, .int v_draft_signNumber, .int v_draft_rotorNumber, .ref a_draft_signs, .ref a_draft_rotors])), (a_draft_rotors, rfn cR 4 a_draft_rotors_e), rcell a_draft_rotors_e v_draft_rotorsF 0, rcell a_draft_rotors_e v_draft_rotorsF 1, rcell a_draft_rotors_e v_draft_rotorsF 2, rcell a_draft_rotors_e v_draft_rotorsF 3] H := hP
      have hD : va_D A [(a_this, .inr (5, [.ref a_bytes, .int v_length, .ref a_draft, .int w33, .int w34, .int v_token, .int v_start, .int v_next, .int v_value, .int v_signsTold, .int v_everyTold])), (a_bytes, .inl (cB, 160, .inl v_bytes)), (a_draft, .inr (0, [.int v_draft_field, .int v_draft_tick, .int v_draft_pace, .int v_draft_signNumber, .int v_draft_rotorNumber, .ref a_draft_signs, .ref a_draft_rotors])), (a_draft_rotors, rfn cR 4 a_draft_rotors_e), rcell a_draft_rotors_e v_draft_rotorsF 0, rcell a_draft_rotors_e v_draft_rotorsF 1, rcell a_draft_rotors_e v_draft_rotorsF 2, rcell a_draft_rotors_e v_draft_rotorsF 3] := hD
      obtain ⟨h36, hF⟩ := fk hF
      have hF := Option.some.inj hF
      subst hF
      exact retZ C hr hlk (narZ h36) hP hD hS dX5_takeRotor_16)
theorem c_X5_takeRotor {l : Launch} {D : va_G} {cI cB cZ cR cM cS : ClassId} {a_this : Nat} {a_bytes : Nat} {a_draft : Nat} {a_draft_signs : Nat} {a_draft_rotors : Nat} {a_draft_rotors_e : Nat → Nat} {v_length : Int32} {v_fault : Int32} {v_faultPlace : Int32} {v_token : Int32} {v_start : Int32} {v_next : Int32} {v_value : Int32} {v_signsTold : Int32} {v_everyTold : Int32} {v_bytes : Nat → Int32} {v_draft_field : Int32} {v_draft_tick : Int32} {v_draft_pace : Int32} {v_draft_signNumber : Int32} {v_draft_rotorNumber : Int32} {v_draft_rotorsF : Nat → Rot} {x1 : Int32} {r_ : Int32} {v_fault' : Int32} {v_faultPlace' : Int32} {v_token' : Int32} {v_start' : Int32} {v_next' : Int32} {v_value' : Int32} {v_draft_rotorNumber' : Int32} {v_draft_rotorsF' : Nat → Rot} (hF : F_X5_takeRotor v_length v_fault v_faultPlace v_token v_start v_next v_value v_bytes v_draft_rotorNumber v_draft_rotorsF x1 = some (r_, v_fault', v_faultPlace', v_token', v_start', v_next', v_value', v_draft_rotorNumber', v_draft_rotorsF')) : MI l yX5_takeRotor cX5_takeRotor 3 .boolean rm_X5_takeRotor D (TS cI cB cZ cR cM cS) [.ref a_this, .int x1] [(a_this, .inr (5, [.ref a_bytes, .int v_length, .ref a_draft, .int v_fault, .int v_faultPlace, .int v_token, .int v_start, .int v_next, .int v_value, .int v_signsTold, .int v_everyTold])), (a_bytes, .inl (cB, 160, .inl v_bytes)), (a_draft, .inr (0, [.int v_draft_field, .int v_draft_tick, .int v_draft_pace, .int v_draft_signNumber, .int v_draft_rotorNumber, .ref a_draft_signs, .ref a_draft_rotors])), (a_draft_rotors, rfn cR 4 a_draft_rotors_e), rcell a_draft_rotors_e v_draft_rotorsF 0, rcell a_draft_rotors_e v_draft_rotorsF 1, rcell a_draft_rotors_e v_draft_rotorsF 2, rcell a_draft_rotors_e v_draft_rotorsF 3] [(a_this, .inr (5, [.ref a_bytes, .int v_length, .ref a_draft, .int v_fault', .int v_faultPlace', .int v_token', .int v_start', .int v_next', .int v_value', .int v_signsTold, .int v_everyTold])), (a_bytes, .inl (cB, 160, .inl v_bytes)), (a_draft, .inr (0, [.int v_draft_field, .int v_draft_tick, .int v_draft_pace, .int v_draft_signNumber, .int v_draft_rotorNumber', .ref a_draft_signs, .ref a_draft_rotors])), (a_draft_rotors, rfn cR 4 a_draft_rotors_e), rcell a_draft_rotors_e v_draft_rotorsF' 0, rcell a_draft_rotors_e v_draft_rotorsF' 1, rcell a_draft_rotors_e v_draft_rotorsF' 2, rcell a_draft_rotors_e v_draft_rotorsF' 3] r_ :=
  c0_X5_takeRotor (res := (r_, v_fault', v_faultPlace', v_token', v_start', v_next', v_value', v_draft_rotorNumber', v_draft_rotorsF')) hF
def rm_X5_takeLine : Room := { frames := 6, cells := 0, slots := 0, locals := 127 }
theorem cv_X5_takeLine : CV yX5_takeLine cX5_takeLine 2 (some .boolean) rm_X5_takeLine RX5 0 := ⟨kw2_24, kwp_4, kw1_2, kw2_25, by decide +kernel, rfl, rfl⟩
set_option maxHeartbeats 4000000 in
set_option maxRecDepth 100000 in
theorem c0_X5_takeLine {l : Launch} {D : va_G} {cI cB cZ cR cM cS : ClassId} {a_this : Nat} {a_bytes : Nat} {a_draft : Nat} {a_draft_signs : Nat} {a_draft_rotors : Nat} {a_draft_rotors_e : Nat → Nat} {adK adV : Nat → Nat} {v_length : Int32} {v_fault : Int32} {v_faultPlace : Int32} {v_token : Int32} {v_start : Int32} {v_next : Int32} {v_value : Int32} {v_signsTold : Int32} {v_everyTold : Int32} {v_bytes : Nat → Int32} {v_draft_field : Int32} {v_draft_tick : Int32} {v_draft_pace : Int32} {v_draft_signNumber : Int32} {v_draft_rotorNumber : Int32} {v_draft_signs : Nat → Int32} {v_draft_rotorsF : Nat → Rot} {res : Int32 × Int32 × Int32 × Int32 × Int32 × Int32 × Int32 × Int32 × Int32 × Int32 × Int32 × Int32 × (Nat → Int32) × (Nat → Rot)} (hF : F_X5_takeLine v_length v_fault v_faultPlace v_token v_start v_next v_value v_signsTold v_everyTold v_bytes v_draft_pace v_draft_signNumber v_draft_rotorNumber v_draft_signs v_draft_rotorsF = some res) : MIS l yX5_takeLine cX5_takeLine 2 .boolean rm_X5_takeLine D (TS cI cB cZ cR cM cS) adK adV [.ref a_this] [(a_this, .inr (5, [.ref a_bytes, .int v_length, .ref a_draft, .int v_fault, .int v_faultPlace, .int v_token, .int v_start, .int v_next, .int v_value, .int v_signsTold, .int v_everyTold])), (a_bytes, .inl (cB, 160, .inl v_bytes)), (a_draft, .inr (0, [.int v_draft_field, .int v_draft_tick, .int v_draft_pace, .int v_draft_signNumber, .int v_draft_rotorNumber, .ref a_draft_signs, .ref a_draft_rotors])), (a_draft_signs, .inl (cI, 16, .inl v_draft_signs)), (a_draft_rotors, rfn cR 4 a_draft_rotors_e), rcell a_draft_rotors_e v_draft_rotorsF 0, rcell a_draft_rotors_e v_draft_rotorsF 1, rcell a_draft_rotors_e v_draft_rotorsF 2, rcell a_draft_rotors_e v_draft_rotorsF 3] [(a_this, .inr (5, [.ref a_bytes, .int v_length, .ref a_draft, .int res.2.1, .int res.2.2.1, .int res.2.2.2.1, .int res.2.2.2.2.1, .int res.2.2.2.2.2.1, .int res.2.2.2.2.2.2.1, .int res.2.2.2.2.2.2.2.1, .int res.2.2.2.2.2.2.2.2.1])), (a_bytes, .inl (cB, 160, .inl v_bytes)), (a_draft, .inr (0, [.int v_draft_field, .int v_draft_tick, .int res.2.2.2.2.2.2.2.2.2.1, .int res.2.2.2.2.2.2.2.2.2.2.1, .int res.2.2.2.2.2.2.2.2.2.2.2.1, .ref a_draft_signs, .ref a_draft_rotors])), (a_draft_signs, .inl (cI, 16, .inl res.2.2.2.2.2.2.2.2.2.2.2.2.1)), (a_draft_rotors, rfn cR 4 a_draft_rotors_e), rcell a_draft_rotors_e res.2.2.2.2.2.2.2.2.2.2.2.2.2 0, rcell a_draft_rotors_e res.2.2.2.2.2.2.2.2.2.2.2.2.2 1, rcell a_draft_rotors_e res.2.2.2.2.2.2.2.2.2.2.2.2.2 2, rcell a_draft_rotors_e res.2.2.2.2.2.2.2.2.2.2.2.2.2 3] res.1 :=
  MIS_of (by decide) (Nat.le_of_ble_eq_true rfl) (fun p e s m args below meth c A ls C hr hlk hK hQ hA hP hD hS hl => by
    have C : CX p m c cX5_takeLine 2 s args RX5 := C
    have hl : lv_has ls 2 [(0, .ref a_this)] := hl
    unfold F_X5_takeLine at hF
    refine lv_aload_n C.1 C.2.1 dX5_takeLine_0 rfl (lv_at hl 0 rfl) ?_
    refine gf_5_5_token C hK hP 0 rfl rfl dX5_takeLine_1 ?_
    refine lv_iconst (v := 1) C.1 C.2.1 dX5_takeLine_4 (by decide) ?_
    refine lv_icmp_eq (tgt := 14) C.1 C.2.1 dX5_takeLine_5 (by decide) (fun c1 => ?_) (fun c1 => ?_)
    · have hF := fp hF c1
      refine lv_aload_n C.1 C.2.1 dX5_takeLine_14 rfl (lv_at hl 0 rfl) ?_
      obtain ⟨r2, h3, hF⟩ := fb hF
      refine callVIS C hK hQ hA hP hD hS [0, 1] (c_X5_sortNamed (a_this := a_this) (a_bytes := a_bytes) (a_draft := a_draft) (v_length := v_length) (v_fault := v_fault) (v_faultPlace := v_faultPlace) (v_token := v_token) (v_start := v_start) (v_next := v_next) (v_value := v_value) (v_signsTold := v_signsTold) (v_everyTold := v_everyTold) (v_bytes := v_bytes) h3) cv_X5_sortNamed kw2_26 (va_recv hK.1 hP (ci := 5) (q0 := 0) rfl rfl) rfl (by decide) rfl ⟨Nat.le_of_ble_eq_true rfl, Nat.le_of_ble_eq_true rfl⟩ ⟨Nat.zero_le _, Nat.zero_le _⟩ hl.1 rfl (Nat.le_of_ble_eq_true rfl) dX5_takeLine_15 (fun H locs hP hD hS => ?_)
      have hP : va_P D vwCl [(a_this, .inr (5, [.ref a_bytes, .int v_length, .ref a_draft, .int v_fault, .int v_faultPlace, .int v_token, .int v_start, .int v_next, .int v_value, .int v_signsTold, .int v_everyTold])), (a_bytes, .inl (cB, 160, .inl v_bytes)), (a_draft, .inr (0, [.int v_draft_field, .int v_draft_tick, .int v_draft_pace, .int v_draft_signNumber, .int v_draft_rotorNumber, .ref a_draft_signs, .ref a_draft_rotors])), (a_draft_signs, .inl (cI, 16, .inl v_draft_signs)), (a_draft_rotors, rfn cR 4 a_draft_rotors_e), rcell a_draft_rotors_e v_draft_rotorsF 0, rcell a_draft_rotors_e v_draft_rotorsF 1, rcell a_draft_rotors_e v_draft_rotorsF 2, rcell a_draft_rotors_e v_draft_rotorsF 3] H := hP
      have hD : va_D A [(a_this, .inr (5, [.ref a_bytes, .int v_length, .ref a_draft, .int v_fault, .int v_faultPlace, .int v_token, .int v_start, .int v_next, .int v_value, .int v_signsTold, .int v_everyTold])), (a_bytes, .inl (cB, 160, .inl v_bytes)), (a_draft, .inr (0, [.int v_draft_field, .int v_draft_tick, .int v_draft_pace, .int v_draft_signNumber, .int v_draft_rotorNumber, .ref a_draft_signs, .ref a_draft_rotors])), (a_draft_signs, .inl (cI, 16, .inl v_draft_signs)), (a_draft_rotors, rfn cR 4 a_draft_rotors_e), rcell a_draft_rotors_e v_draft_rotorsF 0, rcell a_draft_rotors_e v_draft_rotorsF 1, rcell a_draft_rotors_e v_draft_rotorsF 2, rcell a_draft_rotors_e v_draft_rotorsF 3] := hD
      refine lv_istore_n (lv' := [(1, .int r2), (0, .ref a_this)]) C.1 C.2.1 dX5_takeLine_18 rfl hl (by decide) rfl (fun ls hl => ?_)
      refine lv_iload_n C.1 C.2.1 dX5_takeLine_19 rfl (lv_at hl 0 rfl) ?_
      refine lv_if_lt (tgt := 29) C.1 C.2.1 dX5_takeLine_20 (by decide) (fun c4 => ?_) (fun c4 => ?_)
      · have hF := fp hF c4
        refine lv_aload_n C.1 C.2.1 dX5_takeLine_29 rfl (lv_at hl 1 rfl) ?_
        refine va_ldcS C.1 C.2.1 C.2.2.2.1 hQ.2.2.2.2.2.2.2.1 dX5_takeLine_30 ?_
        obtain ⟨r5, h6, hF⟩ := fb hF
        refine callVIS C hK hQ hA hP hD hS [0, 1] (c_X5_isNamed (a_this := a_this) (a_bytes := a_bytes) (a_draft := a_draft) (v_length := v_length) (v_fault := v_fault) (v_faultPlace := v_faultPlace) (v_token := v_token) (v_start := v_start) (v_next := v_next) (v_value := v_value) (v_signsTold := v_signsTold) (v_everyTold := v_everyTold) (v_bytes := v_bytes) h6) cv_X5_isNamed kw2_31 (va_recv hK.1 hP (ci := 5) (q0 := 0) rfl rfl) rfl (by decide) rfl ⟨Nat.le_of_ble_eq_true rfl, Nat.le_of_ble_eq_true rfl⟩ ⟨Nat.zero_le _, Nat.zero_le _⟩ hl.1 rfl (Nat.le_of_ble_eq_true rfl) dX5_takeLine_32 (fun H locs hP hD hS => ?_)
        have hP : va_P D vwCl [(a_this, .inr (5, [.ref a_bytes, .int v_length, .ref a_draft, .int v_fault, .int v_faultPlace, .int v_token, .int v_start, .int v_next, .int v_value, .int v_signsTold, .int v_everyTold])), (a_bytes, .inl (cB, 160, .inl v_bytes)), (a_draft, .inr (0, [.int v_draft_field, .int v_draft_tick, .int v_draft_pace, .int v_draft_signNumber, .int v_draft_rotorNumber, .ref a_draft_signs, .ref a_draft_rotors])), (a_draft_signs, .inl (cI, 16, .inl v_draft_signs)), (a_draft_rotors, rfn cR 4 a_draft_rotors_e), rcell a_draft_rotors_e v_draft_rotorsF 0, rcell a_draft_rotors_e v_draft_rotorsF 1, rcell a_draft_rotors_e v_draft_rotorsF 2, rcell a_draft_rotors_e v_draft_rotorsF 3] H := hP
        have hD : va_D A [(a_this, .inr (5, [.ref a_bytes, .int v_length, .ref a_draft, .int v_fault, .int v_faultPlace, .int v_token, .int v_start, .int v_next, .int v_value, .int v_signsTold, .int v_everyTold])), (a_bytes, .inl (cB, 160, .inl v_bytes)), (a_draft, .inr (0, [.int v_draft_field, .int v_draft_tick, .int v_draft_pace, .int v_draft_signNumber, .int v_draft_rotorNumber, .ref a_draft_signs, .ref a_draft_rotors])), (a_draft_signs, .inl (cI, 16, .inl v_draft_signs)), (a_draft_rotors, rfn cR 4 a_draft_rotors_e), rcell a_draft_rotors_e v_draft_rotorsF 0, rcell a_draft_rotors_e v_draft_rotorsF 1, rcell a_draft_rotors_e v_draft_rotorsF 2, rcell a_draft_rotors_e v_draft_rotorsF 3] := hD
        refine lv_if_eq (tgt := 43) C.1 C.2.1 dX5_takeLine_35 (by decide) (fun c7 => ?_) (fun c7 => ?_)
        · have hF := fp hF c7
          refine lv_aload_n C.1 C.2.1 dX5_takeLine_43 rfl (lv_at hl 1 rfl) ?_
          refine va_ldcS C.1 C.2.1 C.2.2.2.1 hQ.2.2.2.2.2.2.2.2 dX5_takeLine_44 ?_
          obtain ⟨r8, h9, hF⟩ := fb hF
          refine callVIS C hK hQ hA hP hD hS [0, 1] (c_X5_isNamed (a_this := a_this) (a_bytes := a_bytes) (a_draft := a_draft) (v_length := v_length) (v_fault := v_fault) (v_faultPlace := v_faultPlace) (v_token := v_token) (v_start := v_start) (v_next := v_next) (v_value := v_value) (v_signsTold := v_signsTold) (v_everyTold := v_everyTold) (v_bytes := v_bytes) h9) cv_X5_isNamed kw2_31 (va_recv hK.1 hP (ci := 5) (q0 := 0) rfl rfl) rfl (by decide) rfl ⟨Nat.le_of_ble_eq_true rfl, Nat.le_of_ble_eq_true rfl⟩ ⟨Nat.zero_le _, Nat.zero_le _⟩ hl.1 rfl (Nat.le_of_ble_eq_true rfl) dX5_takeLine_46 (fun H locs hP hD hS => ?_)
          have hP : va_P D vwCl [(a_this, .inr (5, [.ref a_bytes, .int v_length, .ref a_draft, .int v_fault, .int v_faultPlace, .int v_token, .int v_start, .int v_next, .int v_value, .int v_signsTold, .int v_everyTold])), (a_bytes, .inl (cB, 160, .inl v_bytes)), (a_draft, .inr (0, [.int v_draft_field, .int v_draft_tick, .int v_draft_pace, .int v_draft_signNumber, .int v_draft_rotorNumber, .ref a_draft_signs, .ref a_draft_rotors])), (a_draft_signs, .inl (cI, 16, .inl v_draft_signs)), (a_draft_rotors, rfn cR 4 a_draft_rotors_e), rcell a_draft_rotors_e v_draft_rotorsF 0, rcell a_draft_rotors_e v_draft_rotorsF 1, rcell a_draft_rotors_e v_draft_rotorsF 2, rcell a_draft_rotors_e v_draft_rotorsF 3] H := hP
          have hD : va_D A [(a_this, .inr (5, [.ref a_bytes, .int v_length, .ref a_draft, .int v_fault, .int v_faultPlace, .int v_token, .int v_start, .int v_next, .int v_value, .int v_signsTold, .int v_everyTold])), (a_bytes, .inl (cB, 160, .inl v_bytes)), (a_draft, .inr (0, [.int v_draft_field, .int v_draft_tick, .int v_draft_pace, .int v_draft_signNumber, .int v_draft_rotorNumber, .ref a_draft_signs, .ref a_draft_rotors])), (a_draft_signs, .inl (cI, 16, .inl v_draft_signs)), (a_draft_rotors, rfn cR 4 a_draft_rotors_e), rcell a_draft_rotors_e v_draft_rotorsF 0, rcell a_draft_rotors_e v_draft_rotorsF 1, rcell a_draft_rotors_e v_draft_rotorsF 2, rcell a_draft_rotors_e v_draft_rotorsF 3] := hD
          refine lv_if_eq (tgt := 57) C.1 C.2.1 dX5_takeLine_49 (by decide) (fun c10 => ?_) (fun c10 => ?_)
          · have hF := fp hF c10
            refine lv_aload_n C.1 C.2.1 dX5_takeLine_57 rfl (lv_at hl 1 rfl) ?_
            refine lv_iconst (v := 2) C.1 C.2.1 dX5_takeLine_58 (by decide) ?_
            obtain ⟨⟨r11, w12, w13⟩, h14, hF⟩ := fb hF
            refine callVI C hK hA hP hD hS [0] (c_X5_refuse (a_this := a_this) (a_bytes := a_bytes) (a_draft := a_draft) (v_length := v_length) (v_fault := v_fault) (v_faultPlace := v_faultPlace) (v_token := v_token) (v_start := v_start) (v_next := v_next) (v_value := v_value) (v_signsTold := v_signsTold) (v_everyTold := v_everyTold) h14) cv_X5_refuse kw2_18 rfl (by decide) rfl rfl rfl ⟨Nat.le_of_ble_eq_true rfl, Nat.le_of_ble_eq_true rfl⟩ ⟨Nat.zero_le _, Nat.zero_le _⟩ hl.1 rfl (Nat.le_of_ble_eq_true rfl) dX5_takeLine_59 (fun H locs hP hD hS => ?_)
            have hP : va_P D vwCl [(a_this, .inr (5, [.ref a_bytes, .int v_length, .ref a_draft, .int w12, .int w13, .int v_token, .int v_start, .int v_next, .int v_value, .int v_signsTold, .int v_everyTold])), (a_bytes, .inl (cB, 160, .inl v_bytes)), (a_draft, .inr (0, [.int v_draft_field, .int v_draft_tick, .int v_draft_pace, .int v_draft_signNumber, .int v_draft_rotorNumber, .ref a_draft_signs, .ref a_draft_rotors])), (a_draft_signs, .inl (cI, 16, .inl v_draft_signs)), (a_draft_rotors, rfn cR 4 a_draft_rotors_e), rcell a_draft_rotors_e v_draft_rotorsF 0, rcell a_draft_rotors_e v_draft_rotorsF 1, rcell a_draft_rotors_e v_draft_rotorsF 2, rcell a_draft_rotors_e v_draft_rotorsF 3] H := hP
            have hD : va_D A [(a_this, .inr (5, [.ref a_bytes, .int v_length, .ref a_draft, .int w12, .int w13, .int v_token, .int v_start, .int v_next, .int v_value, .int v_signsTold, .int v_everyTold])), (a_bytes, .inl (cB, 160, .inl v_bytes)), (a_draft, .inr (0, [.int v_draft_field, .int v_draft_tick, .int v_draft_pace, .int v_draft_signNumber, .int v_draft_rotorNumber, .ref a_draft_signs, .ref a_draft_rotors])), (a_draft_signs, .inl (cI, 16, .inl v_draft_signs)), (a_draft_rotors, rfn cR 4 a_draft_rotors_e), rcell a_draft_rotors_e v_draft_rotorsF 0, rcell a_draft_rotors_e v_draft_rotorsF 1, rcell a_draft_rotors_e v_draft_rotorsF 2, rcell a_draft_rotors_e v_draft_rotorsF 3] := hD
            obtain ⟨h15, hF⟩ := fk hF
            have hF := Option.some.inj hF
            subst hF
            exact retZ C hr hlk (narZ h15) hP hD hS dX5_takeLine_62
          · have hF := fn hF c10
            refine lv_aload_n C.1 C.2.1 dX5_takeLine_52 rfl (lv_at hl 1 rfl) ?_
            obtain ⟨⟨r16, w17, w18, w19, w20, w21, w22, w23, w24⟩, h25, hF⟩ := fb hF
            refine callVI C hK hA hP hD hS [0, 1, 2] (c_X5_takeEvery (a_this := a_this) (a_bytes := a_bytes) (a_draft := a_draft) (a_draft_signs := a_draft_signs) (a_draft_rotors := a_draft_rotors) (v_length := v_length) (v_fault := v_fault) (v_faultPlace := v_faultPlace) (v_token := v_token) (v_start := v_start) (v_next := v_next) (v_value := v_value) (v_signsTold := v_signsTold) (v_everyTold := v_everyTold) (v_bytes := v_bytes) (v_draft_field := v_draft_field) (v_draft_tick := v_draft_tick) (v_draft_pace := v_draft_pace) (v_draft_signNumber := v_draft_signNumber) (v_draft_rotorNumber := v_draft_rotorNumber) h25) cv_X5_takeEvery kw2_120 rfl (by decide) rfl rfl rfl ⟨Nat.le_of_ble_eq_true rfl, Nat.le_of_ble_eq_true rfl⟩ ⟨Nat.zero_le _, Nat.zero_le _⟩ hl.1 rfl (Nat.le_of_ble_eq_true rfl) dX5_takeLine_53 (fun H locs hP hD hS => ?_)
            have hP : va_P D vwCl [(a_this, .inr (5, [.ref a_bytes, .int v_length, .ref a_draft, .int w17, .int w18, .int w19, .int w20, .int w21, .int w22, .int v_signsTold, .int w23])), (a_bytes, .inl (cB, 160, .inl v_bytes)), (a_draft, .inr (0, [.int v_draft_field, .int v_draft_tick, .int w24, .int v_draft_signNumber, .int v_draft_rotorNumber, .ref a_draft_signs, .ref a_draft_rotors])), (a_draft_signs, .inl (cI, 16, .inl v_draft_signs)), (a_draft_rotors, rfn cR 4 a_draft_rotors_e), rcell a_draft_rotors_e v_draft_rotorsF 0, rcell a_draft_rotors_e v_draft_rotorsF 1, rcell a_draft_rotors_e v_draft_rotorsF 2, rcell a_draft_rotors_e v_draft_rotorsF 3] H := hP
            have hD : va_D A [(a_this, .inr (5, [.ref a_bytes, .int v_length, .ref a_draft, .int w17, .int w18, .int w19, .int w20, .int w21, .int w22, .int v_signsTold, .int w23])), (a_bytes, .inl (cB, 160, .inl v_bytes)), (a_draft, .inr (0, [.int v_draft_field, .int v_draft_tick, .int w24, .int v_draft_signNumber, .int v_draft_rotorNumber, .ref a_draft_signs, .ref a_draft_rotors])), (a_draft_signs, .inl (cI, 16, .inl v_draft_signs)), (a_draft_rotors, rfn cR 4 a_draft_rotors_e), rcell a_draft_rotors_e v_draft_rotorsF 0, rcell a_draft_rotors_e v_draft_rotorsF 1, rcell a_draft_rotors_e v_draft_rotorsF 2, rcell a_draft_rotors_e v_draft_rotorsF 3] := hD
            obtain ⟨h26, hF⟩ := fk hF
            have hF := Option.some.inj hF
            subst hF
            exact retZ C hr hlk (narZ h26) hP hD hS dX5_takeLine_56
        · have hF := fn hF c7
          refine lv_aload_n C.1 C.2.1 dX5_takeLine_38 rfl (lv_at hl 1 rfl) ?_
          obtain ⟨⟨r27, w28, w29, w30, w31, w32, w33, w34, w35, w36⟩, h37, hF⟩ := fb hF
          refine callVI C hK hA hP hD hS [0, 1, 2, 3] (c_X5_takeSigns (a_this := a_this) (a_bytes := a_bytes) (a_draft := a_draft) (a_draft_signs := a_draft_signs) (a_draft_rotors := a_draft_rotors) (v_length := v_length) (v_fault := v_fault) (v_faultPlace := v_faultPlace) (v_token := v_token) (v_start := v_start) (v_next := v_next) (v_value := v_value) (v_signsTold := v_signsTold) (v_everyTold := v_everyTold) (v_bytes := v_bytes) (v_draft_field := v_draft_field) (v_draft_tick := v_draft_tick) (v_draft_pace := v_draft_pace) (v_draft_signNumber := v_draft_signNumber) (v_draft_rotorNumber := v_draft_rotorNumber) (v_draft_signs := v_draft_signs) h37) cv_X5_takeSigns kw2_111 rfl (by decide) rfl rfl rfl ⟨Nat.le_of_ble_eq_true rfl, Nat.le_of_ble_eq_true rfl⟩ ⟨Nat.zero_le _, Nat.zero_le _⟩ hl.1 rfl (Nat.le_of_ble_eq_true rfl) dX5_takeLine_39 (fun H locs hP hD hS => ?_)
          have hP : va_P D vwCl [(a_this, .inr (5, [.ref a_bytes, .int v_length, .ref a_draft, .int w28, .int w29, .int w30, .int w31, .int w32, .int w33, .int w34, .int v_everyTold])), (a_bytes, .inl (cB, 160, .inl v_bytes)), (a_draft, .inr (0, [.int v_draft_field, .int v_draft_tick, .int v_draft_pace, .int w35, .int v_draft_rotorNumber, .ref a_draft_signs, .ref a_draft_rotors])), (a_draft_signs, .inl (cI, 16, .inl w36)), (a_draft_rotors, rfn cR 4 a_draft_rotors_e), rcell a_draft_rotors_e v_draft_rotorsF 0, rcell a_draft_rotors_e v_draft_rotorsF 1, rcell a_draft_rotors_e v_draft_rotorsF 2, rcell a_draft_rotors_e v_draft_rotorsF 3] H := hP
          have hD : va_D A [(a_this, .inr (5, [.ref a_bytes, .int v_length, .ref a_draft, .int w28, .int w29, .int w30, .int w31, .int w32, .int w33, .int w34, .int v_everyTold])), (a_bytes, .inl (cB, 160, .inl v_bytes)), (a_draft, .inr (0, [.int v_draft_field, .int v_draft_tick, .int v_draft_pace, .int w35, .int v_draft_rotorNumber, .ref a_draft_signs, .ref a_draft_rotors])), (a_draft_signs, .inl (cI, 16, .inl w36)), (a_draft_rotors, rfn cR 4 a_draft_rotors_e), rcell a_draft_rotors_e v_draft_rotorsF 0, rcell a_draft_rotors_e v_draft_rotorsF 1, rcell a_draft_rotors_e v_draft_rotorsF 2, rcell a_draft_rotors_e v_draft_rotorsF 3] := hD
          obtain ⟨h38, hF⟩ := fk hF
          have hF := Option.some.inj hF
          subst hF
          exact retZ C hr hlk (narZ h38) hP hD hS dX5_takeLine_42
      · have hF := fn hF c4
        refine lv_aload_n C.1 C.2.1 dX5_takeLine_23 rfl (lv_at hl 1 rfl) ?_
        refine lv_iload_n C.1 C.2.1 dX5_takeLine_24 rfl (lv_at hl 0 rfl) ?_
        obtain ⟨⟨r39, w40, w41, w42, w43, w44, w45, w46, w47⟩, h48, hF⟩ := fb hF
        refine callVI C hK hA hP hD hS [0, 1, 2, 4, 5, 6, 7, 8] (c_X5_takeRotor (a_this := a_this) (a_bytes := a_bytes) (a_draft := a_draft) (a_draft_signs := a_draft_signs) (a_draft_rotors := a_draft_rotors) (a_draft_rotors_e := a_draft_rotors_e) (v_length := v_length) (v_fault := v_fault) (v_faultPlace := v_faultPlace) (v_token := v_token) (v_start := v_start) (v_next := v_next) (v_value := v_value) (v_signsTold := v_signsTold) (v_everyTold := v_everyTold) (v_bytes := v_bytes) (v_draft_field := v_draft_field) (v_draft_tick := v_draft_tick) (v_draft_pace := v_draft_pace) (v_draft_signNumber := v_draft_signNumber) (v_draft_rotorNumber := v_draft_rotorNumber) (v_draft_rotorsF := v_draft_rotorsF) h48) cv_X5_takeRotor kw2_86 rfl (by decide) rfl rfl rfl ⟨Nat.le_of_ble_eq_true rfl, Nat.le_of_ble_eq_true rfl⟩ ⟨Nat.zero_le _, Nat.zero_le _⟩ hl.1 rfl (Nat.le_of_ble_eq_true rfl) dX5_takeLine_25 (fun H locs hP hD hS => ?_)
        have hP : va_P D vwCl [(a_this, .inr (5, [.ref a_bytes, .int v_length, .ref a_draft, .int w40, .int w41, .int w42, .int w43, .int w44, .int w45, .int v_signsTold, .int v_everyTold])), (a_bytes, .inl (cB, 160, .inl v_bytes)), (a_draft, .inr (0, [.int v_draft_field, .int v_draft_tick, .int v_draft_pace, .int v_draft_signNumber, .int w46, .ref a_draft_signs, .ref a_draft_rotors])), (a_draft_signs, .inl (cI, 16, .inl v_draft_signs)), (a_draft_rotors, rfn cR 4 a_draft_rotors_e), rcell a_draft_rotors_e w47 0, rcell a_draft_rotors_e w47 1, rcell a_draft_rotors_e w47 2, rcell a_draft_rotors_e w47 3] H := hP
        have hD : va_D A [(a_this, .inr (5, [.ref a_bytes, .int v_length, .ref a_draft, .int w40, .int w41, .int w42, .int w43, .int w44, .int w45, .int v_signsTold, .int v_everyTold])), (a_bytes, .inl (cB, 160, .inl v_bytes)), (a_draft, .inr (0, [.int v_draft_field, .int v_draft_tick, .int v_draft_pace, .int v_draft_signNumber, .int w46, .ref a_draft_signs, .ref a_draft_rotors])), (a_draft_signs, .inl (cI, 16, .inl v_draft_signs)), (a_draft_rotors, rfn cR 4 a_draft_rotors_e), rcell a_draft_rotors_e w47 0, rcell a_draft_rotors_e w47 1, rcell a_draft_rotors_e w47 2, rcell a_draft_rotors_e w47 3] := hD
        obtain ⟨h49, hF⟩ := fk hF
        have hF := Option.some.inj hF
        subst hF
        exact retZ C hr hlk (narZ h49) hP hD hS dX5_takeLine_28
    · have hF := fn hF c1
      refine lv_aload_n C.1 C.2.1 dX5_takeLine_8 rfl (lv_at hl 0 rfl) ?_
      refine lv_iconst (v := 2) C.1 C.2.1 dX5_takeLine_9 (by decide) ?_
      obtain ⟨⟨r50, w51, w52⟩, h53, hF⟩ := fb hF
      refine callVI C hK hA hP hD hS [0] (c_X5_refuse (a_this := a_this) (a_bytes := a_bytes) (a_draft := a_draft) (v_length := v_length) (v_fault := v_fault) (v_faultPlace := v_faultPlace) (v_token := v_token) (v_start := v_start) (v_next := v_next) (v_value := v_value) (v_signsTold := v_signsTold) (v_everyTold := v_everyTold) h53) cv_X5_refuse kw2_18 rfl (by decide) rfl rfl rfl ⟨Nat.le_of_ble_eq_true rfl, Nat.le_of_ble_eq_true rfl⟩ ⟨Nat.zero_le _, Nat.zero_le _⟩ hl.1 rfl (Nat.le_of_ble_eq_true rfl) dX5_takeLine_10 (fun H locs hP hD hS => ?_)
      have hP : va_P D vwCl [(a_this, .inr (5, [.ref a_bytes, .int v_length, .ref a_draft, .int w51, .int w52, .int v_token, .int v_start, .int v_next, .int v_value, .int v_signsTold, .int v_everyTold])), (a_bytes, .inl (cB, 160, .inl v_bytes)), (a_draft, .inr (0, [.int v_draft_field, .int v_draft_tick, .int v_draft_pace, .int v_draft_signNumber, .int v_draft_rotorNumber, .ref a_draft_signs, .ref a_draft_rotors])), (a_draft_signs, .inl (cI, 16, .inl v_draft_signs)), (a_draft_rotors, rfn cR 4 a_draft_rotors_e), rcell a_draft_rotors_e v_draft_rotorsF 0, rcell a_draft_rotors_e v_draft_rotorsF 1, rcell a_draft_rotors_e v_draft_rotorsF 2, rcell a_draft_rotors_e v_draft_rotorsF 3] H := hP
      have hD : va_D A [(a_this, .inr (5, [.ref a_bytes, .int v_length, .ref a_draft, .int w51, .int w52, .int v_token, .int v_start, .int v_next, .int v_value, .int v_signsTold, .int v_everyTold])), (a_bytes, .inl (cB, 160, .inl v_bytes)), (a_draft, .inr (0, [.int v_draft_field, .int v_draft_tick, .int v_draft_pace, .int v_draft_signNumber, .int v_draft_rotorNumber, .ref a_draft_signs, .ref a_draft_rotors])), (a_draft_signs, .inl (cI, 16, .inl v_draft_signs)), (a_draft_rotors, rfn cR 4 a_draft_rotors_e), rcell a_draft_rotors_e v_draft_rotorsF 0, rcell a_draft_rotors_e v_draft_rotorsF 1, rcell a_draft_rotors_e v_draft_rotorsF 2, rcell a_draft_rotors_e v_draft_rotorsF 3] := hD
      obtain ⟨h54, hF⟩ := fk hF
      have hF := Option.some.inj hF
      subst hF
      exact retZ C hr hlk (narZ h54) hP hD hS dX5_takeLine_13)
theorem c_X5_takeLine {l : Launch} {D : va_G} {cI cB cZ cR cM cS : ClassId} {a_this : Nat} {a_bytes : Nat} {a_draft : Nat} {a_draft_signs : Nat} {a_draft_rotors : Nat} {a_draft_rotors_e : Nat → Nat} {adK adV : Nat → Nat} {v_length : Int32} {v_fault : Int32} {v_faultPlace : Int32} {v_token : Int32} {v_start : Int32} {v_next : Int32} {v_value : Int32} {v_signsTold : Int32} {v_everyTold : Int32} {v_bytes : Nat → Int32} {v_draft_field : Int32} {v_draft_tick : Int32} {v_draft_pace : Int32} {v_draft_signNumber : Int32} {v_draft_rotorNumber : Int32} {v_draft_signs : Nat → Int32} {v_draft_rotorsF : Nat → Rot} {r_ : Int32} {v_fault' : Int32} {v_faultPlace' : Int32} {v_token' : Int32} {v_start' : Int32} {v_next' : Int32} {v_value' : Int32} {v_signsTold' : Int32} {v_everyTold' : Int32} {v_draft_pace' : Int32} {v_draft_signNumber' : Int32} {v_draft_rotorNumber' : Int32} {v_draft_signs' : Nat → Int32} {v_draft_rotorsF' : Nat → Rot} (hF : F_X5_takeLine v_length v_fault v_faultPlace v_token v_start v_next v_value v_signsTold v_everyTold v_bytes v_draft_pace v_draft_signNumber v_draft_rotorNumber v_draft_signs v_draft_rotorsF = some (r_, v_fault', v_faultPlace', v_token', v_start', v_next', v_value', v_signsTold', v_everyTold', v_draft_pace', v_draft_signNumber', v_draft_rotorNumber', v_draft_signs', v_draft_rotorsF')) : MIS l yX5_takeLine cX5_takeLine 2 .boolean rm_X5_takeLine D (TS cI cB cZ cR cM cS) adK adV [.ref a_this] [(a_this, .inr (5, [.ref a_bytes, .int v_length, .ref a_draft, .int v_fault, .int v_faultPlace, .int v_token, .int v_start, .int v_next, .int v_value, .int v_signsTold, .int v_everyTold])), (a_bytes, .inl (cB, 160, .inl v_bytes)), (a_draft, .inr (0, [.int v_draft_field, .int v_draft_tick, .int v_draft_pace, .int v_draft_signNumber, .int v_draft_rotorNumber, .ref a_draft_signs, .ref a_draft_rotors])), (a_draft_signs, .inl (cI, 16, .inl v_draft_signs)), (a_draft_rotors, rfn cR 4 a_draft_rotors_e), rcell a_draft_rotors_e v_draft_rotorsF 0, rcell a_draft_rotors_e v_draft_rotorsF 1, rcell a_draft_rotors_e v_draft_rotorsF 2, rcell a_draft_rotors_e v_draft_rotorsF 3] [(a_this, .inr (5, [.ref a_bytes, .int v_length, .ref a_draft, .int v_fault', .int v_faultPlace', .int v_token', .int v_start', .int v_next', .int v_value', .int v_signsTold', .int v_everyTold'])), (a_bytes, .inl (cB, 160, .inl v_bytes)), (a_draft, .inr (0, [.int v_draft_field, .int v_draft_tick, .int v_draft_pace', .int v_draft_signNumber', .int v_draft_rotorNumber', .ref a_draft_signs, .ref a_draft_rotors])), (a_draft_signs, .inl (cI, 16, .inl v_draft_signs')), (a_draft_rotors, rfn cR 4 a_draft_rotors_e), rcell a_draft_rotors_e v_draft_rotorsF' 0, rcell a_draft_rotors_e v_draft_rotorsF' 1, rcell a_draft_rotors_e v_draft_rotorsF' 2, rcell a_draft_rotors_e v_draft_rotorsF' 3] r_ :=
  c0_X5_takeLine (res := (r_, v_fault', v_faultPlace', v_token', v_start', v_next', v_value', v_signsTold', v_everyTold', v_draft_pace', v_draft_signNumber', v_draft_rotorNumber', v_draft_signs', v_draft_rotorsF')) hF
def rm_X5_takeLines : Room := { frames := 7, cells := 0, slots := 0, locals := 148 }
theorem cv_X5_takeLines : CV yX5_takeLines cX5_takeLines 2 (some .int) rm_X5_takeLines RX5 0 := ⟨kw1_239, kw2_0, kw1_2, kw2_1, by decide +kernel, rfl, rfl⟩
set_option maxHeartbeats 4000000 in
set_option maxRecDepth 100000 in
theorem b_X5_takeLines_34 {l : Launch} {D : va_G} {cI cB cZ cR cM cS : ClassId} {a_this : Nat} {a_bytes : Nat} {a_draft : Nat} {a_draft_signs : Nat} {a_draft_rotors : Nat} {a_draft_rotors_e : Nat → Nat} {adK adV : Nat → Nat} {p : Program} {e : Env} {s : State} {m : MethodId} {args : Array Value} {below : List Frame} {meth : Method} {c : Code} {A : Nat → Prop} {res : Int32 × Int32 × Int32 × Int32 × Int32 × Int32 × Int32 × Int32 × Int32 × Int32 × Int32 × Int32 × Int32 × Int32 × (Nat → Int32) × (Nat → Rot)} (C : CX p m c cX5_takeLines 2 s args RX5) (hr : meth.sig.returnType = (some .int)) (hlk : meth.locks = false) (hK : KK D (TS cI cB cZ cR cM cS) s) (hQ : SQ adK adV A s s.heap) (hA : ∀ q, s.heap.size ≤ q → A q) : ∀ (fu : Nat) (v_length : Int32) (v_fault : Int32) (v_faultPlace : Int32) (v_token : Int32) (v_start : Int32) (v_next : Int32) (v_value : Int32) (v_signsTold : Int32) (v_everyTold : Int32) (v_bytes : Nat → Int32) (v_draft_field : Int32) (v_draft_tick : Int32) (v_draft_pace : Int32) (v_draft_signNumber : Int32) (v_draft_rotorNumber : Int32) (v_draft_signs : Nat → Int32) (v_draft_rotorsF : Nat → Rot) (x1 : Int32) (H : Heap) (locs : List Loc) (ls : Array Slot), F_X5_takeLines_34 fu v_length v_fault v_faultPlace v_token v_start v_next v_value v_signsTold v_everyTold v_bytes v_draft_field v_draft_tick v_draft_pace v_draft_signNumber v_draft_rotorNumber v_draft_signs v_draft_rotorsF x1 = some res → va_P D vwCl [(a_this, .inr (5, [.ref a_bytes, .int v_length, .ref a_draft, .int v_fault, .int v_faultPlace, .int v_token, .int v_start, .int v_next, .int v_value, .int v_signsTold, .int v_everyTold])), (a_bytes, .inl (cB, 160, .inl v_bytes)), (a_draft, .inr (0, [.int v_draft_field, .int v_draft_tick, .int v_draft_pace, .int v_draft_signNumber, .int v_draft_rotorNumber, .ref a_draft_signs, .ref a_draft_rotors])), (a_draft_signs, .inl (cI, 16, .inl v_draft_signs)), (a_draft_rotors, rfn cR 4 a_draft_rotors_e), rcell a_draft_rotors_e v_draft_rotorsF 0, rcell a_draft_rotors_e v_draft_rotorsF 1, rcell a_draft_rotors_e v_draft_rotorsF 2, rcell a_draft_rotors_e v_draft_rotorsF 3] H → va_D A [(a_this, .inr (5, [.ref a_bytes, .int v_length, .ref a_draft, .int v_fault, .int v_faultPlace, .int v_token, .int v_start, .int v_next, .int v_value, .int v_signsTold, .int v_everyTold])), (a_bytes, .inl (cB, 160, .inl v_bytes)), (a_draft, .inr (0, [.int v_draft_field, .int v_draft_tick, .int v_draft_pace, .int v_draft_signNumber, .int v_draft_rotorNumber, .ref a_draft_signs, .ref a_draft_rotors])), (a_draft_signs, .inl (cI, 16, .inl v_draft_signs)), (a_draft_rotors, rfn cR 4 a_draft_rotors_e), rcell a_draft_rotors_e v_draft_rotorsF 0, rcell a_draft_rotors_e v_draft_rotorsF 1, rcell a_draft_rotors_e v_draft_rotorsF 2, rcell a_draft_rotors_e v_draft_rotorsF 3] → va_S A s.heap H locs → lv_has ls 2 [(0, .ref a_this), (1, .int x1)] → W p l e rm_X5_takeLines s m args below meth c H locs 0 0 (MQ below (va_Qi (fun x (_ : Unit) => x = res.1) (BW D A [(a_this, .inr (5, [.ref a_bytes, .int v_length, .ref a_draft, .int res.2.1, .int res.2.2.1, .int res.2.2.2.1, .int res.2.2.2.2.1, .int res.2.2.2.2.2.1, .int res.2.2.2.2.2.2.1, .int res.2.2.2.2.2.2.2.1, .int res.2.2.2.2.2.2.2.2.1])), (a_bytes, .inl (cB, 160, .inl v_bytes)), (a_draft, .inr (0, [.int res.2.2.2.2.2.2.2.2.2.1, .int res.2.2.2.2.2.2.2.2.2.2.1, .int res.2.2.2.2.2.2.2.2.2.2.2.1, .int res.2.2.2.2.2.2.2.2.2.2.2.2.1, .int res.2.2.2.2.2.2.2.2.2.2.2.2.2.1, .ref a_draft_signs, .ref a_draft_rotors])), (a_draft_signs, .inl (cI, 16, .inl res.2.2.2.2.2.2.2.2.2.2.2.2.2.2.1)), (a_draft_rotors, rfn cR 4 a_draft_rotors_e), rcell a_draft_rotors_e res.2.2.2.2.2.2.2.2.2.2.2.2.2.2.2 0, rcell a_draft_rotors_e res.2.2.2.2.2.2.2.2.2.2.2.2.2.2.2 1, rcell a_draft_rotors_e res.2.2.2.2.2.2.2.2.2.2.2.2.2.2.2 2, rcell a_draft_rotors_e res.2.2.2.2.2.2.2.2.2.2.2.2.2.2.2 3]) A) args s 0 0 A) (F0 m 34 ls []) := by
  intro fu
  induction fu with
  | zero => intro v_length v_fault v_faultPlace v_token v_start v_next v_value v_signsTold v_everyTold v_bytes v_draft_field v_draft_tick v_draft_pace v_draft_signNumber v_draft_rotorNumber v_draft_signs v_draft_rotorsF x1 H locs ls hF; cases hF
  | succ fu ih =>
    intro v_length v_fault v_faultPlace v_token v_start v_next v_value v_signsTold v_everyTold v_bytes v_draft_field v_draft_tick v_draft_pace v_draft_signNumber v_draft_rotorNumber v_draft_signs v_draft_rotorsF x1 H locs ls hF  hP hD hS hl
    unfold F_X5_takeLines_34 at hF
    refine lv_iload_n C.1 C.2.1 dX5_takeLines_34 rfl (lv_at hl 1 rfl) ?_
    refine lv_sipush (v := 160) C.1 C.2.1 dX5_takeLines_35 (by decide) ?_
    refine lv_icmp_gt (tgt := 71) C.1 C.2.1 dX5_takeLines_38 (by decide) (fun c1 => ?_) (fun c1 => ?_)
    · have hF := fp hF c1
      refine lv_iload_n C.1 C.2.1 dX5_takeLines_71 rfl (lv_at hl 1 rfl) ?_
      have hF := Option.some.inj hF
      subst hF
      exact retI C hr hlk hP hD hS dX5_takeLines_72
    · have hF := fn hF c1
      refine lv_aload_n C.1 C.2.1 dX5_takeLines_41 rfl (lv_at hl 0 rfl) ?_
      obtain ⟨⟨r2, w3, w4, w5, w6, w7, w8⟩, h9, hF⟩ := fb hF
      refine callVI C hK hA hP hD hS [0, 1] (c_X5_readToken (a_this := a_this) (a_bytes := a_bytes) (a_draft := a_draft) (v_length := v_length) (v_fault := v_fault) (v_faultPlace := v_faultPlace) (v_token := v_token) (v_start := v_start) (v_next := v_next) (v_value := v_value) (v_signsTold := v_signsTold) (v_everyTold := v_everyTold) (v_bytes := v_bytes) h9) cv_X5_readToken kw2_6 rfl (by decide) rfl rfl rfl ⟨Nat.le_of_ble_eq_true rfl, Nat.le_of_ble_eq_true rfl⟩ ⟨Nat.zero_le _, Nat.zero_le _⟩ hl.1 rfl (Nat.le_of_ble_eq_true rfl) dX5_takeLines_42 (fun H locs hP hD hS => ?_)
      have hP : va_P D vwCl [(a_this, .inr (5, [.ref a_bytes, .int v_length, .ref a_draft, .int w3, .int w4, .int w5, .int w6, .int w7, .int w8, .int v_signsTold, .int v_everyTold])), (a_bytes, .inl (cB, 160, .inl v_bytes)), (a_draft, .inr (0, [.int v_draft_field, .int v_draft_tick, .int v_draft_pace, .int v_draft_signNumber, .int v_draft_rotorNumber, .ref a_draft_signs, .ref a_draft_rotors])), (a_draft_signs, .inl (cI, 16, .inl v_draft_signs)), (a_draft_rotors, rfn cR 4 a_draft_rotors_e), rcell a_draft_rotors_e v_draft_rotorsF 0, rcell a_draft_rotors_e v_draft_rotorsF 1, rcell a_draft_rotors_e v_draft_rotorsF 2, rcell a_draft_rotors_e v_draft_rotorsF 3] H := hP
      have hD : va_D A [(a_this, .inr (5, [.ref a_bytes, .int v_length, .ref a_draft, .int w3, .int w4, .int w5, .int w6, .int w7, .int w8, .int v_signsTold, .int v_everyTold])), (a_bytes, .inl (cB, 160, .inl v_bytes)), (a_draft, .inr (0, [.int v_draft_field, .int v_draft_tick, .int v_draft_pace, .int v_draft_signNumber, .int v_draft_rotorNumber, .ref a_draft_signs, .ref a_draft_rotors])), (a_draft_signs, .inl (cI, 16, .inl v_draft_signs)), (a_draft_rotors, rfn cR 4 a_draft_rotors_e), rcell a_draft_rotors_e v_draft_rotorsF 0, rcell a_draft_rotors_e v_draft_rotorsF 1, rcell a_draft_rotors_e v_draft_rotorsF 2, rcell a_draft_rotors_e v_draft_rotorsF 3] := hD
      refine lv_if_eq (tgt := 71) C.1 C.2.1 dX5_takeLines_45 (by decide) (fun c10 => ?_) (fun c10 => ?_)
      · have hF := fp hF c10
        refine lv_iload_n C.1 C.2.1 dX5_takeLines_71 rfl (lv_at hl 1 rfl) ?_
        have hF := Option.some.inj hF
        subst hF
        exact retI C hr hlk hP hD hS dX5_takeLines_72
      · have hF := fn hF c10
        refine lv_aload_n C.1 C.2.1 dX5_takeLines_48 rfl (lv_at hl 0 rfl) ?_
        refine gf_5_5_token C hK hP 0 rfl rfl dX5_takeLines_49 ?_
        refine lv_if_eq (tgt := 71) C.1 C.2.1 dX5_takeLines_52 (by decide) (fun c11 => ?_) (fun c11 => ?_)
        · have hF := fp hF c11
          refine lv_iload_n C.1 C.2.1 dX5_takeLines_71 rfl (lv_at hl 1 rfl) ?_
          have hF := Option.some.inj hF
          subst hF
          exact retI C hr hlk hP hD hS dX5_takeLines_72
        · have hF := fn hF c11
          refine lv_aload_n C.1 C.2.1 dX5_takeLines_55 rfl (lv_at hl 0 rfl) ?_
          obtain ⟨⟨r12, w13, w14, w15, w16, w17, w18, w19, w20, w21, w22, w23, w24, w25⟩, h26, hF⟩ := fb hF
          refine callVIS C hK hQ hA hP hD hS [0, 1, 2, 3, 4, 5, 6, 7, 8] (c_X5_takeLine (a_this := a_this) (a_bytes := a_bytes) (a_draft := a_draft) (a_draft_signs := a_draft_signs) (a_draft_rotors := a_draft_rotors) (a_draft_rotors_e := a_draft_rotors_e) (v_length := v_length) (v_fault := w3) (v_faultPlace := w4) (v_token := w5) (v_start := w6) (v_next := w7) (v_value := w8) (v_signsTold := v_signsTold) (v_everyTold := v_everyTold) (v_bytes := v_bytes) (v_draft_field := v_draft_field) (v_draft_tick := v_draft_tick) (v_draft_pace := v_draft_pace) (v_draft_signNumber := v_draft_signNumber) (v_draft_rotorNumber := v_draft_rotorNumber) (v_draft_signs := v_draft_signs) (v_draft_rotorsF := v_draft_rotorsF) h26) cv_X5_takeLine kw2_22 (va_recv hK.1 hP (ci := 5) (q0 := 0) rfl rfl) rfl (by decide) rfl ⟨Nat.le_of_ble_eq_true rfl, Nat.le_of_ble_eq_true rfl⟩ ⟨Nat.zero_le _, Nat.zero_le _⟩ hl.1 rfl (Nat.le_of_ble_eq_true rfl) dX5_takeLines_56 (fun H locs hP hD hS => ?_)
          have hP : va_P D vwCl [(a_this, .inr (5, [.ref a_bytes, .int v_length, .ref a_draft, .int w13, .int w14, .int w15, .int w16, .int w17, .int w18, .int w19, .int w20])), (a_bytes, .inl (cB, 160, .inl v_bytes)), (a_draft, .inr (0, [.int v_draft_field, .int v_draft_tick, .int w21, .int w22, .int w23, .ref a_draft_signs, .ref a_draft_rotors])), (a_draft_signs, .inl (cI, 16, .inl w24)), (a_draft_rotors, rfn cR 4 a_draft_rotors_e), rcell a_draft_rotors_e w25 0, rcell a_draft_rotors_e w25 1, rcell a_draft_rotors_e w25 2, rcell a_draft_rotors_e w25 3] H := hP
          have hD : va_D A [(a_this, .inr (5, [.ref a_bytes, .int v_length, .ref a_draft, .int w13, .int w14, .int w15, .int w16, .int w17, .int w18, .int w19, .int w20])), (a_bytes, .inl (cB, 160, .inl v_bytes)), (a_draft, .inr (0, [.int v_draft_field, .int v_draft_tick, .int w21, .int w22, .int w23, .ref a_draft_signs, .ref a_draft_rotors])), (a_draft_signs, .inl (cI, 16, .inl w24)), (a_draft_rotors, rfn cR 4 a_draft_rotors_e), rcell a_draft_rotors_e w25 0, rcell a_draft_rotors_e w25 1, rcell a_draft_rotors_e w25 2, rcell a_draft_rotors_e w25 3] := hD
          refine lv_if_ne (tgt := 65) C.1 C.2.1 dX5_takeLines_59 (by decide) (fun c27 => ?_) (fun c27 => ?_)
          · have hF := fn hF c27
            refine lv_iinc (v := x1 + 1) (lv' := [(1, .int (x1 + 1)), (0, .ref a_this)]) C.1 C.2.1 dX5_takeLines_65 hl (k := 1) rfl rfl (by decide) rfl (fun ls hl => ?_)
            refine lv_goto (tgt := 34) C.1 C.2.1 dX5_takeLines_68 (by decide) ?_
            exact ih v_length w13 w14 w15 w16 w17 w18 w19 w20 v_bytes v_draft_field v_draft_tick w21 w22 w23 w24 w25 (x1 + 1) _ _ _ hF hP hD hS (lv_sub hl [1, 0] rfl)
          · have hF := fp hF c27
            refine lv_goto (tgt := 71) C.1 C.2.1 dX5_takeLines_62 (by decide) ?_
            refine lv_iload_n C.1 C.2.1 dX5_takeLines_71 rfl (lv_at hl 1 rfl) ?_
            have hF := Option.some.inj hF
            subst hF
            exact retI C hr hlk hP hD hS dX5_takeLines_72
set_option maxHeartbeats 4000000 in
set_option maxRecDepth 100000 in
theorem c0_X5_takeLines {l : Launch} {D : va_G} {cI cB cZ cR cM cS : ClassId} {a_this : Nat} {a_bytes : Nat} {a_draft : Nat} {a_draft_signs : Nat} {a_draft_rotors : Nat} {a_draft_rotors_e : Nat → Nat} {adK adV : Nat → Nat} {v_length : Int32} {v_fault : Int32} {v_faultPlace : Int32} {v_token : Int32} {v_start : Int32} {v_next : Int32} {v_value : Int32} {v_signsTold : Int32} {v_everyTold : Int32} {v_bytes : Nat → Int32} {v_draft_field : Int32} {v_draft_tick : Int32} {v_draft_pace : Int32} {v_draft_signNumber : Int32} {v_draft_rotorNumber : Int32} {v_draft_signs : Nat → Int32} {v_draft_rotorsF : Nat → Rot} {res : Int32 × Int32 × Int32 × Int32 × Int32 × Int32 × Int32 × Int32 × Int32 × Int32 × Int32 × Int32 × Int32 × Int32 × (Nat → Int32) × (Nat → Rot)} (hF : F_X5_takeLines v_length v_fault v_faultPlace v_token v_start v_next v_value v_signsTold v_everyTold v_bytes v_draft_field v_draft_tick v_draft_pace v_draft_signNumber v_draft_rotorNumber v_draft_signs v_draft_rotorsF = some res) : MIS l yX5_takeLines cX5_takeLines 2 .int rm_X5_takeLines D (TS cI cB cZ cR cM cS) adK adV [.ref a_this] [(a_this, .inr (5, [.ref a_bytes, .int v_length, .ref a_draft, .int v_fault, .int v_faultPlace, .int v_token, .int v_start, .int v_next, .int v_value, .int v_signsTold, .int v_everyTold])), (a_bytes, .inl (cB, 160, .inl v_bytes)), (a_draft, .inr (0, [.int v_draft_field, .int v_draft_tick, .int v_draft_pace, .int v_draft_signNumber, .int v_draft_rotorNumber, .ref a_draft_signs, .ref a_draft_rotors])), (a_draft_signs, .inl (cI, 16, .inl v_draft_signs)), (a_draft_rotors, rfn cR 4 a_draft_rotors_e), rcell a_draft_rotors_e v_draft_rotorsF 0, rcell a_draft_rotors_e v_draft_rotorsF 1, rcell a_draft_rotors_e v_draft_rotorsF 2, rcell a_draft_rotors_e v_draft_rotorsF 3] [(a_this, .inr (5, [.ref a_bytes, .int v_length, .ref a_draft, .int res.2.1, .int res.2.2.1, .int res.2.2.2.1, .int res.2.2.2.2.1, .int res.2.2.2.2.2.1, .int res.2.2.2.2.2.2.1, .int res.2.2.2.2.2.2.2.1, .int res.2.2.2.2.2.2.2.2.1])), (a_bytes, .inl (cB, 160, .inl v_bytes)), (a_draft, .inr (0, [.int res.2.2.2.2.2.2.2.2.2.1, .int res.2.2.2.2.2.2.2.2.2.2.1, .int res.2.2.2.2.2.2.2.2.2.2.2.1, .int res.2.2.2.2.2.2.2.2.2.2.2.2.1, .int res.2.2.2.2.2.2.2.2.2.2.2.2.2.1, .ref a_draft_signs, .ref a_draft_rotors])), (a_draft_signs, .inl (cI, 16, .inl res.2.2.2.2.2.2.2.2.2.2.2.2.2.2.1)), (a_draft_rotors, rfn cR 4 a_draft_rotors_e), rcell a_draft_rotors_e res.2.2.2.2.2.2.2.2.2.2.2.2.2.2.2 0, rcell a_draft_rotors_e res.2.2.2.2.2.2.2.2.2.2.2.2.2.2.2 1, rcell a_draft_rotors_e res.2.2.2.2.2.2.2.2.2.2.2.2.2.2.2 2, rcell a_draft_rotors_e res.2.2.2.2.2.2.2.2.2.2.2.2.2.2.2 3] res.1 :=
  MIS_of (by decide) (Nat.le_of_ble_eq_true rfl) (fun p e s m args below meth c A ls C hr hlk hK hQ hA hP hD hS hl => by
    have C : CX p m c cX5_takeLines 2 s args RX5 := C
    have hl : lv_has ls 2 [(0, .ref a_this)] := hl
    unfold F_X5_takeLines at hF
    refine lv_aload_n C.1 C.2.1 dX5_takeLines_0 rfl (lv_at hl 0 rfl) ?_
    refine gf_5_5_draft C hK hP 0 rfl rfl dX5_takeLines_1 ?_
    obtain ⟨⟨w1, w2, w3, w4, w5⟩, h6, hF⟩ := fb hF
    refine callVV C hK hA hP hD hS [2] (c_X0_clear (a_this := a_draft) (a_signs := a_draft_signs) (a_rotors := a_draft_rotors) (v_field := v_draft_field) (v_tick := v_draft_tick) (v_pace := v_draft_pace) (v_signNumber := v_draft_signNumber) (v_rotorNumber := v_draft_rotorNumber) h6) cv_X0_clear kw2_2 rfl (by decide) rfl rfl rfl ⟨Nat.le_of_ble_eq_true rfl, Nat.le_of_ble_eq_true rfl⟩ ⟨Nat.zero_le _, Nat.zero_le _⟩ hl.1 rfl (Nat.le_of_ble_eq_true rfl) dX5_takeLines_4 (fun H locs hP hD hS => ?_)
    have hP : va_P D vwCl [(a_this, .inr (5, [.ref a_bytes, .int v_length, .ref a_draft, .int v_fault, .int v_faultPlace, .int v_token, .int v_start, .int v_next, .int v_value, .int v_signsTold, .int v_everyTold])), (a_bytes, .inl (cB, 160, .inl v_bytes)), (a_draft, .inr (0, [.int w1, .int w2, .int w3, .int w4, .int w5, .ref a_draft_signs, .ref a_draft_rotors])), (a_draft_signs, .inl (cI, 16, .inl v_draft_signs)), (a_draft_rotors, rfn cR 4 a_draft_rotors_e), rcell a_draft_rotors_e v_draft_rotorsF 0, rcell a_draft_rotors_e v_draft_rotorsF 1, rcell a_draft_rotors_e v_draft_rotorsF 2, rcell a_draft_rotors_e v_draft_rotorsF 3] H := hP
    have hD : va_D A [(a_this, .inr (5, [.ref a_bytes, .int v_length, .ref a_draft, .int v_fault, .int v_faultPlace, .int v_token, .int v_start, .int v_next, .int v_value, .int v_signsTold, .int v_everyTold])), (a_bytes, .inl (cB, 160, .inl v_bytes)), (a_draft, .inr (0, [.int w1, .int w2, .int w3, .int w4, .int w5, .ref a_draft_signs, .ref a_draft_rotors])), (a_draft_signs, .inl (cI, 16, .inl v_draft_signs)), (a_draft_rotors, rfn cR 4 a_draft_rotors_e), rcell a_draft_rotors_e v_draft_rotorsF 0, rcell a_draft_rotors_e v_draft_rotorsF 1, rcell a_draft_rotors_e v_draft_rotorsF 2, rcell a_draft_rotors_e v_draft_rotorsF 3] := hD
    refine lv_aload_n C.1 C.2.1 dX5_takeLines_7 rfl (lv_at hl 0 rfl) ?_
    refine lv_iconst (v := 0) C.1 C.2.1 dX5_takeLines_8 (by decide) ?_
    refine pf_5_5_fault C hK hP hD hS 0 rfl rfl dX5_takeLines_9 (fun H locs hP hD hS => ?_)
    have hP : va_P D vwCl [(a_this, .inr (5, [.ref a_bytes, .int v_length, .ref a_draft, .int (0 : Int32), .int v_faultPlace, .int v_token, .int v_start, .int v_next, .int v_value, .int v_signsTold, .int v_everyTold])), (a_bytes, .inl (cB, 160, .inl v_bytes)), (a_draft, .inr (0, [.int w1, .int w2, .int w3, .int w4, .int w5, .ref a_draft_signs, .ref a_draft_rotors])), (a_draft_signs, .inl (cI, 16, .inl v_draft_signs)), (a_draft_rotors, rfn cR 4 a_draft_rotors_e), rcell a_draft_rotors_e v_draft_rotorsF 0, rcell a_draft_rotors_e v_draft_rotorsF 1, rcell a_draft_rotors_e v_draft_rotorsF 2, rcell a_draft_rotors_e v_draft_rotorsF 3] H := hP
    have hD : va_D A [(a_this, .inr (5, [.ref a_bytes, .int v_length, .ref a_draft, .int (0 : Int32), .int v_faultPlace, .int v_token, .int v_start, .int v_next, .int v_value, .int v_signsTold, .int v_everyTold])), (a_bytes, .inl (cB, 160, .inl v_bytes)), (a_draft, .inr (0, [.int w1, .int w2, .int w3, .int w4, .int w5, .ref a_draft_signs, .ref a_draft_rotors])), (a_draft_signs, .inl (cI, 16, .inl v_draft_signs)), (a_draft_rotors, rfn cR 4 a_draft_rotors_e), rcell a_draft_rotors_e v_draft_rotorsF 0, rcell a_draft_rotors_e v_draft_rotorsF 1, rcell a_draft_rotors_e v_draft_rotorsF 2, rcell a_draft_rotors_e v_draft_rotorsF 3] := hD
    refine lv_aload_n C.1 C.2.1 dX5_takeLines_12 rfl (lv_at hl 0 rfl) ?_
    refine lv_iconst (v := 0) C.1 C.2.1 dX5_takeLines_13 (by decide) ?_
    refine pf_5_5_faultPlace C hK hP hD hS 0 rfl rfl dX5_takeLines_14 (fun H locs hP hD hS => ?_)
    have hP : va_P D vwCl [(a_this, .inr (5, [.ref a_bytes, .int v_length, .ref a_draft, .int (0 : Int32), .int (0 : Int32), .int v_token, .int v_start, .int v_next, .int v_value, .int v_signsTold, .int v_everyTold])), (a_bytes, .inl (cB, 160, .inl v_bytes)), (a_draft, .inr (0, [.int w1, .int w2, .int w3, .int w4, .int w5, .ref a_draft_signs, .ref a_draft_rotors])), (a_draft_signs, .inl (cI, 16, .inl v_draft_signs)), (a_draft_rotors, rfn cR 4 a_draft_rotors_e), rcell a_draft_rotors_e v_draft_rotorsF 0, rcell a_draft_rotors_e v_draft_rotorsF 1, rcell a_draft_rotors_e v_draft_rotorsF 2, rcell a_draft_rotors_e v_draft_rotorsF 3] H := hP
    have hD : va_D A [(a_this, .inr (5, [.ref a_bytes, .int v_length, .ref a_draft, .int (0 : Int32), .int (0 : Int32), .int v_token, .int v_start, .int v_next, .int v_value, .int v_signsTold, .int v_everyTold])), (a_bytes, .inl (cB, 160, .inl v_bytes)), (a_draft, .inr (0, [.int w1, .int w2, .int w3, .int w4, .int w5, .ref a_draft_signs, .ref a_draft_rotors])), (a_draft_signs, .inl (cI, 16, .inl v_draft_signs)), (a_draft_rotors, rfn cR 4 a_draft_rotors_e), rcell a_draft_rotors_e v_draft_rotorsF 0, rcell a_draft_rotors_e v_draft_rotorsF 1, rcell a_draft_rotors_e v_draft_rotorsF 2, rcell a_draft_rotors_e v_draft_rotorsF 3] := hD
    refine lv_aload_n C.1 C.2.1 dX5_takeLines_17 rfl (lv_at hl 0 rfl) ?_
    refine lv_iconst (v := 0) C.1 C.2.1 dX5_takeLines_18 (by decide) ?_
    refine pf_5_5_next C hK hP hD hS 0 rfl rfl dX5_takeLines_19 (fun H locs hP hD hS => ?_)
    have hP : va_P D vwCl [(a_this, .inr (5, [.ref a_bytes, .int v_length, .ref a_draft, .int (0 : Int32), .int (0 : Int32), .int v_token, .int v_start, .int (0 : Int32), .int v_value, .int v_signsTold, .int v_everyTold])), (a_bytes, .inl (cB, 160, .inl v_bytes)), (a_draft, .inr (0, [.int w1, .int w2, .int w3, .int w4, .int w5, .ref a_draft_signs, .ref a_draft_rotors])), (a_draft_signs, .inl (cI, 16, .inl v_draft_signs)), (a_draft_rotors, rfn cR 4 a_draft_rotors_e), rcell a_draft_rotors_e v_draft_rotorsF 0, rcell a_draft_rotors_e v_draft_rotorsF 1, rcell a_draft_rotors_e v_draft_rotorsF 2, rcell a_draft_rotors_e v_draft_rotorsF 3] H := hP
    have hD : va_D A [(a_this, .inr (5, [.ref a_bytes, .int v_length, .ref a_draft, .int (0 : Int32), .int (0 : Int32), .int v_token, .int v_start, .int (0 : Int32), .int v_value, .int v_signsTold, .int v_everyTold])), (a_bytes, .inl (cB, 160, .inl v_bytes)), (a_draft, .inr (0, [.int w1, .int w2, .int w3, .int w4, .int w5, .ref a_draft_signs, .ref a_draft_rotors])), (a_draft_signs, .inl (cI, 16, .inl v_draft_signs)), (a_draft_rotors, rfn cR 4 a_draft_rotors_e), rcell a_draft_rotors_e v_draft_rotorsF 0, rcell a_draft_rotors_e v_draft_rotorsF 1, rcell a_draft_rotors_e v_draft_rotorsF 2, rcell a_draft_rotors_e v_draft_rotorsF 3] := hD
    refine lv_aload_n C.1 C.2.1 dX5_takeLines_22 rfl (lv_at hl 0 rfl) ?_
    refine lv_iconst (v := 0) C.1 C.2.1 dX5_takeLines_23 (by decide) ?_
    refine pf_5_5_signsTold C hK hP hD hS 0 rfl rfl (by decide) dX5_takeLines_24 (fun H locs hP hD hS => ?_)
    have hP : va_P D vwCl [(a_this, .inr (5, [.ref a_bytes, .int v_length, .ref a_draft, .int (0 : Int32), .int (0 : Int32), .int v_token, .int v_start, .int (0 : Int32), .int v_value, .int (0 : Int32), .int v_everyTold])), (a_bytes, .inl (cB, 160, .inl v_bytes)), (a_draft, .inr (0, [.int w1, .int w2, .int w3, .int w4, .int w5, .ref a_draft_signs, .ref a_draft_rotors])), (a_draft_signs, .inl (cI, 16, .inl v_draft_signs)), (a_draft_rotors, rfn cR 4 a_draft_rotors_e), rcell a_draft_rotors_e v_draft_rotorsF 0, rcell a_draft_rotors_e v_draft_rotorsF 1, rcell a_draft_rotors_e v_draft_rotorsF 2, rcell a_draft_rotors_e v_draft_rotorsF 3] H := hP
    have hD : va_D A [(a_this, .inr (5, [.ref a_bytes, .int v_length, .ref a_draft, .int (0 : Int32), .int (0 : Int32), .int v_token, .int v_start, .int (0 : Int32), .int v_value, .int (0 : Int32), .int v_everyTold])), (a_bytes, .inl (cB, 160, .inl v_bytes)), (a_draft, .inr (0, [.int w1, .int w2, .int w3, .int w4, .int w5, .ref a_draft_signs, .ref a_draft_rotors])), (a_draft_signs, .inl (cI, 16, .inl v_draft_signs)), (a_draft_rotors, rfn cR 4 a_draft_rotors_e), rcell a_draft_rotors_e v_draft_rotorsF 0, rcell a_draft_rotors_e v_draft_rotorsF 1, rcell a_draft_rotors_e v_draft_rotorsF 2, rcell a_draft_rotors_e v_draft_rotorsF 3] := hD
    refine lv_aload_n C.1 C.2.1 dX5_takeLines_27 rfl (lv_at hl 0 rfl) ?_
    refine lv_iconst (v := 0) C.1 C.2.1 dX5_takeLines_28 (by decide) ?_
    refine pf_5_5_everyTold C hK hP hD hS 0 rfl rfl (by decide) dX5_takeLines_29 (fun H locs hP hD hS => ?_)
    have hP : va_P D vwCl [(a_this, .inr (5, [.ref a_bytes, .int v_length, .ref a_draft, .int (0 : Int32), .int (0 : Int32), .int v_token, .int v_start, .int (0 : Int32), .int v_value, .int (0 : Int32), .int (0 : Int32)])), (a_bytes, .inl (cB, 160, .inl v_bytes)), (a_draft, .inr (0, [.int w1, .int w2, .int w3, .int w4, .int w5, .ref a_draft_signs, .ref a_draft_rotors])), (a_draft_signs, .inl (cI, 16, .inl v_draft_signs)), (a_draft_rotors, rfn cR 4 a_draft_rotors_e), rcell a_draft_rotors_e v_draft_rotorsF 0, rcell a_draft_rotors_e v_draft_rotorsF 1, rcell a_draft_rotors_e v_draft_rotorsF 2, rcell a_draft_rotors_e v_draft_rotorsF 3] H := hP
    have hD : va_D A [(a_this, .inr (5, [.ref a_bytes, .int v_length, .ref a_draft, .int (0 : Int32), .int (0 : Int32), .int v_token, .int v_start, .int (0 : Int32), .int v_value, .int (0 : Int32), .int (0 : Int32)])), (a_bytes, .inl (cB, 160, .inl v_bytes)), (a_draft, .inr (0, [.int w1, .int w2, .int w3, .int w4, .int w5, .ref a_draft_signs, .ref a_draft_rotors])), (a_draft_signs, .inl (cI, 16, .inl v_draft_signs)), (a_draft_rotors, rfn cR 4 a_draft_rotors_e), rcell a_draft_rotors_e v_draft_rotorsF 0, rcell a_draft_rotors_e v_draft_rotorsF 1, rcell a_draft_rotors_e v_draft_rotorsF 2, rcell a_draft_rotors_e v_draft_rotorsF 3] := hD
    refine lv_iconst (v := 0) C.1 C.2.1 dX5_takeLines_32 (by decide) ?_
    refine lv_istore_n (lv' := [(1, .int (0 : Int32)), (0, .ref a_this)]) C.1 C.2.1 dX5_takeLines_33 rfl hl (by decide) rfl (fun ls hl => ?_)
    exact b_X5_takeLines_34 C hr hlk hK hQ hA FU v_length (0 : Int32) (0 : Int32) v_token v_start (0 : Int32) v_value (0 : Int32) (0 : Int32) v_bytes w1 w2 w3 w4 w5 v_draft_signs v_draft_rotorsF (0 : Int32) _ _ _ hF hP hD hS (lv_sub hl [1, 0] rfl))
theorem c_X5_takeLines {l : Launch} {D : va_G} {cI cB cZ cR cM cS : ClassId} {a_this : Nat} {a_bytes : Nat} {a_draft : Nat} {a_draft_signs : Nat} {a_draft_rotors : Nat} {a_draft_rotors_e : Nat → Nat} {adK adV : Nat → Nat} {v_length : Int32} {v_fault : Int32} {v_faultPlace : Int32} {v_token : Int32} {v_start : Int32} {v_next : Int32} {v_value : Int32} {v_signsTold : Int32} {v_everyTold : Int32} {v_bytes : Nat → Int32} {v_draft_field : Int32} {v_draft_tick : Int32} {v_draft_pace : Int32} {v_draft_signNumber : Int32} {v_draft_rotorNumber : Int32} {v_draft_signs : Nat → Int32} {v_draft_rotorsF : Nat → Rot} {r_ : Int32} {v_fault' : Int32} {v_faultPlace' : Int32} {v_token' : Int32} {v_start' : Int32} {v_next' : Int32} {v_value' : Int32} {v_signsTold' : Int32} {v_everyTold' : Int32} {v_draft_field' : Int32} {v_draft_tick' : Int32} {v_draft_pace' : Int32} {v_draft_signNumber' : Int32} {v_draft_rotorNumber' : Int32} {v_draft_signs' : Nat → Int32} {v_draft_rotorsF' : Nat → Rot} (hF : F_X5_takeLines v_length v_fault v_faultPlace v_token v_start v_next v_value v_signsTold v_everyTold v_bytes v_draft_field v_draft_tick v_draft_pace v_draft_signNumber v_draft_rotorNumber v_draft_signs v_draft_rotorsF = some (r_, v_fault', v_faultPlace', v_token', v_start', v_next', v_value', v_signsTold', v_everyTold', v_draft_field', v_draft_tick', v_draft_pace', v_draft_signNumber', v_draft_rotorNumber', v_draft_signs', v_draft_rotorsF')) : MIS l yX5_takeLines cX5_takeLines 2 .int rm_X5_takeLines D (TS cI cB cZ cR cM cS) adK adV [.ref a_this] [(a_this, .inr (5, [.ref a_bytes, .int v_length, .ref a_draft, .int v_fault, .int v_faultPlace, .int v_token, .int v_start, .int v_next, .int v_value, .int v_signsTold, .int v_everyTold])), (a_bytes, .inl (cB, 160, .inl v_bytes)), (a_draft, .inr (0, [.int v_draft_field, .int v_draft_tick, .int v_draft_pace, .int v_draft_signNumber, .int v_draft_rotorNumber, .ref a_draft_signs, .ref a_draft_rotors])), (a_draft_signs, .inl (cI, 16, .inl v_draft_signs)), (a_draft_rotors, rfn cR 4 a_draft_rotors_e), rcell a_draft_rotors_e v_draft_rotorsF 0, rcell a_draft_rotors_e v_draft_rotorsF 1, rcell a_draft_rotors_e v_draft_rotorsF 2, rcell a_draft_rotors_e v_draft_rotorsF 3] [(a_this, .inr (5, [.ref a_bytes, .int v_length, .ref a_draft, .int v_fault', .int v_faultPlace', .int v_token', .int v_start', .int v_next', .int v_value', .int v_signsTold', .int v_everyTold'])), (a_bytes, .inl (cB, 160, .inl v_bytes)), (a_draft, .inr (0, [.int v_draft_field', .int v_draft_tick', .int v_draft_pace', .int v_draft_signNumber', .int v_draft_rotorNumber', .ref a_draft_signs, .ref a_draft_rotors])), (a_draft_signs, .inl (cI, 16, .inl v_draft_signs')), (a_draft_rotors, rfn cR 4 a_draft_rotors_e), rcell a_draft_rotors_e v_draft_rotorsF' 0, rcell a_draft_rotors_e v_draft_rotorsF' 1, rcell a_draft_rotors_e v_draft_rotorsF' 2, rcell a_draft_rotors_e v_draft_rotorsF' 3] r_ :=
  c0_X5_takeLines (res := (r_, v_fault', v_faultPlace', v_token', v_start', v_next', v_value', v_signsTold', v_everyTold', v_draft_field', v_draft_tick', v_draft_pace', v_draft_signNumber', v_draft_rotorNumber', v_draft_signs', v_draft_rotorsF')) hF
