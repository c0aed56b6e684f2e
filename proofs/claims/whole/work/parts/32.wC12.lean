def rm_X6_read : Room := { frames := 2, cells := 0, slots := 0, locals := 44 }
theorem cv_X6_read : CV yX6_read cX6_read 10 (some .int) rm_X6_read RX6 4 := ⟨kw3_187, kw3_188, kw1_1, kw3_189, by decide +kernel, rfl, rfl⟩
set_option maxHeartbeats 4000000 in
set_option maxRecDepth 100000 in
theorem b_X6_read_115 {l : Launch} {D : va_G} {cI cB cZ cR cM cS : ClassId} {a_this : Nat} {a_tape : Nat} {a_now : Nat} {a_trial : Nat} {a_sights : Nat} {a_images : Nat} {a_sheets : Nat} {a_now_signs : Nat} {a_now_rotors : Nat} {a_sheets_e : Nat → Nat} {a_sheets_c : Nat → Nat} {v_now_field : Int32} {v_now_tick : Int32} {v_now_pace : Int32} {v_now_rotorNumber : Int32} {p : Program} {e : Env} {s : State} {m : MethodId} {args : Array Value} {below : List Frame} {meth : Method} {c : Code} {A : Nat → Prop} {res : Int32 × Int32 × (Nat → Int32)} (C : CX p m c cX6_read 10 s args RX6) (hr : meth.sig.returnType = (some .int)) (hlk : meth.locks = false) (hK : KK D (TS cI cB cZ cR cM cS) s) (hA : ∀ q, s.heap.size ≤ q → A q) : ∀ (fu : Nat) (v_readFault : Int32) (v_now_signNumber : Int32) (v_now_signs : Nat → Int32) (v_sheetsF : Nat → Sht) (x3 : Int32) (k5 : Nat) (x6 : Int32) (x7 : Int32) (x8 : Int32) (H : Heap) (locs : List Loc) (ls : Array Slot), F_X6_read_115 fu v_readFault v_now_signNumber v_now_signs v_sheetsF x3 k5 x6 x7 x8 = some res → k5 < 4 → va_P D vwCl [(a_this, .inr (6, [.ref a_tape, .ref a_now, .ref a_trial, .ref a_sights, .ref a_images, .ref a_sheets, .int v_readFault])), (a_now, .inr (0, [.int v_now_field, .int v_now_tick, .int v_now_pace, .int v_now_signNumber, .int v_now_rotorNumber, .ref a_now_signs, .ref a_now_rotors])), (a_now_signs, .inl (cI, 16, .inl v_now_signs)), (a_sheets, rfn cS 4 a_sheets_e), scell a_sheets_e a_sheets_c v_sheetsF 0, scell a_sheets_e a_sheets_c v_sheetsF 1, scell a_sheets_e a_sheets_c v_sheetsF 2, scell a_sheets_e a_sheets_c v_sheetsF 3, sarr cI a_sheets_c v_sheetsF 0, sarr cI a_sheets_c v_sheetsF 1, sarr cI a_sheets_c v_sheetsF 2, sarr cI a_sheets_c v_sheetsF 3] H → va_D A [(a_this, .inr (6, [.ref a_tape, .ref a_now, .ref a_trial, .ref a_sights, .ref a_images, .ref a_sheets, .int v_readFault])), (a_now, .inr (0, [.int v_now_field, .int v_now_tick, .int v_now_pace, .int v_now_signNumber, .int v_now_rotorNumber, .ref a_now_signs, .ref a_now_rotors])), (a_now_signs, .inl (cI, 16, .inl v_now_signs)), (a_sheets, rfn cS 4 a_sheets_e), scell a_sheets_e a_sheets_c v_sheetsF 0, scell a_sheets_e a_sheets_c v_sheetsF 1, scell a_sheets_e a_sheets_c v_sheetsF 2, scell a_sheets_e a_sheets_c v_sheetsF 3, sarr cI a_sheets_c v_sheetsF 0, sarr cI a_sheets_c v_sheetsF 1, sarr cI a_sheets_c v_sheetsF 2, sarr cI a_sheets_c v_sheetsF 3] → va_S A s.heap H locs → lv_has ls 10 [(0, .ref a_this), (3, .int x3), (5, .ref (a_sheets_e k5)), (6, .int x6), (7, .int x7), (8, .int x8)] → W p l e rm_X6_read s m args below meth c H locs 0 0 (MQ below (va_Qi (fun x (_ : Unit) => x = res.1) (BW D A [(a_this, .inr (6, [.ref a_tape, .ref a_now, .ref a_trial, .ref a_sights, .ref a_images, .ref a_sheets, .int res.2.1])), (a_now, .inr (0, [.int v_now_field, .int v_now_tick, .int v_now_pace, .int v_now_signNumber, .int v_now_rotorNumber, .ref a_now_signs, .ref a_now_rotors])), (a_now_signs, .inl (cI, 16, .inl res.2.2)), (a_sheets, rfn cS 4 a_sheets_e), scell a_sheets_e a_sheets_c v_sheetsF 0, scell a_sheets_e a_sheets_c v_sheetsF 1, scell a_sheets_e a_sheets_c v_sheetsF 2, scell a_sheets_e a_sheets_c v_sheetsF 3, sarr cI a_sheets_c v_sheetsF 0, sarr cI a_sheets_c v_sheetsF 1, sarr cI a_sheets_c v_sheetsF 2, sarr cI a_sheets_c v_sheetsF 3]) A) args s 0 0 A) (F0 m 115 ls []) := by
  intro fu
  induction fu with
  | zero => intro v_readFault v_now_signNumber v_now_signs v_sheetsF x3 k5 x6 x7 x8 H locs ls hF; cases hF
  | succ fu ih =>
    intro v_readFault v_now_signNumber v_now_signs v_sheetsF x3 k5 x6 x7 x8 H locs ls hF hk_5 hP hD hS hl
    unfold F_X6_read_115 at hF
    refine lv_iload C.1 C.2.1 dX6_read_115 (lv_at hl 5 rfl) ?_
    refine lv_iload C.1 C.2.1 dX6_read_117 (lv_at hl 3 rfl) ?_
    refine lv_icmp_ge (tgt := 162) C.1 C.2.1 dX6_read_119 (by decide) (fun c1 => ?_) (fun c1 => ?_)
    · have hF := fp hF c1
      refine lv_aload_n C.1 C.2.1 dX6_read_162 rfl (lv_at hl 0 rfl) ?_
      refine lv_iload C.1 C.2.1 dX6_read_163 (lv_at hl 4 rfl) ?_
      refine pf_6_6_readFault C hK hP hD hS 0 rfl rfl dX6_read_165 (fun H locs hP hD hS => ?_)
      have hP : va_P D vwCl [(a_this, .inr (6, [.ref a_tape, .ref a_now, .ref a_trial, .ref a_sights, .ref a_images, .ref a_sheets, .int x7])), (a_now, .inr (0, [.int v_now_field, .int v_now_tick, .int v_now_pace, .int v_now_signNumber, .int v_now_rotorNumber, .ref a_now_signs, .ref a_now_rotors])), (a_now_signs, .inl (cI, 16, .inl v_now_signs)), (a_sheets, rfn cS 4 a_sheets_e), scell a_sheets_e a_sheets_c v_sheetsF 0, scell a_sheets_e a_sheets_c v_sheetsF 1, scell a_sheets_e a_sheets_c v_sheetsF 2, scell a_sheets_e a_sheets_c v_sheetsF 3, sarr cI a_sheets_c v_sheetsF 0, sarr cI a_sheets_c v_sheetsF 1, sarr cI a_sheets_c v_sheetsF 2, sarr cI a_sheets_c v_sheetsF 3] H := hP
      have hD : va_D A [(a_this, .inr (6, [.ref a_tape, .ref a_now, .ref a_trial, .ref a_sights, .ref a_images, .ref a_sheets, .int x7])), (a_now, .inr (0, [.int v_now_field, .int v_now_tick, .int v_now_pace, .int v_now_signNumber, .int v_now_rotorNumber, .ref a_now_signs, .ref a_now_rotors])), (a_now_signs, .inl (cI, 16, .inl v_now_signs)), (a_sheets, rfn cS 4 a_sheets_e), scell a_sheets_e a_sheets_c v_sheetsF 0, scell a_sheets_e a_sheets_c v_sheetsF 1, scell a_sheets_e a_sheets_c v_sheetsF 2, scell a_sheets_e a_sheets_c v_sheetsF 3, sarr cI a_sheets_c v_sheetsF 0, sarr cI a_sheets_c v_sheetsF 1, sarr cI a_sheets_c v_sheetsF 2, sarr cI a_sheets_c v_sheetsF 3] := hD
      refine lv_iload C.1 C.2.1 dX6_read_168 (lv_at hl 3 rfl) ?_
      have hF := Option.some.inj hF
      subst hF
      exact retI C hr hlk hP hD hS dX6_read_170
    · have hF := fn hF c1
      refine lv_iload_n C.1 C.2.1 dX6_read_122 rfl (lv_at hl 1 rfl) ?_
      refine lv_iconst (v := 2) C.1 C.2.1 dX6_read_123 (by decide) ?_
      refine lv_iload C.1 C.2.1 dX6_read_124 (lv_at hl 5 rfl) ?_
      refine lv_imul C.1 C.2.1 dX6_read_126 ?_
      refine lv_iadd C.1 C.2.1 dX6_read_127 ?_
      refine lv_istore (lv' := [(9, .int (x3 + ((2 : Int32) * x8))), (0, .ref a_this), (3, .int x3), (5, .ref (a_sheets_e k5)), (6, .int x6), (7, .int x7), (8, .int x8)]) C.1 C.2.1 dX6_read_128 hl (by decide) rfl (fun ls hl => ?_)
      refine lv_aload_n C.1 C.2.1 dX6_read_130 rfl (lv_at hl 1 rfl) ?_
      refine gf_6_6_now C hK hP 0 rfl rfl dX6_read_131 ?_
      refine gf_6_0_signs C hK hP 1 rfl rfl dX6_read_134 ?_
      refine lv_aload C.1 C.2.1 dX6_read_137 (lv_at hl 3 rfl) ?_
      refine gf_6_3_cells C hK hP (4 + k5) (famget 4 (scell a_sheets_e a_sheets_c v_sheetsF) rfl rfl rfl rfl hk_5) rfl dX6_read_139 ?_
      refine lv_iload C.1 C.2.1 dX6_read_142 (lv_at hl 0 rfl) ?_
      obtain ⟨h2, hF⟩ := fk hF
      refine va_iald C.1 C.2.1 hK.1 hP (8 + k5) 0 (famget 8 (sarr cI a_sheets_c v_sheetsF) rfl rfl rfl rfl hk_5) rfl h2 dX6_read_144 ?_
      refine lv_aload C.1 C.2.1 dX6_read_145 (lv_at hl 3 rfl) ?_
      refine gf_6_3_cells C hK hP (4 + k5) (famget 4 (scell a_sheets_e a_sheets_c v_sheetsF) rfl rfl rfl rfl hk_5) rfl dX6_read_147 ?_
      refine lv_iload C.1 C.2.1 dX6_read_150 (lv_at hl 0 rfl) ?_
      refine lv_iconst (v := 1) C.1 C.2.1 dX6_read_152 (by decide) ?_
      refine lv_iadd C.1 C.2.1 dX6_read_153 ?_
      obtain ⟨h3, hF⟩ := fk hF
      refine va_iald C.1 C.2.1 hK.1 hP (8 + k5) 0 (famget 8 (sarr cI a_sheets_c v_sheetsF) rfl rfl rfl rfl hk_5) rfl h3 dX6_read_154 ?_
      obtain ⟨h4, hF⟩ := fk hF
      refine va_iast C.1 C.2.1 hK.1 hP hD hS 2 0 rfl rfl h4 dX6_read_155 (fun H locs hP hD hS => ?_)
      have hP : va_P D vwCl [(a_this, .inr (6, [.ref a_tape, .ref a_now, .ref a_trial, .ref a_sights, .ref a_images, .ref a_sheets, .int v_readFault])), (a_now, .inr (0, [.int v_now_field, .int v_now_tick, .int v_now_pace, .int v_now_signNumber, .int v_now_rotorNumber, .ref a_now_signs, .ref a_now_rotors])), (a_now_signs, .inl (cI, 16, .inl (upd v_now_signs (((v_sheetsF k5).2.2) (x3 + ((2 : Int32) * x8)).toNatClampNeg).toNatClampNeg (((v_sheetsF k5).2.2) ((x3 + ((2 : Int32) * x8)) + (1 : Int32)).toNatClampNeg)))), (a_sheets, rfn cS 4 a_sheets_e), scell a_sheets_e a_sheets_c v_sheetsF 0, scell a_sheets_e a_sheets_c v_sheetsF 1, scell a_sheets_e a_sheets_c v_sheetsF 2, scell a_sheets_e a_sheets_c v_sheetsF 3, sarr cI a_sheets_c v_sheetsF 0, sarr cI a_sheets_c v_sheetsF 1, sarr cI a_sheets_c v_sheetsF 2, sarr cI a_sheets_c v_sheetsF 3] H := hP
      have hD : va_D A [(a_this, .inr (6, [.ref a_tape, .ref a_now, .ref a_trial, .ref a_sights, .ref a_images, .ref a_sheets, .int v_readFault])), (a_now, .inr (0, [.int v_now_field, .int v_now_tick, .int v_now_pace, .int v_now_signNumber, .int v_now_rotorNumber, .ref a_now_signs, .ref a_now_rotors])), (a_now_signs, .inl (cI, 16, .inl (upd v_now_signs (((v_sheetsF k5).2.2) (x3 + ((2 : Int32) * x8)).toNatClampNeg).toNatClampNeg (((v_sheetsF k5).2.2) ((x3 + ((2 : Int32) * x8)) + (1 : Int32)).toNatClampNeg)))), (a_sheets, rfn cS 4 a_sheets_e), scell a_sheets_e a_sheets_c v_sheetsF 0, scell a_sheets_e a_sheets_c v_sheetsF 1, scell a_sheets_e a_sheets_c v_sheetsF 2, scell a_sheets_e a_sheets_c v_sheetsF 3, sarr cI a_sheets_c v_sheetsF 0, sarr cI a_sheets_c v_sheetsF 1, sarr cI a_sheets_c v_sheetsF 2, sarr cI a_sheets_c v_sheetsF 3] := hD
      refine lv_iinc (v := x8 + 1) (lv' := [(8, .int (x8 + 1)), (9, .int (x3 + ((2 : Int32) * x8))), (0, .ref a_this), (3, .int x3), (5, .ref (a_sheets_e k5)), (6, .int x6), (7, .int x7)]) C.1 C.2.1 dX6_read_156 hl (k := 6) rfl rfl (by decide) rfl (fun ls hl => ?_)
      refine lv_goto (tgt := 115) C.1 C.2.1 dX6_read_159 (by decide) ?_
      exact ih v_readFault v_now_signNumber (upd v_now_signs (((v_sheetsF k5).2.2) (x3 + ((2 : Int32) * x8)).toNatClampNeg).toNatClampNeg (((v_sheetsF k5).2.2) ((x3 + ((2 : Int32) * x8)) + (1 : Int32)).toNatClampNeg)) v_sheetsF x3 k5 x6 x7 (x8 + 1) _ _ _ hF hk_5 hP hD hS (lv_sub hl [2, 3, 4, 5, 6, 0] rfl)
set_option maxHeartbeats 4000000 in
set_option maxRecDepth 100000 in
theorem b_X6_read_112 {l : Launch} {D : va_G} {cI cB cZ cR cM cS : ClassId} {a_this : Nat} {a_tape : Nat} {a_now : Nat} {a_trial : Nat} {a_sights : Nat} {a_images : Nat} {a_sheets : Nat} {a_now_signs : Nat} {a_now_rotors : Nat} {a_sheets_e : Nat → Nat} {a_sheets_c : Nat → Nat} {v_now_field : Int32} {v_now_tick : Int32} {v_now_pace : Int32} {v_now_rotorNumber : Int32} {p : Program} {e : Env} {s : State} {m : MethodId} {args : Array Value} {below : List Frame} {meth : Method} {c : Code} {A : Nat → Prop} {res : Int32 × Int32 × (Nat → Int32)} (C : CX p m c cX6_read 10 s args RX6) (hr : meth.sig.returnType = (some .int)) (hlk : meth.locks = false) (hK : KK D (TS cI cB cZ cR cM cS) s) (hA : ∀ q, s.heap.size ≤ q → A q) : ∀ (v_readFault : Int32) (v_now_signNumber : Int32) (v_now_signs : Nat → Int32) (v_sheetsF : Nat → Sht) (x3 : Int32) (k5 : Nat) (x6 : Int32) (x7 : Int32) (H : Heap) (locs : List Loc) (ls : Array Slot), F_X6_read_112 v_readFault v_now_signNumber v_now_signs v_sheetsF x3 k5 x6 x7 = some res → k5 < 4 → va_P D vwCl [(a_this, .inr (6, [.ref a_tape, .ref a_now, .ref a_trial, .ref a_sights, .ref a_images, .ref a_sheets, .int v_readFault])), (a_now, .inr (0, [.int v_now_field, .int v_now_tick, .int v_now_pace, .int v_now_signNumber, .int v_now_rotorNumber, .ref a_now_signs, .ref a_now_rotors])), (a_now_signs, .inl (cI, 16, .inl v_now_signs)), (a_sheets, rfn cS 4 a_sheets_e), scell a_sheets_e a_sheets_c v_sheetsF 0, scell a_sheets_e a_sheets_c v_sheetsF 1, scell a_sheets_e a_sheets_c v_sheetsF 2, scell a_sheets_e a_sheets_c v_sheetsF 3, sarr cI a_sheets_c v_sheetsF 0, sarr cI a_sheets_c v_sheetsF 1, sarr cI a_sheets_c v_sheetsF 2, sarr cI a_sheets_c v_sheetsF 3] H → va_D A [(a_this, .inr (6, [.ref a_tape, .ref a_now, .ref a_trial, .ref a_sights, .ref a_images, .ref a_sheets, .int v_readFault])), (a_now, .inr (0, [.int v_now_field, .int v_now_tick, .int v_now_pace, .int v_now_signNumber, .int v_now_rotorNumber, .ref a_now_signs, .ref a_now_rotors])), (a_now_signs, .inl (cI, 16, .inl v_now_signs)), (a_sheets, rfn cS 4 a_sheets_e), scell a_sheets_e a_sheets_c v_sheetsF 0, scell a_sheets_e a_sheets_c v_sheetsF 1, scell a_sheets_e a_sheets_c v_sheetsF 2, scell a_sheets_e a_sheets_c v_sheetsF 3, sarr cI a_sheets_c v_sheetsF 0, sarr cI a_sheets_c v_sheetsF 1, sarr cI a_sheets_c v_sheetsF 2, sarr cI a_sheets_c v_sheetsF 3] → va_S A s.heap H locs → lv_has ls 10 [(0, .ref a_this), (3, .int x3), (5, .ref (a_sheets_e k5)), (6, .int x6), (7, .int x7)] → W p l e rm_X6_read s m args below meth c H locs 0 0 (MQ below (va_Qi (fun x (_ : Unit) => x = res.1) (BW D A [(a_this, .inr (6, [.ref a_tape, .ref a_now, .ref a_trial, .ref a_sights, .ref a_images, .ref a_sheets, .int res.2.1])), (a_now, .inr (0, [.int v_now_field, .int v_now_tick, .int v_now_pace, .int v_now_signNumber, .int v_now_rotorNumber, .ref a_now_signs, .ref a_now_rotors])), (a_now_signs, .inl (cI, 16, .inl res.2.2)), (a_sheets, rfn cS 4 a_sheets_e), scell a_sheets_e a_sheets_c v_sheetsF 0, scell a_sheets_e a_sheets_c v_sheetsF 1, scell a_sheets_e a_sheets_c v_sheetsF 2, scell a_sheets_e a_sheets_c v_sheetsF 3, sarr cI a_sheets_c v_sheetsF 0, sarr cI a_sheets_c v_sheetsF 1, sarr cI a_sheets_c v_sheetsF 2, sarr cI a_sheets_c v_sheetsF 3]) A) args s 0 0 A) (F0 m 112 ls []) := by
  intro v_readFault v_now_signNumber v_now_signs v_sheetsF x3 k5 x6 x7 H locs ls hF hk_5 hP hD hS hl
  unfold F_X6_read_112 at hF
  refine lv_iconst (v := 0) C.1 C.2.1 dX6_read_112 (by decide) ?_
  refine lv_istore (lv' := [(8, .int (0 : Int32)), (0, .ref a_this), (3, .int x3), (5, .ref (a_sheets_e k5)), (6, .int x6), (7, .int x7)]) C.1 C.2.1 dX6_read_113 hl (by decide) rfl (fun ls hl => ?_)
  exact b_X6_read_115 C hr hlk hK hA FU v_readFault v_now_signNumber v_now_signs v_sheetsF x3 k5 x6 x7 (0 : Int32) _ _ _ hF hk_5 hP hD hS (lv_sub hl [1, 2, 3, 4, 5, 0] rfl)
set_option maxHeartbeats 4000000 in
set_option maxRecDepth 100000 in
theorem b_X6_read_42 {l : Launch} {D : va_G} {cI cB cZ cR cM cS : ClassId} {a_this : Nat} {a_tape : Nat} {a_now : Nat} {a_trial : Nat} {a_sights : Nat} {a_images : Nat} {a_sheets : Nat} {a_now_signs : Nat} {a_now_rotors : Nat} {a_sheets_e : Nat → Nat} {a_sheets_c : Nat → Nat} {v_now_field : Int32} {v_now_tick : Int32} {v_now_pace : Int32} {v_now_rotorNumber : Int32} {p : Program} {e : Env} {s : State} {m : MethodId} {args : Array Value} {below : List Frame} {meth : Method} {c : Code} {A : Nat → Prop} {res : Int32 × Int32 × (Nat → Int32)} (C : CX p m c cX6_read 10 s args RX6) (hr : meth.sig.returnType = (some .int)) (hlk : meth.locks = false) (hK : KK D (TS cI cB cZ cR cM cS) s) (hA : ∀ q, s.heap.size ≤ q → A q) : ∀ (fu : Nat) (v_readFault : Int32) (v_now_signNumber : Int32) (v_now_signs : Nat → Int32) (v_sheetsF : Nat → Sht) (x2 : Int32) (x3 : Int32) (x4 : Int32) (k5 : Nat) (x6 : Int32) (x7 : Int32) (H : Heap) (locs : List Loc) (ls : Array Slot), F_X6_read_42 fu v_readFault v_now_signNumber v_now_signs v_sheetsF x2 x3 x4 k5 x6 x7 = some res → k5 < 4 → va_P D vwCl [(a_this, .inr (6, [.ref a_tape, .ref a_now, .ref a_trial, .ref a_sights, .ref a_images, .ref a_sheets, .int v_readFault])), (a_now, .inr (0, [.int v_now_field, .int v_now_tick, .int v_now_pace, .int v_now_signNumber, .int v_now_rotorNumber, .ref a_now_signs, .ref a_now_rotors])), (a_now_signs, .inl (cI, 16, .inl v_now_signs)), (a_sheets, rfn cS 4 a_sheets_e), scell a_sheets_e a_sheets_c v_sheetsF 0, scell a_sheets_e a_sheets_c v_sheetsF 1, scell a_sheets_e a_sheets_c v_sheetsF 2, scell a_sheets_e a_sheets_c v_sheetsF 3, sarr cI a_sheets_c v_sheetsF 0, sarr cI a_sheets_c v_sheetsF 1, sarr cI a_sheets_c v_sheetsF 2, sarr cI a_sheets_c v_sheetsF 3] H → va_D A [(a_this, .inr (6, [.ref a_tape, .ref a_now, .ref a_trial, .ref a_sights, .ref a_images, .ref a_sheets, .int v_readFault])), (a_now, .inr (0, [.int v_now_field, .int v_now_tick, .int v_now_pace, .int v_now_signNumber, .int v_now_rotorNumber, .ref a_now_signs, .ref a_now_rotors])), (a_now_signs, .inl (cI, 16, .inl v_now_signs)), (a_sheets, rfn cS 4 a_sheets_e), scell a_sheets_e a_sheets_c v_sheetsF 0, scell a_sheets_e a_sheets_c v_sheetsF 1, scell a_sheets_e a_sheets_c v_sheetsF 2, scell a_sheets_e a_sheets_c v_sheetsF 3, sarr cI a_sheets_c v_sheetsF 0, sarr cI a_sheets_c v_sheetsF 1, sarr cI a_sheets_c v_sheetsF 2, sarr cI a_sheets_c v_sheetsF 3] → va_S A s.heap H locs → lv_has ls 10 [(0, .ref a_this), (2, .int x2), (3, .int x3), (4, .int x4), (5, .ref (a_sheets_e k5)), (6, .int x6), (7, .int x7)] → W p l e rm_X6_read s m args below meth c H locs 0 0 (MQ below (va_Qi (fun x (_ : Unit) => x = res.1) (BW D A [(a_this, .inr (6, [.ref a_tape, .ref a_now, .ref a_trial, .ref a_sights, .ref a_images, .ref a_sheets, .int res.2.1])), (a_now, .inr (0, [.int v_now_field, .int v_now_tick, .int v_now_pace, .int v_now_signNumber, .int v_now_rotorNumber, .ref a_now_signs, .ref a_now_rotors])), (a_now_signs, .inl (cI, 16, .inl res.2.2)), (a_sheets, rfn cS 4 a_sheets_e), scell a_sheets_e a_sheets_c v_sheetsF 0, scell a_sheets_e a_sheets_c v_sheetsF 1, scell a_sheets_e a_sheets_c v_sheetsF 2, scell a_sheets_e a_sheets_c v_sheetsF 3, sarr cI a_sheets_c v_sheetsF 0, sarr cI a_sheets_c v_sheetsF 1, sarr cI a_sheets_c v_sheetsF 2, sarr cI a_sheets_c v_sheetsF 3]) A) args s 0 0 A) (F0 m 42 ls []) := by
  intro fu
  induction fu with
  | zero => intro v_readFault v_now_signNumber v_now_signs v_sheetsF x2 x3 x4 k5 x6 x7 H locs ls hF; cases hF
  | succ fu ih =>
    intro v_readFault v_now_signNumber v_now_signs v_sheetsF x2 x3 x4 k5 x6 x7 H locs ls hF hk_5 hP hD hS hl
    unfold F_X6_read_42 at hF
    refine lv_iload C.1 C.2.1 dX6_read_42 (lv_at hl 5 rfl) ?_
    refine lv_iload C.1 C.2.1 dX6_read_44 (lv_at hl 3 rfl) ?_
    refine lv_icmp_ge (tgt := 112) C.1 C.2.1 dX6_read_46 (by decide) (fun c1 => ?_) (fun c1 => ?_)
    · have hF := fp hF c1
      exact b_X6_read_112 C hr hlk hK hA v_readFault v_now_signNumber v_now_signs v_sheetsF x3 k5 x6 x7 _ _ _ hF hk_5 hP hD hS (lv_sub hl [0, 2, 4, 5, 6] rfl)
    · have hF := fn hF c1
      refine lv_iload_n C.1 C.2.1 dX6_read_49 rfl (lv_at hl 2 rfl) ?_
      refine lv_iconst (v := 2) C.1 C.2.1 dX6_read_50 (by decide) ?_
      refine lv_iload C.1 C.2.1 dX6_read_51 (lv_at hl 5 rfl) ?_
      refine lv_imul C.1 C.2.1 dX6_read_53 ?_
      refine lv_iadd C.1 C.2.1 dX6_read_54 ?_
      refine lv_istore (lv' := [(8, .int (x3 + ((2 : Int32) * x6))), (0, .ref a_this), (2, .int x2), (3, .int x3), (4, .int x4), (5, .ref (a_sheets_e k5)), (6, .int x6), (7, .int x7)]) C.1 C.2.1 dX6_read_55 hl (by decide) rfl (fun ls hl => ?_)
      refine lv_aload C.1 C.2.1 dX6_read_57 (lv_at hl 5 rfl) ?_
      refine lv_iload_n C.1 C.2.1 dX6_read_59 rfl (lv_at hl 2 rfl) ?_
      refine lv_iload C.1 C.2.1 dX6_read_60 (lv_at hl 0 rfl) ?_
      obtain ⟨r2, h3, hF⟩ := fb hF
      refine callVI C hK hA hP hD hS [4 + k5] (c_X3_faultOfPair (a_this := a_sheets_e k5) (a_cells := a_sheets_c k5) (v_lane := (v_sheetsF k5).1) (v_size := (v_sheetsF k5).2.1) h3) cv_X3_faultOfPair kw3_190 (congrArg (fun z => [z]) (famget 4 (scell a_sheets_e a_sheets_c v_sheetsF) rfl rfl rfl rfl hk_5)) rfl rfl rfl rfl ⟨Nat.le_of_ble_eq_true rfl, Nat.le_of_ble_eq_true rfl⟩ ⟨Nat.zero_le _, Nat.zero_le _⟩ hl.1 rfl (Nat.le_of_ble_eq_true rfl) dX6_read_62 (fun H locs hP hD hS => ?_)
      have hP := va_Pe (setL1.trans (setsame (famget 4 (scell a_sheets_e a_sheets_c v_sheetsF) rfl rfl rfl rfl hk_5))) hP
      have hD := va_De (setL1.trans (setsame (famget 4 (scell a_sheets_e a_sheets_c v_sheetsF) rfl rfl rfl rfl hk_5))) hD
      have hP : va_P D vwCl [(a_this, .inr (6, [.ref a_tape, .ref a_now, .ref a_trial, .ref a_sights, .ref a_images, .ref a_sheets, .int v_readFault])), (a_now, .inr (0, [.int v_now_field, .int v_now_tick, .int v_now_pace, .int v_now_signNumber, .int v_now_rotorNumber, .ref a_now_signs, .ref a_now_rotors])), (a_now_signs, .inl (cI, 16, .inl v_now_signs)), (a_sheets, rfn cS 4 a_sheets_e), scell a_sheets_e a_sheets_c v_sheetsF 0, scell a_sheets_e a_sheets_c v_sheetsF 1, scell a_sheets_e a_sheets_c v_sheetsF 2, scell a_sheets_e a_sheets_c v_sheetsF 3, sarr cI a_sheets_c v_sheetsF 0, sarr cI a_sheets_c v_sheetsF 1, sarr cI a_sheets_c v_sheetsF 2, sarr cI a_sheets_c v_sheetsF 3] H := hP
      have hD : va_D A [(a_this, .inr (6, [.ref a_tape, .ref a_now, .ref a_trial, .ref a_sights, .ref a_images, .ref a_sheets, .int v_readFault])), (a_now, .inr (0, [.int v_now_field, .int v_now_tick, .int v_now_pace, .int v_now_signNumber, .int v_now_rotorNumber, .ref a_now_signs, .ref a_now_rotors])), (a_now_signs, .inl (cI, 16, .inl v_now_signs)), (a_sheets, rfn cS 4 a_sheets_e), scell a_sheets_e a_sheets_c v_sheetsF 0, scell a_sheets_e a_sheets_c v_sheetsF 1, scell a_sheets_e a_sheets_c v_sheetsF 2, scell a_sheets_e a_sheets_c v_sheetsF 3, sarr cI a_sheets_c v_sheetsF 0, sarr cI a_sheets_c v_sheetsF 1, sarr cI a_sheets_c v_sheetsF 2, sarr cI a_sheets_c v_sheetsF 3] := hD
      refine lv_istore (lv' := [(7, .int r2), (8, .int (x3 + ((2 : Int32) * x6))), (0, .ref a_this), (2, .int x2), (3, .int x3), (4, .int x4), (5, .ref (a_sheets_e k5)), (6, .int x6)]) C.1 C.2.1 dX6_read_65 hl (by decide) rfl (fun ls hl => ?_)
      refine lv_iload C.1 C.2.1 dX6_read_67 (lv_at hl 0 rfl) ?_
      refine lv_if_eq (tgt := 75) C.1 C.2.1 dX6_read_69 (by decide) (fun c4 => ?_) (fun c4 => ?_)
      · have hF := fp hF c4
        refine lv_aload_n C.1 C.2.1 dX6_read_75 rfl (lv_at hl 2 rfl) ?_
        refine lv_aload C.1 C.2.1 dX6_read_76 (lv_at hl 6 rfl) ?_
        refine gf_6_3_cells C hK hP (4 + k5) (famget 4 (scell a_sheets_e a_sheets_c v_sheetsF) rfl rfl rfl rfl hk_5) rfl dX6_read_78 ?_
        refine lv_iload C.1 C.2.1 dX6_read_81 (lv_at hl 1 rfl) ?_
        obtain ⟨h5, hF⟩ := fk hF
        refine va_iald C.1 C.2.1 hK.1 hP (8 + k5) 0 (famget 8 (sarr cI a_sheets_c v_sheetsF) rfl rfl rfl rfl hk_5) rfl h5 dX6_read_83 ?_
        refine lv_aload C.1 C.2.1 dX6_read_84 (lv_at hl 6 rfl) ?_
        refine gf_6_3_cells C hK hP (4 + k5) (famget 4 (scell a_sheets_e a_sheets_c v_sheetsF) rfl rfl rfl rfl hk_5) rfl dX6_read_86 ?_
        refine lv_iload C.1 C.2.1 dX6_read_89 (lv_at hl 1 rfl) ?_
        refine lv_iconst (v := 1) C.1 C.2.1 dX6_read_91 (by decide) ?_
        refine lv_iadd C.1 C.2.1 dX6_read_92 ?_
        obtain ⟨h6, hF⟩ := fk hF
        refine va_iald C.1 C.2.1 hK.1 hP (8 + k5) 0 (famget 8 (sarr cI a_sheets_c v_sheetsF) rfl rfl rfl rfl hk_5) rfl h6 dX6_read_93 ?_
        obtain ⟨r7, h8, hF⟩ := fb hF
        refine callVI C hK hA hP hD hS [0, 1] (c_X6_canSet (a_this := a_this) (a_tape := a_tape) (a_now := a_now) (a_trial := a_trial) (a_sights := a_sights) (a_images := a_images) (a_sheets := a_sheets) (a_now_signs := a_now_signs) (a_now_rotors := a_now_rotors) (v_readFault := v_readFault) (v_now_field := v_now_field) (v_now_tick := v_now_tick) (v_now_pace := v_now_pace) (v_now_signNumber := v_now_signNumber) (v_now_rotorNumber := v_now_rotorNumber) h8) cv_X6_canSet kw2_199 rfl (by decide) rfl rfl rfl ⟨Nat.le_of_ble_eq_true rfl, Nat.le_of_ble_eq_true rfl⟩ ⟨Nat.zero_le _, Nat.zero_le _⟩ hl.1 rfl (Nat.le_of_ble_eq_true rfl) dX6_read_94 (fun H locs hP hD hS => ?_)
        have hP : va_P D vwCl [(a_this, .inr (6, [.ref a_tape, .ref a_now, .ref a_trial, .ref a_sights, .ref a_images, .ref a_sheets, .int v_readFault])), (a_now, .inr (0, [.int v_now_field, .int v_now_tick, .int v_now_pace, .int v_now_signNumber, .int v_now_rotorNumber, .ref a_now_signs, .ref a_now_rotors])), (a_now_signs, .inl (cI, 16, .inl v_now_signs)), (a_sheets, rfn cS 4 a_sheets_e), scell a_sheets_e a_sheets_c v_sheetsF 0, scell a_sheets_e a_sheets_c v_sheetsF 1, scell a_sheets_e a_sheets_c v_sheetsF 2, scell a_sheets_e a_sheets_c v_sheetsF 3, sarr cI a_sheets_c v_sheetsF 0, sarr cI a_sheets_c v_sheetsF 1, sarr cI a_sheets_c v_sheetsF 2, sarr cI a_sheets_c v_sheetsF 3] H := hP
        have hD : va_D A [(a_this, .inr (6, [.ref a_tape, .ref a_now, .ref a_trial, .ref a_sights, .ref a_images, .ref a_sheets, .int v_readFault])), (a_now, .inr (0, [.int v_now_field, .int v_now_tick, .int v_now_pace, .int v_now_signNumber, .int v_now_rotorNumber, .ref a_now_signs, .ref a_now_rotors])), (a_now_signs, .inl (cI, 16, .inl v_now_signs)), (a_sheets, rfn cS 4 a_sheets_e), scell a_sheets_e a_sheets_c v_sheetsF 0, scell a_sheets_e a_sheets_c v_sheetsF 1, scell a_sheets_e a_sheets_c v_sheetsF 2, scell a_sheets_e a_sheets_c v_sheetsF 3, sarr cI a_sheets_c v_sheetsF 0, sarr cI a_sheets_c v_sheetsF 1, sarr cI a_sheets_c v_sheetsF 2, sarr cI a_sheets_c v_sheetsF 3] := hD
        refine lv_if_ne (tgt := 106) C.1 C.2.1 dX6_read_97 (by decide) (fun c9 => ?_) (fun c9 => ?_)
        · have hF := fn hF c9
          refine lv_iinc (v := x6 + 1) (lv' := [(6, .int (x6 + 1)), (7, .int r2), (8, .int (x3 + ((2 : Int32) * x6))), (0, .ref a_this), (2, .int x2), (3, .int x3), (4, .int x4), (5, .ref (a_sheets_e k5))]) C.1 C.2.1 dX6_read_106 hl (k := 7) rfl rfl (by decide) rfl (fun ls hl => ?_)
          refine lv_goto (tgt := 42) C.1 C.2.1 dX6_read_109 (by decide) ?_
          exact ih v_readFault v_now_signNumber v_now_signs v_sheetsF x2 x3 x4 k5 (x6 + 1) r2 _ _ _ hF hk_5 hP hD hS (lv_sub hl [3, 4, 5, 6, 7, 0, 1] rfl)
        · have hF := fp hF c9
          refine lv_bipush (v := (-20)) C.1 C.2.1 dX6_read_100 (by decide) ?_
          refine lv_iload C.1 C.2.1 dX6_read_102 (lv_at hl 7 rfl) ?_
          refine lv_isub C.1 C.2.1 dX6_read_104 ?_
          have hF := Option.some.inj hF
          subst hF
          exact retI C hr hlk hP hD hS dX6_read_105
      · have hF := fn hF c4
        refine lv_goto (tgt := 112) C.1 C.2.1 dX6_read_72 (by decide) ?_
        exact b_X6_read_112 C hr hlk hK hA v_readFault v_now_signNumber v_now_signs v_sheetsF x3 k5 x6 r2 _ _ _ hF hk_5 hP hD hS (lv_sub hl [2, 4, 6, 7, 0] rfl)
set_option maxHeartbeats 4000000 in
set_option maxRecDepth 100000 in
theorem c0_X6_read {l : Launch} {D : va_G} {cI cB cZ cR cM cS : ClassId} {a_this : Nat} {a_tape : Nat} {a_now : Nat} {a_trial : Nat} {a_sights : Nat} {a_images : Nat} {a_sheets : Nat} {a_now_signs : Nat} {a_now_rotors : Nat} {a_sheets_e : Nat → Nat} {a_sheets_c : Nat → Nat} {v_readFault : Int32} {v_now_field : Int32} {v_now_tick : Int32} {v_now_pace : Int32} {v_now_signNumber : Int32} {v_now_rotorNumber : Int32} {v_now_signs : Nat → Int32} {v_sheetsF : Nat → Sht} {x1 : Int32} {x2 : Int32} {x3 : Int32} {x4 : Int32} {res : Int32 × Int32 × (Nat → Int32)} (hF : F_X6_read v_readFault v_now_signNumber v_now_signs v_sheetsF x1 x2 x3 x4 = some res) : MI l yX6_read cX6_read 10 .int rm_X6_read D (TS cI cB cZ cR cM cS) [.ref a_this, .int x1, .int x2, .int x3, .int x4] [(a_this, .inr (6, [.ref a_tape, .ref a_now, .ref a_trial, .ref a_sights, .ref a_images, .ref a_sheets, .int v_readFault])), (a_now, .inr (0, [.int v_now_field, .int v_now_tick, .int v_now_pace, .int v_now_signNumber, .int v_now_rotorNumber, .ref a_now_signs, .ref a_now_rotors])), (a_now_signs, .inl (cI, 16, .inl v_now_signs)), (a_sheets, rfn cS 4 a_sheets_e), scell a_sheets_e a_sheets_c v_sheetsF 0, scell a_sheets_e a_sheets_c v_sheetsF 1, scell a_sheets_e a_sheets_c v_sheetsF 2, scell a_sheets_e a_sheets_c v_sheetsF 3, sarr cI a_sheets_c v_sheetsF 0, sarr cI a_sheets_c v_sheetsF 1, sarr cI a_sheets_c v_sheetsF 2, sarr cI a_sheets_c v_sheetsF 3] [(a_this, .inr (6, [.ref a_tape, .ref a_now, .ref a_trial, .ref a_sights, .ref a_images, .ref a_sheets, .int res.2.1])), (a_now, .inr (0, [.int v_now_field, .int v_now_tick, .int v_now_pace, .int v_now_signNumber, .int v_now_rotorNumber, .ref a_now_signs, .ref a_now_rotors])), (a_now_signs, .inl (cI, 16, .inl res.2.2)), (a_sheets, rfn cS 4 a_sheets_e), scell a_sheets_e a_sheets_c v_sheetsF 0, scell a_sheets_e a_sheets_c v_sheetsF 1, scell a_sheets_e a_sheets_c v_sheetsF 2, scell a_sheets_e a_sheets_c v_sheetsF 3, sarr cI a_sheets_c v_sheetsF 0, sarr cI a_sheets_c v_sheetsF 1, sarr cI a_sheets_c v_sheetsF 2, sarr cI a_sheets_c v_sheetsF 3] res.1 :=
  MI_of (by decide) (Nat.le_of_ble_eq_true rfl) (fun p e s m args below meth c A ls C hr hlk hK hA hP hD hS hl => by
    have C : CX p m c cX6_read 10 s args RX6 := C
    have hl : lv_has ls 10 [(0, .ref a_this), (1, .int x1), (2, .int x2), (3, .int x3), (4, .int x4)] := hl
    unfold F_X6_read at hF
    refine lv_iload_n C.1 C.2.1 dX6_read_0 rfl (lv_at hl 1 rfl) ?_
    refine lv_iconst (v := 3) C.1 C.2.1 dX6_read_1 (by decide) ?_
    obtain ⟨r1, h2, hF⟩ := fb hF
    refine callSI C hK hA hP hD hS (c_X6_within  h2) cs_X6_within kw1_227 ⟨Nat.le_of_ble_eq_true rfl, Nat.le_of_ble_eq_true rfl⟩ ⟨Nat.zero_le _, Nat.zero_le _⟩ hl.1 rfl (Nat.le_of_ble_eq_true rfl) dX6_read_2 (fun H locs hP hD hS => ?_)
    refine lv_if_eq (tgt := 26) C.1 C.2.1 dX6_read_5 (by decide) (fun c3 => ?_) (fun c3 => ?_)
    · have hF := fp hF c3
      refine lv_iconst (v := (-1)) C.1 C.2.1 dX6_read_26 (by decide) ?_
      have hF := Option.some.inj hF
      subst hF
      exact retI C hr hlk hP hD hS dX6_read_27
    · have hF := fn hF c3
      refine lv_iload_n C.1 C.2.1 dX6_read_8 rfl (lv_at hl 2 rfl) ?_
      refine lv_iconst (v := 2) C.1 C.2.1 dX6_read_9 (by decide) ?_
      obtain ⟨r4, h5, hF⟩ := fb hF
      refine callSI C hK hA hP hD hS (c_X6_within  h5) cs_X6_within kw1_227 ⟨Nat.le_of_ble_eq_true rfl, Nat.le_of_ble_eq_true rfl⟩ ⟨Nat.zero_le _, Nat.zero_le _⟩ hl.1 rfl (Nat.le_of_ble_eq_true rfl) dX6_read_10 (fun H locs hP hD hS => ?_)
      refine lv_if_eq (tgt := 26) C.1 C.2.1 dX6_read_13 (by decide) (fun c6 => ?_) (fun c6 => ?_)
      · have hF := fp hF c6
        refine lv_iconst (v := (-1)) C.1 C.2.1 dX6_read_26 (by decide) ?_
        have hF := Option.some.inj hF
        subst hF
        exact retI C hr hlk hP hD hS dX6_read_27
      · have hF := fn hF c6
        refine lv_iload C.1 C.2.1 dX6_read_16 (lv_at hl 4 rfl) ?_
        refine lv_bipush (v := 20) C.1 C.2.1 dX6_read_18 (by decide) ?_
        obtain ⟨r7, h8, hF⟩ := fb hF
        refine callSI C hK hA hP hD hS (c_X6_within  h8) cs_X6_within kw1_227 ⟨Nat.le_of_ble_eq_true rfl, Nat.le_of_ble_eq_true rfl⟩ ⟨Nat.zero_le _, Nat.zero_le _⟩ hl.1 rfl (Nat.le_of_ble_eq_true rfl) dX6_read_20 (fun H locs hP hD hS => ?_)
        refine lv_if_ne (tgt := 28) C.1 C.2.1 dX6_read_23 (by decide) (fun c9 => ?_) (fun c9 => ?_)
        · have hF := fn hF c9
          refine lv_aload_n C.1 C.2.1 dX6_read_28 rfl (lv_at hl 0 rfl) ?_
          refine gf_6_6_sheets C hK hP 0 rfl rfl dX6_read_29 ?_
          refine lv_iload_n C.1 C.2.1 dX6_read_32 rfl (lv_at hl 1 rfl) ?_
          obtain ⟨h10, hF⟩ := fk hF
          refine aldR C hK hP 3 5 rfl rfl h10 dX6_read_33 ?_
          have hk11 : x1.toNatClampNeg < 4 := Nat.not_le.mp (fun q => h10 (Or.inr q))
          refine lv_astore (lv' := [(5, .ref (a_sheets_e x1.toNatClampNeg)), (0, .ref a_this), (1, .int x1), (2, .int x2), (3, .int x3), (4, .int x4)]) C.1 C.2.1 dX6_read_34 hl (by decide) rfl (fun ls hl => ?_)
          refine lv_iconst (v := 0) C.1 C.2.1 dX6_read_36 (by decide) ?_
          refine lv_istore (lv' := [(6, .int (0 : Int32)), (5, .ref (a_sheets_e x1.toNatClampNeg)), (0, .ref a_this), (1, .int x1), (2, .int x2), (3, .int x3), (4, .int x4)]) C.1 C.2.1 dX6_read_37 hl (by decide) rfl (fun ls hl => ?_)
          refine lv_iconst (v := 0) C.1 C.2.1 dX6_read_39 (by decide) ?_
          refine lv_istore (lv' := [(7, .int (0 : Int32)), (6, .int (0 : Int32)), (5, .ref (a_sheets_e x1.toNatClampNeg)), (0, .ref a_this), (1, .int x1), (2, .int x2), (3, .int x3), (4, .int x4)]) C.1 C.2.1 dX6_read_40 hl (by decide) rfl (fun ls hl => ?_)
          exact b_X6_read_42 C hr hlk hK hA FU v_readFault v_now_signNumber v_now_signs v_sheetsF x2 x3 x4 x1.toNatClampNeg (0 : Int32) (0 : Int32) _ _ _ hF hk11 hP hD hS (lv_sub hl [3, 5, 6, 7, 2, 1, 0] rfl)
        · have hF := fp hF c9
          refine lv_iconst (v := (-1)) C.1 C.2.1 dX6_read_26 (by decide) ?_
          have hF := Option.some.inj hF
          subst hF
          exact retI C hr hlk hP hD hS dX6_read_27)
theorem c_X6_read {l : Launch} {D : va_G} {cI cB cZ cR cM cS : ClassId} {a_this : Nat} {a_tape : Nat} {a_now : Nat} {a_trial : Nat} {a_sights : Nat} {a_images : Nat} {a_sheets : Nat} {a_now_signs : Nat} {a_now_rotors : Nat} {a_sheets_e : Nat → Nat} {a_sheets_c : Nat → Nat} {v_readFault : Int32} {v_now_field : Int32} {v_now_tick : Int32} {v_now_pace : Int32} {v_now_signNumber : Int32} {v_now_rotorNumber : Int32} {v_now_signs : Nat → Int32} {v_sheetsF : Nat → Sht} {x1 : Int32} {x2 : Int32} {x3 : Int32} {x4 : Int32} {r_ : Int32} {v_readFault' : Int32} {v_now_signs' : Nat → Int32} (hF : F_X6_read v_readFault v_now_signNumber v_now_signs v_sheetsF x1 x2 x3 x4 = some (r_, v_readFault', v_now_signs')) : MI l yX6_read cX6_read 10 .int rm_X6_read D (TS cI cB cZ cR cM cS) [.ref a_this, .int x1, .int x2, .int x3, .int x4] [(a_this, .inr (6, [.ref a_tape, .ref a_now, .ref a_trial, .ref a_sights, .ref a_images, .ref a_sheets, .int v_readFault])), (a_now, .inr (0, [.int v_now_field, .int v_now_tick, .int v_now_pace, .int v_now_signNumber, .int v_now_rotorNumber, .ref a_now_signs, .ref a_now_rotors])), (a_now_signs, .inl (cI, 16, .inl v_now_signs)), (a_sheets, rfn cS 4 a_sheets_e), scell a_sheets_e a_sheets_c v_sheetsF 0, scell a_sheets_e a_sheets_c v_sheetsF 1, scell a_sheets_e a_sheets_c v_sheetsF 2, scell a_sheets_e a_sheets_c v_sheetsF 3, sarr cI a_sheets_c v_sheetsF 0, sarr cI a_sheets_c v_sheetsF 1, sarr cI a_sheets_c v_sheetsF 2, sarr cI a_sheets_c v_sheetsF 3] [(a_this, .inr (6, [.ref a_tape, .ref a_now, .ref a_trial, .ref a_sights, .ref a_images, .ref a_sheets, .int v_readFault'])), (a_now, .inr (0, [.int v_now_field, .int v_now_tick, .int v_now_pace, .int v_now_signNumber, .int v_now_rotorNumber, .ref a_now_signs, .ref a_now_rotors])), (a_now_signs, .inl (cI, 16, .inl v_now_signs')), (a_sheets, rfn cS 4 a_sheets_e), scell a_sheets_e a_sheets_c v_sheetsF 0, scell a_sheets_e a_sheets_c v_sheetsF 1, scell a_sheets_e a_sheets_c v_sheetsF 2, scell a_sheets_e a_sheets_c v_sheetsF 3, sarr cI a_sheets_c v_sheetsF 0, sarr cI a_sheets_c v_sheetsF 1, sarr cI a_sheets_c v_sheetsF 2, sarr cI a_sheets_c v_sheetsF 3] r_ :=
  c0_X6_read (res := (r_, v_readFault', v_now_signs')) hF
def rm_X6_torn : Room := { frames := 0, cells := 0, slots := 0, locals := 0 }
theorem cv_X6_torn : CV yX6_torn cX6_torn 1 (some .int) rm_X6_torn RX6 0 := ⟨kw3_196, kw3_197, kw1_1, kw3_198, by decide +kernel, rfl, rfl⟩
set_option maxHeartbeats 4000000 in
set_option maxRecDepth 100000 in
theorem c_X6_torn {l : Launch} {D : va_G} {cI cB cZ cR cM cS : ClassId} {a_this : Nat} {a_tape : Nat} {a_now : Nat} {a_trial : Nat} {a_sights : Nat} {a_images : Nat} {a_sheets : Nat} {v_readFault : Int32} {res : Int32} (hF : F_X6_torn v_readFault = some res) : MI l yX6_torn cX6_torn 1 .int rm_X6_torn D (TS cI cB cZ cR cM cS) [.ref a_this] [(a_this, .inr (6, [.ref a_tape, .ref a_now, .ref a_trial, .ref a_sights, .ref a_images, .ref a_sheets, .int v_readFault]))] [(a_this, .inr (6, [.ref a_tape, .ref a_now, .ref a_trial, .ref a_sights, .ref a_images, .ref a_sheets, .int v_readFault]))] res :=
  MI_of (by decide) (Nat.le_of_ble_eq_true rfl) (fun p e s m args below meth c A ls C hr hlk hK hA hP hD hS hl => by
    have C : CX p m c cX6_torn 1 s args RX6 := C
    have hl : lv_has ls 1 [(0, .ref a_this)] := hl
    unfold F_X6_torn at hF
    refine lv_aload_n C.1 C.2.1 dX6_torn_0 rfl (lv_at hl 0 rfl) ?_
    refine gf_6_6_readFault C hK hP 0 rfl rfl dX6_torn_1 ?_
    have hF := Option.some.inj hF
    subst hF
    exact retI C hr hlk hP hD hS dX6_torn_4)
def rm_X6_count : Room := { frames := 1, cells := 0, slots := 0, locals := 22 }
theorem cv_X6_count : CV yX6_count cX6_count 2 (some .int) rm_X6_count RX6 1 := ⟨kw3_200, kw3_201, kw1_1, kw3_202, by decide +kernel, rfl, rfl⟩
set_option maxHeartbeats 4000000 in
set_option maxRecDepth 100000 in
theorem b_X6_count_65 {l : Launch} {D : va_G} {cI cB cZ cR cM cS : ClassId} {a_this : Nat} {a_tape : Nat} {a_now : Nat} {a_trial : Nat} {a_sights : Nat} {a_images : Nat} {a_sheets : Nat} {a_tape_bytes : Nat} {a_tape_draft : Nat} {a_now_signs : Nat} {a_now_rotors : Nat} {a_now_rotors_e : Nat → Nat} {a_sights_ticksOn : Nat} {a_sights_who : Nat} {a_sights_left : Nat} {a_images_e : Nat → Nat} {a_images_0_drive : Nat} {a_images_0_sights : Nat} {a_images_1_drive : Nat} {a_images_1_sights : Nat} {a_sheets_e : Nat → Nat} {a_sheets_c : Nat → Nat} {v_readFault : Int32} {v_tape_fault : Int32} {v_tape_faultPlace : Int32} {v_tape_token : Int32} {v_tape_start : Int32} {v_tape_next : Int32} {v_tape_value : Int32} {v_tape_signsTold : Int32} {v_tape_everyTold : Int32} {v_now_field : Int32} {v_now_tick : Int32} {v_now_pace : Int32} {p : Program} {e : Env} {s : State} {m : MethodId} {args : Array Value} {below : List Frame} {meth : Method} {c : Code} {A : Nat → Prop} {res : Int32} (C : CX p m c cX6_count 2 s args RX6) (hr : meth.sig.returnType = (some .int)) (hlk : meth.locks = false) (hK : KK D (TS cI cB cZ cR cM cS) s) (hA : ∀ q, s.heap.size ≤ q → A q) : ∀ (v_tape_length : Int32) (v_now_signNumber : Int32) (v_now_rotorNumber : Int32) (v_now_signs : Nat → Int32) (v_now_rotorsF : Nat → Rot) (v_sights_number : Int32) (v_images_0_kept : Int32) (v_images_1_kept : Int32) (v_sheetsF : Nat → Sht) (s0 : Int32) (H : Heap) (locs : List Loc) (ls : Array Slot), F_X6_count_65 v_tape_length v_now_signNumber v_now_rotorNumber v_now_signs v_now_rotorsF v_sights_number v_images_0_kept v_images_1_kept v_sheetsF s0 = some res → va_P D vwCl [(a_this, .inr (6, [.ref a_tape, .ref a_now, .ref a_trial, .ref a_sights, .ref a_images, .ref a_sheets, .int v_readFault])), (a_tape, .inr (5, [.ref a_tape_bytes, .int v_tape_length, .ref a_tape_draft, .int v_tape_fault, .int v_tape_faultPlace, .int v_tape_token, .int v_tape_start, .int v_tape_next, .int v_tape_value, .int v_tape_signsTold, .int v_tape_everyTold])), (a_now, .inr (0, [.int v_now_field, .int v_now_tick, .int v_now_pace, .int v_now_signNumber, .int v_now_rotorNumber, .ref a_now_signs, .ref a_now_rotors])), (a_now_signs, .inl (cI, 16, .inl v_now_signs)), (a_now_rotors, rfn cR 4 a_now_rotors_e), rcell a_now_rotors_e v_now_rotorsF 0, rcell a_now_rotors_e v_now_rotorsF 1, rcell a_now_rotors_e v_now_rotorsF 2, rcell a_now_rotors_e v_now_rotorsF 3, (a_sights, .inr (4, [.int v_sights_number, .ref a_sights_ticksOn, .ref a_sights_who, .ref a_sights_left])), (a_images, rfn cM 2 a_images_e), (a_images_e 0, .inr (1, [.int v_images_0_kept, .ref a_images_0_drive, .ref a_images_0_sights])), (a_images_e 1, .inr (1, [.int v_images_1_kept, .ref a_images_1_drive, .ref a_images_1_sights])), (a_sheets, rfn cS 4 a_sheets_e), scell a_sheets_e a_sheets_c v_sheetsF 0, scell a_sheets_e a_sheets_c v_sheetsF 1, scell a_sheets_e a_sheets_c v_sheetsF 2, scell a_sheets_e a_sheets_c v_sheetsF 3] H → va_D A [(a_this, .inr (6, [.ref a_tape, .ref a_now, .ref a_trial, .ref a_sights, .ref a_images, .ref a_sheets, .int v_readFault])), (a_tape, .inr (5, [.ref a_tape_bytes, .int v_tape_length, .ref a_tape_draft, .int v_tape_fault, .int v_tape_faultPlace, .int v_tape_token, .int v_tape_start, .int v_tape_next, .int v_tape_value, .int v_tape_signsTold, .int v_tape_everyTold])), (a_now, .inr (0, [.int v_now_field, .int v_now_tick, .int v_now_pace, .int v_now_signNumber, .int v_now_rotorNumber, .ref a_now_signs, .ref a_now_rotors])), (a_now_signs, .inl (cI, 16, .inl v_now_signs)), (a_now_rotors, rfn cR 4 a_now_rotors_e), rcell a_now_rotors_e v_now_rotorsF 0, rcell a_now_rotors_e v_now_rotorsF 1, rcell a_now_rotors_e v_now_rotorsF 2, rcell a_now_rotors_e v_now_rotorsF 3, (a_sights, .inr (4, [.int v_sights_number, .ref a_sights_ticksOn, .ref a_sights_who, .ref a_sights_left])), (a_images, rfn cM 2 a_images_e), (a_images_e 0, .inr (1, [.int v_images_0_kept, .ref a_images_0_drive, .ref a_images_0_sights])), (a_images_e 1, .inr (1, [.int v_images_1_kept, .ref a_images_1_drive, .ref a_images_1_sights])), (a_sheets, rfn cS 4 a_sheets_e), scell a_sheets_e a_sheets_c v_sheetsF 0, scell a_sheets_e a_sheets_c v_sheetsF 1, scell a_sheets_e a_sheets_c v_sheetsF 2, scell a_sheets_e a_sheets_c v_sheetsF 3] → va_S A s.heap H locs → lv_has ls 2 [(0, .ref a_this)] → W p l e rm_X6_count s m args below meth c H locs 0 0 (MQ below (va_Qi (fun x (_ : Unit) => x = res) (BW D A [(a_this, .inr (6, [.ref a_tape, .ref a_now, .ref a_trial, .ref a_sights, .ref a_images, .ref a_sheets, .int v_readFault])), (a_tape, .inr (5, [.ref a_tape_bytes, .int v_tape_length, .ref a_tape_draft, .int v_tape_fault, .int v_tape_faultPlace, .int v_tape_token, .int v_tape_start, .int v_tape_next, .int v_tape_value, .int v_tape_signsTold, .int v_tape_everyTold])), (a_now, .inr (0, [.int v_now_field, .int v_now_tick, .int v_now_pace, .int v_now_signNumber, .int v_now_rotorNumber, .ref a_now_signs, .ref a_now_rotors])), (a_now_signs, .inl (cI, 16, .inl v_now_signs)), (a_now_rotors, rfn cR 4 a_now_rotors_e), rcell a_now_rotors_e v_now_rotorsF 0, rcell a_now_rotors_e v_now_rotorsF 1, rcell a_now_rotors_e v_now_rotorsF 2, rcell a_now_rotors_e v_now_rotorsF 3, (a_sights, .inr (4, [.int v_sights_number, .ref a_sights_ticksOn, .ref a_sights_who, .ref a_sights_left])), (a_images, rfn cM 2 a_images_e), (a_images_e 0, .inr (1, [.int v_images_0_kept, .ref a_images_0_drive, .ref a_images_0_sights])), (a_images_e 1, .inr (1, [.int v_images_1_kept, .ref a_images_1_drive, .ref a_images_1_sights])), (a_sheets, rfn cS 4 a_sheets_e), scell a_sheets_e a_sheets_c v_sheetsF 0, scell a_sheets_e a_sheets_c v_sheetsF 1, scell a_sheets_e a_sheets_c v_sheetsF 2, scell a_sheets_e a_sheets_c v_sheetsF 3]) A) args s 0 0 A) (F0 m 65 ls [.int s0]) := by
  intro v_tape_length v_now_signNumber v_now_rotorNumber v_now_signs v_now_rotorsF v_sights_number v_images_0_kept v_images_1_kept v_sheetsF s0 H locs ls hF  hP hD hS hl
  unfold F_X6_count_65 at hF
  refine lv_aload_n C.1 C.2.1 dX6_count_65 rfl (lv_at hl 0 rfl) ?_
  refine gf_6_6_images C hK hP 0 rfl rfl dX6_count_66 ?_
  refine lv_iconst (v := 1) C.1 C.2.1 dX6_count_69 (by decide) ?_
  obtain ⟨h1, hF⟩ := fk hF
  refine aldR C hK hP 10 4 rfl rfl h1 dX6_count_70 ?_
  refine gf_6_1_kept C hK hP 12 rfl rfl dX6_count_71 ?_
  refine lv_if_eq (tgt := 81) C.1 C.2.1 dX6_count_74 (by decide) (fun c2 => ?_) (fun c2 => ?_)
  · have hF := fp hF c2
    refine lv_iconst (v := 0) C.1 C.2.1 dX6_count_81 (by decide) ?_
    refine lv_iadd C.1 C.2.1 dX6_count_82 ?_
    have hF := Option.some.inj hF
    subst hF
    exact retI C hr hlk hP hD hS dX6_count_83
  · have hF := fn hF c2
    refine lv_iconst (v := 1) C.1 C.2.1 dX6_count_77 (by decide) ?_
    refine lv_goto (tgt := 82) C.1 C.2.1 dX6_count_78 (by decide) ?_
    refine lv_iadd C.1 C.2.1 dX6_count_82 ?_
    have hF := Option.some.inj hF
    subst hF
    exact retI C hr hlk hP hD hS dX6_count_83
set_option maxHeartbeats 4000000 in
set_option maxRecDepth 100000 in
theorem c_X6_count {l : Launch} {D : va_G} {cI cB cZ cR cM cS : ClassId} {a_this : Nat} {a_tape : Nat} {a_now : Nat} {a_trial : Nat} {a_sights : Nat} {a_images : Nat} {a_sheets : Nat} {a_tape_bytes : Nat} {a_tape_draft : Nat} {a_now_signs : Nat} {a_now_rotors : Nat} {a_now_rotors_e : Nat → Nat} {a_sights_ticksOn : Nat} {a_sights_who : Nat} {a_sights_left : Nat} {a_images_e : Nat → Nat} {a_images_0_drive : Nat} {a_images_0_sights : Nat} {a_images_1_drive : Nat} {a_images_1_sights : Nat} {a_sheets_e : Nat → Nat} {a_sheets_c : Nat → Nat} {v_readFault : Int32} {v_tape_length : Int32} {v_tape_fault : Int32} {v_tape_faultPlace : Int32} {v_tape_token : Int32} {v_tape_start : Int32} {v_tape_next : Int32} {v_tape_value : Int32} {v_tape_signsTold : Int32} {v_tape_everyTold : Int32} {v_now_field : Int32} {v_now_tick : Int32} {v_now_pace : Int32} {v_now_signNumber : Int32} {v_now_rotorNumber : Int32} {v_now_signs : Nat → Int32} {v_now_rotorsF : Nat → Rot} {v_sights_number : Int32} {v_images_0_kept : Int32} {v_images_1_kept : Int32} {v_sheetsF : Nat → Sht} {x1 : Int32} {res : Int32} (hF : F_X6_count v_tape_length v_now_signNumber v_now_rotorNumber v_now_signs v_now_rotorsF v_sights_number v_images_0_kept v_images_1_kept v_sheetsF x1 = some res) : MI l yX6_count cX6_count 2 .int rm_X6_count D (TS cI cB cZ cR cM cS) [.ref a_this, .int x1] [(a_this, .inr (6, [.ref a_tape, .ref a_now, .ref a_trial, .ref a_sights, .ref a_images, .ref a_sheets, .int v_readFault])), (a_tape, .inr (5, [.ref a_tape_bytes, .int v_tape_length, .ref a_tape_draft, .int v_tape_fault, .int v_tape_faultPlace, .int v_tape_token, .int v_tape_start, .int v_tape_next, .int v_tape_value, .int v_tape_signsTold, .int v_tape_everyTold])), (a_now, .inr (0, [.int v_now_field, .int v_now_tick, .int v_now_pace, .int v_now_signNumber, .int v_now_rotorNumber, .ref a_now_signs, .ref a_now_rotors])), (a_now_signs, .inl (cI, 16, .inl v_now_signs)), (a_now_rotors, rfn cR 4 a_now_rotors_e), rcell a_now_rotors_e v_now_rotorsF 0, rcell a_now_rotors_e v_now_rotorsF 1, rcell a_now_rotors_e v_now_rotorsF 2, rcell a_now_rotors_e v_now_rotorsF 3, (a_sights, .inr (4, [.int v_sights_number, .ref a_sights_ticksOn, .ref a_sights_who, .ref a_sights_left])), (a_images, rfn cM 2 a_images_e), (a_images_e 0, .inr (1, [.int v_images_0_kept, .ref a_images_0_drive, .ref a_images_0_sights])), (a_images_e 1, .inr (1, [.int v_images_1_kept, .ref a_images_1_drive, .ref a_images_1_sights])), (a_sheets, rfn cS 4 a_sheets_e), scell a_sheets_e a_sheets_c v_sheetsF 0, scell a_sheets_e a_sheets_c v_sheetsF 1, scell a_sheets_e a_sheets_c v_sheetsF 2, scell a_sheets_e a_sheets_c v_sheetsF 3] [(a_this, .inr (6, [.ref a_tape, .ref a_now, .ref a_trial, .ref a_sights, .ref a_images, .ref a_sheets, .int v_readFault])), (a_tape, .inr (5, [.ref a_tape_bytes, .int v_tape_length, .ref a_tape_draft, .int v_tape_fault, .int v_tape_faultPlace, .int v_tape_token, .int v_tape_start, .int v_tape_next, .int v_tape_value, .int v_tape_signsTold, .int v_tape_everyTold])), (a_now, .inr (0, [.int v_now_field, .int v_now_tick, .int v_now_pace, .int v_now_signNumber, .int v_now_rotorNumber, .ref a_now_signs, .ref a_now_rotors])), (a_now_signs, .inl (cI, 16, .inl v_now_signs)), (a_now_rotors, rfn cR 4 a_now_rotors_e), rcell a_now_rotors_e v_now_rotorsF 0, rcell a_now_rotors_e v_now_rotorsF 1, rcell a_now_rotors_e v_now_rotorsF 2, rcell a_now_rotors_e v_now_rotorsF 3, (a_sights, .inr (4, [.int v_sights_number, .ref a_sights_ticksOn, .ref a_sights_who, .ref a_sights_left])), (a_images, rfn cM 2 a_images_e), (a_images_e 0, .inr (1, [.int v_images_0_kept, .ref a_images_0_drive, .ref a_images_0_sights])), (a_images_e 1, .inr (1, [.int v_images_1_kept, .ref a_images_1_drive, .ref a_images_1_sights])), (a_sheets, rfn cS 4 a_sheets_e), scell a_sheets_e a_sheets_c v_sheetsF 0, scell a_sheets_e a_sheets_c v_sheetsF 1, scell a_sheets_e a_sheets_c v_sheetsF 2, scell a_sheets_e a_sheets_c v_sheetsF 3] res :=
  MI_of (by decide) (Nat.le_of_ble_eq_true rfl) (fun p e s m args below meth c A ls C hr hlk hK hA hP hD hS hl => by
    have C : CX p m c cX6_count 2 s args RX6 := C
    have hl : lv_has ls 2 [(0, .ref a_this), (1, .int x1)] := hl
    unfold F_X6_count at hF
    refine lv_iload_n C.1 C.2.1 dX6_count_0 rfl (lv_at hl 1 rfl) ?_
    by_cases c1 : x1 = (0 : Int32)
    · have hF := fp hF c1
      refine lv_tableIn (tgt := 40) C.1 C.2.1 dX6_count_1 (by rw [c1]; decide) (by rw [c1]; decide) (by rw [c1]; rfl) (by decide) ?_
      refine lv_aload_n C.1 C.2.1 dX6_count_40 rfl (lv_at hl 0 rfl) ?_
      refine gf_6_6_sights C hK hP 0 rfl rfl dX6_count_41 ?_
      refine gf_6_4_number C hK hP 9 rfl rfl dX6_count_44 ?_
      have hF := Option.some.inj hF
      subst hF
      exact retI C hr hlk hP hD hS dX6_count_47
    · have hF := fn hF c1
      by_cases c2 : x1 = (1 : Int32)
      · have hF := fp hF c2
        refine lv_tableIn (tgt := 48) C.1 C.2.1 dX6_count_1 (by rw [c2]; decide) (by rw [c2]; decide) (by rw [c2]; rfl) (by decide) ?_
        refine lv_aload_n C.1 C.2.1 dX6_count_48 rfl (lv_at hl 0 rfl) ?_
        refine gf_6_6_images C hK hP 0 rfl rfl dX6_count_49 ?_
        refine lv_iconst (v := 0) C.1 C.2.1 dX6_count_52 (by decide) ?_
        obtain ⟨h3, hF⟩ := fk hF
        refine aldR C hK hP 10 4 rfl rfl h3 dX6_count_53 ?_
        refine gf_6_1_kept C hK hP 11 rfl rfl dX6_count_54 ?_
        refine lv_if_eq (tgt := 64) C.1 C.2.1 dX6_count_57 (by decide) (fun c4 => ?_) (fun c4 => ?_)
        · have hF := fp hF c4
          refine lv_iconst (v := 0) C.1 C.2.1 dX6_count_64 (by decide) ?_
          exact b_X6_count_65 C hr hlk hK hA v_tape_length v_now_signNumber v_now_rotorNumber v_now_signs v_now_rotorsF v_sights_number v_images_0_kept v_images_1_kept v_sheetsF (0 : Int32) _ _ _ hF hP hD hS (lv_sub hl [0] rfl)
        · have hF := fn hF c4
          refine lv_iconst (v := 1) C.1 C.2.1 dX6_count_60 (by decide) ?_
          refine lv_goto (tgt := 65) C.1 C.2.1 dX6_count_61 (by decide) ?_
          exact b_X6_count_65 C hr hlk hK hA v_tape_length v_now_signNumber v_now_rotorNumber v_now_signs v_now_rotorsF v_sights_number v_images_0_kept v_images_1_kept v_sheetsF (1 : Int32) _ _ _ hF hP hD hS (lv_sub hl [0] rfl)
      · have hF := fn hF c2
        by_cases c5 : x1 = (2 : Int32)
        · have hF := fp hF c5
          refine lv_tableIn (tgt := 84) C.1 C.2.1 dX6_count_1 (by rw [c5]; decide) (by rw [c5]; decide) (by rw [c5]; rfl) (by decide) ?_
          refine lv_aload_n C.1 C.2.1 dX6_count_84 rfl (lv_at hl 0 rfl) ?_
          refine gf_6_6_tape C hK hP 0 rfl rfl dX6_count_85 ?_
          refine gf_6_5_length C hK hP 1 rfl rfl dX6_count_88 ?_
          have hF := Option.some.inj hF
          subst hF
          exact retI C hr hlk hP hD hS dX6_count_91
        · have hF := fn hF c5
          by_cases c6 : x1 = (3 : Int32)
          · have hF := fp hF c6
            refine lv_tableIn (tgt := 92) C.1 C.2.1 dX6_count_1 (by rw [c6]; decide) (by rw [c6]; decide) (by rw [c6]; rfl) (by decide) ?_
            refine lv_aload_n C.1 C.2.1 dX6_count_92 rfl (lv_at hl 0 rfl) ?_
            refine gf_6_6_sheets C hK hP 0 rfl rfl dX6_count_93 ?_
            refine lv_iconst (v := 0) C.1 C.2.1 dX6_count_96 (by decide) ?_
            obtain ⟨h7, hF⟩ := fk hF
            refine aldR C hK hP 13 5 rfl rfl h7 dX6_count_97 ?_
            have hk8 : (0 : Int32).toNatClampNeg < 4 := Nat.not_le.mp (fun q => h7 (Or.inr q))
            refine gf_6_3_lane C hK hP (14 + ((0 : Int32).toNatClampNeg)) (famget 14 (scell a_sheets_e a_sheets_c v_sheetsF) rfl rfl rfl rfl hk8) rfl dX6_count_98 ?_
            refine lv_iconst (v := (-1)) C.1 C.2.1 dX6_count_101 (by decide) ?_
            refine lv_icmp_ne (tgt := 110) C.1 C.2.1 dX6_count_102 (by decide) (fun c9 => ?_) (fun c9 => ?_)
            · have hF := fn hF c9
              refine lv_aload_n C.1 C.2.1 dX6_count_110 rfl (lv_at hl 0 rfl) ?_
              refine gf_6_6_sheets C hK hP 0 rfl rfl dX6_count_111 ?_
              refine lv_iconst (v := 0) C.1 C.2.1 dX6_count_114 (by decide) ?_
              obtain ⟨h10, hF⟩ := fk hF
              refine aldR C hK hP 13 5 rfl rfl h10 dX6_count_115 ?_
              have hk11 : (0 : Int32).toNatClampNeg < 4 := Nat.not_le.mp (fun q => h10 (Or.inr q))
              refine gf_6_3_size C hK hP (14 + ((0 : Int32).toNatClampNeg)) (famget 14 (scell a_sheets_e a_sheets_c v_sheetsF) rfl rfl rfl rfl hk11) rfl dX6_count_116 ?_
              have hF := Option.some.inj hF
              subst hF
              exact retI C hr hlk hP hD hS dX6_count_119
            · have hF := fp hF c9
              refine lv_bipush (v := (-4)) C.1 C.2.1 dX6_count_105 (by decide) ?_
              refine lv_goto (tgt := 119) C.1 C.2.1 dX6_count_107 (by decide) ?_
              have hF := Option.some.inj hF
              subst hF
              exact retI C hr hlk hP hD hS dX6_count_119
          · have hF := fn hF c6
            by_cases c12 : x1 = (4 : Int32)
            · have hF := fp hF c12
              refine lv_tableIn (tgt := 120) C.1 C.2.1 dX6_count_1 (by rw [c12]; decide) (by rw [c12]; decide) (by rw [c12]; rfl) (by decide) ?_
              refine lv_aload_n C.1 C.2.1 dX6_count_120 rfl (lv_at hl 0 rfl) ?_
              refine gf_6_6_now C hK hP 0 rfl rfl dX6_count_121 ?_
              obtain ⟨r13, h14, hF⟩ := fb hF
              refine callVI C hK hA hP hD hS [2, 4, 5, 6, 7, 8] (c_X0_allGrips (a_this := a_now) (a_signs := a_now_signs) (a_rotors := a_now_rotors) (a_rotors_e := a_now_rotors_e) (v_field := v_now_field) (v_tick := v_now_tick) (v_pace := v_now_pace) (v_signNumber := v_now_signNumber) (v_rotorNumber := v_now_rotorNumber) (v_rotorsF := v_now_rotorsF) h14) cv_X0_allGrips kw3_203 rfl (by decide) rfl rfl rfl ⟨Nat.le_of_ble_eq_true rfl, Nat.le_of_ble_eq_true rfl⟩ ⟨Nat.zero_le _, Nat.zero_le _⟩ hl.1 rfl (Nat.le_of_ble_eq_true rfl) dX6_count_124 (fun H locs hP hD hS => ?_)
              have hP : va_P D vwCl [(a_this, .inr (6, [.ref a_tape, .ref a_now, .ref a_trial, .ref a_sights, .ref a_images, .ref a_sheets, .int v_readFault])), (a_tape, .inr (5, [.ref a_tape_bytes, .int v_tape_length, .ref a_tape_draft, .int v_tape_fault, .int v_tape_faultPlace, .int v_tape_token, .int v_tape_start, .int v_tape_next, .int v_tape_value, .int v_tape_signsTold, .int v_tape_everyTold])), (a_now, .inr (0, [.int v_now_field, .int v_now_tick, .int v_now_pace, .int v_now_signNumber, .int v_now_rotorNumber, .ref a_now_signs, .ref a_now_rotors])), (a_now_signs, .inl (cI, 16, .inl v_now_signs)), (a_now_rotors, rfn cR 4 a_now_rotors_e), rcell a_now_rotors_e v_now_rotorsF 0, rcell a_now_rotors_e v_now_rotorsF 1, rcell a_now_rotors_e v_now_rotorsF 2, rcell a_now_rotors_e v_now_rotorsF 3, (a_sights, .inr (4, [.int v_sights_number, .ref a_sights_ticksOn, .ref a_sights_who, .ref a_sights_left])), (a_images, rfn cM 2 a_images_e), (a_images_e 0, .inr (1, [.int v_images_0_kept, .ref a_images_0_drive, .ref a_images_0_sights])), (a_images_e 1, .inr (1, [.int v_images_1_kept, .ref a_images_1_drive, .ref a_images_1_sights])), (a_sheets, rfn cS 4 a_sheets_e), scell a_sheets_e a_sheets_c v_sheetsF 0, scell a_sheets_e a_sheets_c v_sheetsF 1, scell a_sheets_e a_sheets_c v_sheetsF 2, scell a_sheets_e a_sheets_c v_sheetsF 3] H := hP
              have hD : va_D A [(a_this, .inr (6, [.ref a_tape, .ref a_now, .ref a_trial, .ref a_sights, .ref a_images, .ref a_sheets, .int v_readFault])), (a_tape, .inr (5, [.ref a_tape_bytes, .int v_tape_length, .ref a_tape_draft, .int v_tape_fault, .int v_tape_faultPlace, .int v_tape_token, .int v_tape_start, .int v_tape_next, .int v_tape_value, .int v_tape_signsTold, .int v_tape_everyTold])), (a_now, .inr (0, [.int v_now_field, .int v_now_tick, .int v_now_pace, .int v_now_signNumber, .int v_now_rotorNumber, .ref a_now_signs, .ref a_now_rotors])), (a_now_signs, .inl (cI, 16, .inl v_now_signs)), (a_now_rotors, rfn cR 4 a_now_rotors_e), rcell a_now_rotors_e v_now_rotorsF 0, rcell a_now_rotors_e v_now_rotorsF 1, rcell a_now_rotors_e v_now_rotorsF 2, rcell a_now_rotors_e v_now_rotorsF 3, (a_sights, .inr (4, [.int v_sights_number, .ref a_sights_ticksOn, .ref a_sights_who, .ref a_sights_left])), (a_images, rfn cM 2 a_images_e), (a_images_e 0, .inr (1, [.int v_images_0_kept, .ref a_images_0_drive, .ref a_images_0_sights])), (a_images_e 1, .inr (1, [.int v_images_1_kept, .ref a_images_1_drive, .ref a_images_1_sights])), (a_sheets, rfn cS 4 a_sheets_e), scell a_sheets_e a_sheets_c v_sheetsF 0, scell a_sheets_e a_sheets_c v_sheetsF 1, scell a_sheets_e a_sheets_c v_sheetsF 2, scell a_sheets_e a_sheets_c v_sheetsF 3] := hD
              have hF := Option.some.inj hF
              subst hF
              exact retI C hr hlk hP hD hS dX6_count_127
            · have hF := fn hF c12
              by_cases c15 : x1 = (5 : Int32)
              · have hF := fp hF c15
                refine lv_tableIn (tgt := 128) C.1 C.2.1 dX6_count_1 (by rw [c15]; decide) (by rw [c15]; decide) (by rw [c15]; rfl) (by decide) ?_
                refine lv_aload_n C.1 C.2.1 dX6_count_128 rfl (lv_at hl 0 rfl) ?_
                refine gf_6_6_now C hK hP 0 rfl rfl dX6_count_129 ?_
                obtain ⟨r16, h17, hF⟩ := fb hF
                refine callVI C hK hA hP hD hS [2, 3] (c_X0_allSigns (a_this := a_now) (a_signs := a_now_signs) (a_rotors := a_now_rotors) (v_field := v_now_field) (v_tick := v_now_tick) (v_pace := v_now_pace) (v_signNumber := v_now_signNumber) (v_rotorNumber := v_now_rotorNumber) (v_signs := v_now_signs) h17) cv_X0_allSigns kw3_207 rfl (by decide) rfl rfl rfl ⟨Nat.le_of_ble_eq_true rfl, Nat.le_of_ble_eq_true rfl⟩ ⟨Nat.zero_le _, Nat.zero_le _⟩ hl.1 rfl (Nat.le_of_ble_eq_true rfl) dX6_count_132 (fun H locs hP hD hS => ?_)
                have hP : va_P D vwCl [(a_this, .inr (6, [.ref a_tape, .ref a_now, .ref a_trial, .ref a_sights, .ref a_images, .ref a_sheets, .int v_readFault])), (a_tape, .inr (5, [.ref a_tape_bytes, .int v_tape_length, .ref a_tape_draft, .int v_tape_fault, .int v_tape_faultPlace, .int v_tape_token, .int v_tape_start, .int v_tape_next, .int v_tape_value, .int v_tape_signsTold, .int v_tape_everyTold])), (a_now, .inr (0, [.int v_now_field, .int v_now_tick, .int v_now_pace, .int v_now_signNumber, .int v_now_rotorNumber, .ref a_now_signs, .ref a_now_rotors])), (a_now_signs, .inl (cI, 16, .inl v_now_signs)), (a_now_rotors, rfn cR 4 a_now_rotors_e), rcell a_now_rotors_e v_now_rotorsF 0, rcell a_now_rotors_e v_now_rotorsF 1, rcell a_now_rotors_e v_now_rotorsF 2, rcell a_now_rotors_e v_now_rotorsF 3, (a_sights, .inr (4, [.int v_sights_number, .ref a_sights_ticksOn, .ref a_sights_who, .ref a_sights_left])), (a_images, rfn cM 2 a_images_e), (a_images_e 0, .inr (1, [.int v_images_0_kept, .ref a_images_0_drive, .ref a_images_0_sights])), (a_images_e 1, .inr (1, [.int v_images_1_kept, .ref a_images_1_drive, .ref a_images_1_sights])), (a_sheets, rfn cS 4 a_sheets_e), scell a_sheets_e a_sheets_c v_sheetsF 0, scell a_sheets_e a_sheets_c v_sheetsF 1, scell a_sheets_e a_sheets_c v_sheetsF 2, scell a_sheets_e a_sheets_c v_sheetsF 3] H := hP
                have hD : va_D A [(a_this, .inr (6, [.ref a_tape, .ref a_now, .ref a_trial, .ref a_sights, .ref a_images, .ref a_sheets, .int v_readFault])), (a_tape, .inr (5, [.ref a_tape_bytes, .int v_tape_length, .ref a_tape_draft, .int v_tape_fault, .int v_tape_faultPlace, .int v_tape_token, .int v_tape_start, .int v_tape_next, .int v_tape_value, .int v_tape_signsTold, .int v_tape_everyTold])), (a_now, .inr (0, [.int v_now_field, .int v_now_tick, .int v_now_pace, .int v_now_signNumber, .int v_now_rotorNumber, .ref a_now_signs, .ref a_now_rotors])), (a_now_signs, .inl (cI, 16, .inl v_now_signs)), (a_now_rotors, rfn cR 4 a_now_rotors_e), rcell a_now_rotors_e v_now_rotorsF 0, rcell a_now_rotors_e v_now_rotorsF 1, rcell a_now_rotors_e v_now_rotorsF 2, rcell a_now_rotors_e v_now_rotorsF 3, (a_sights, .inr (4, [.int v_sights_number, .ref a_sights_ticksOn, .ref a_sights_who, .ref a_sights_left])), (a_images, rfn cM 2 a_images_e), (a_images_e 0, .inr (1, [.int v_images_0_kept, .ref a_images_0_drive, .ref a_images_0_sights])), (a_images_e 1, .inr (1, [.int v_images_1_kept, .ref a_images_1_drive, .ref a_images_1_sights])), (a_sheets, rfn cS 4 a_sheets_e), scell a_sheets_e a_sheets_c v_sheetsF 0, scell a_sheets_e a_sheets_c v_sheetsF 1, scell a_sheets_e a_sheets_c v_sheetsF 2, scell a_sheets_e a_sheets_c v_sheetsF 3] := hD
                have hF := Option.some.inj hF
                subst hF
                exact retI C hr hlk hP hD hS dX6_count_135
              · have hF := fn hF c15
                refine lv_tableOut (tgt := 136) C.1 C.2.1 dX6_count_1 (by have q0 := lv_neT (k := 0) (a := 0) c1 (by decide); have q1 := lv_neT (k := 1) (a := 1) c2 (by decide); have q2 := lv_neT (k := 2) (a := 2) c5 (by decide); have q3 := lv_neT (k := 3) (a := 3) c6 (by decide); have q4 := lv_neT (k := 4) (a := 4) c12 (by decide); have q5 := lv_neT (k := 5) (a := 5) c15 (by decide); omega) (by decide) ?_
                refine lv_iconst (v := (-1)) C.1 C.2.1 dX6_count_136 (by decide) ?_
                have hF := Option.some.inj hF
                subst hF
                exact retI C hr hlk hP hD hS dX6_count_137)
