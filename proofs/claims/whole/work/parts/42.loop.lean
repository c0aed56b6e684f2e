set_option maxHeartbeats 4000000 in
set_option maxRecDepth 100000 in
theorem law_switch {p : Program} {l : Launch} {e : Env} {s : State} {m : MethodId} {below : List Frame} {meth : Method} {c : Code} {D : va_G} {cI cB cZ cR cM cS : ClassId} {a_x : Nat} {a_x_tape : Nat} {a_x_now : Nat} {a_x_trial : Nat} {a_x_sights : Nat} {a_x_images : Nat} {a_x_sheets : Nat} {a_x_tape_bytes : Nat} {a_x_tape_draft : Nat} {a_x_tape_draft_signs : Nat} {a_x_tape_draft_rotors : Nat} {a_x_tape_draft_rotors_e : Nat → Nat} {a_x_now_signs : Nat} {a_x_now_rotors : Nat} {a_x_now_rotors_e : Nat → Nat} {a_x_trial_signs : Nat} {a_x_trial_rotors : Nat} {a_x_trial_rotors_e : Nat → Nat} {a_x_sights_ticksOn : Nat} {a_x_sights_who : Nat} {a_x_sights_left : Nat} {a_x_images_e : Nat → Nat} {a_x_images_0_drive : Nat} {a_x_images_0_sights : Nat} {a_x_images_0_drive_signs : Nat} {a_x_images_0_drive_rotors : Nat} {a_x_images_0_drive_rotors_e : Nat → Nat} {a_x_images_0_sights_ticksOn : Nat} {a_x_images_0_sights_who : Nat} {a_x_images_0_sights_left : Nat} {a_x_images_1_drive : Nat} {a_x_images_1_sights : Nat} {a_x_images_1_drive_signs : Nat} {a_x_images_1_drive_rotors : Nat} {a_x_images_1_drive_rotors_e : Nat → Nat} {a_x_images_1_sights_ticksOn : Nat} {a_x_images_1_sights_who : Nat} {a_x_images_1_sights_left : Nat} {a_x_sheets_e : Nat → Nat} {a_x_sheets_c : Nat → Nat} {a_m : Nat} {a_m_st : Nat} {a_m_now : Nat} {a_m_isKept : Nat} {a_m_draft : Nat} {a_m_tape : Nat} {a_m_wereAt : Nat} {a_m_byPlace : Nat} {a_m_lanes : Nat} {a_m_sizes : Nat} {a_m_cells : Nat} {a_m_before : Nat} {adK adV : Nat → Nat} {A : Nat → Prop} {b L : Nat} {xs : Nat → Int32} (C : CX p m c cL_law 4 s #[Value.ref b] RL) (hK : KK D (TS cI cB cZ cR cM cS) s) (hQ : SQ adK adV A s s.heap) (hA : ∀ q, s.heap.size ≤ q → A q) (hX : va_X b L xs s s.heap) (hbl : b < s.heap.size) (hbA : ¬ A b) {x3 y : Int32} (h1 : vp_in (x3 + 1) L) (h2 : vp_in (x3 + 2) L) (h3 : vp_in (x3 + 3) L) (h4 : vp_in (x3 + 4) L) {H : Heap} {locs : List Loc} {ls : Array Slot} (hl : lv_has ls 4 [(0, .ref b), (1, .ref a_x), (2, .ref a_m), (3, .int x3)]) (hI : LI D cI cB cZ cR cM cS a_x a_x_tape a_x_now a_x_trial a_x_sights a_x_images a_x_sheets a_x_tape_bytes a_x_tape_draft a_x_tape_draft_signs a_x_tape_draft_rotors a_x_tape_draft_rotors_e a_x_now_signs a_x_now_rotors a_x_now_rotors_e a_x_trial_signs a_x_trial_rotors a_x_trial_rotors_e a_x_sights_ticksOn a_x_sights_who a_x_sights_left a_x_images_e a_x_images_0_drive a_x_images_0_sights a_x_images_0_drive_signs a_x_images_0_drive_rotors a_x_images_0_drive_rotors_e a_x_images_0_sights_ticksOn a_x_images_0_sights_who a_x_images_0_sights_left a_x_images_1_drive a_x_images_1_sights a_x_images_1_drive_signs a_x_images_1_drive_rotors a_x_images_1_drive_rotors_e a_x_images_1_sights_ticksOn a_x_images_1_sights_who a_x_images_1_sights_left a_x_sheets_e a_x_sheets_c a_m a_m_st a_m_now a_m_isKept a_m_draft a_m_tape a_m_wereAt a_m_byPlace a_m_lanes a_m_sizes a_m_cells a_m_before A H) (hS : va_S A s.heap H locs) (hk : ∀ (H : Heap) (locs : List Loc), LI D cI cB cZ cR cM cS a_x a_x_tape a_x_now a_x_trial a_x_sights a_x_images a_x_sheets a_x_tape_bytes a_x_tape_draft a_x_tape_draft_signs a_x_tape_draft_rotors a_x_tape_draft_rotors_e a_x_now_signs a_x_now_rotors a_x_now_rotors_e a_x_trial_signs a_x_trial_rotors a_x_trial_rotors_e a_x_sights_ticksOn a_x_sights_who a_x_sights_left a_x_images_e a_x_images_0_drive a_x_images_0_sights a_x_images_0_drive_signs a_x_images_0_drive_rotors a_x_images_0_drive_rotors_e a_x_images_0_sights_ticksOn a_x_images_0_sights_who a_x_images_0_sights_left a_x_images_1_drive a_x_images_1_sights a_x_images_1_drive_signs a_x_images_1_drive_rotors a_x_images_1_drive_rotors_e a_x_images_1_sights_ticksOn a_x_images_1_sights_who a_x_images_1_sights_left a_x_sheets_e a_x_sheets_c a_m a_m_st a_m_now a_m_isKept a_m_draft a_m_tape a_m_wereAt a_m_byPlace a_m_lanes a_m_sizes a_m_cells a_m_before A H → va_S A s.heap H locs → W p l e room_1 s m #[Value.ref b] below meth c H locs 600000 7302250 (lw_Z below #[Value.ref b] s) (F0 m 1403 ls [])) : W p l e room_1 s m #[Value.ref b] below meth c H locs 600000 7302250 (lw_Z below #[Value.ref b] s) (F0 m 32 ls [.int y]) := by
  by_cases c0 : y = (0 : Int32)
  · refine lv_tableIn (tgt := 204) C.1 C.2.1 dL_law_32 (by rw [c0]; decide) (by rw [c0]; decide) (by rw [c0]; rfl) (by decide) ?_
    exact law_feed C hK hQ hA hX hbl hbA h1 h2 h3 h4 hl hI hS hk
  by_cases c1 : y = (1 : Int32)
  · refine lv_tableIn (tgt := 227) C.1 C.2.1 dL_law_32 (by rw [c1]; decide) (by rw [c1]; decide) (by rw [c1]; rfl) (by decide) ?_
    exact law_end C hK hQ hA hX hbl hbA h1 h2 h3 h4 hl hI hS hk
  by_cases c2 : y = (2 : Int32)
  · refine lv_tableIn (tgt := 250) C.1 C.2.1 dL_law_32 (by rw [c2]; decide) (by rw [c2]; decide) (by rw [c2]; rfl) (by decide) ?_
    exact law_text C hK hQ hA hX hbl hbA h1 h2 h3 h4 hl hI hS hk
  by_cases c3 : y = (3 : Int32)
  · refine lv_tableIn (tgt := 263) C.1 C.2.1 dL_law_32 (by rw [c3]; decide) (by rw [c3]; decide) (by rw [c3]; rfl) (by decide) ?_
    exact law_fault C hK hQ hA hX hbl hbA h1 h2 h3 h4 hl hI hS hk
  by_cases c4 : y = (4 : Int32)
  · refine lv_tableIn (tgt := 276) C.1 C.2.1 dL_law_32 (by rw [c4]; decide) (by rw [c4]; decide) (by rw [c4]; rfl) (by decide) ?_
    exact law_rule C hK hQ hA hX hbl hbA h1 h2 h3 h4 hl hI hS hk
  by_cases c5 : y = (5 : Int32)
  · refine lv_tableIn (tgt := 299) C.1 C.2.1 dL_law_32 (by rw [c5]; decide) (by rw [c5]; decide) (by rw [c5]; rfl) (by decide) ?_
    exact law_rotor C hK hQ hA hX hbl hbA h1 h2 h3 h4 hl hI hS hk
  by_cases c6 : y = (6 : Int32)
  · refine lv_tableIn (tgt := 332) C.1 C.2.1 dL_law_32 (by rw [c6]; decide) (by rw [c6]; decide) (by rw [c6]; rfl) (by decide) ?_
    exact law_sign C hK hQ hA hX hbl hbA h1 h2 h3 h4 hl hI hS hk
  by_cases c7 : y = (7 : Int32)
  · refine lv_tableIn (tgt := 355) C.1 C.2.1 dL_law_32 (by rw [c7]; decide) (by rw [c7]; decide) (by rw [c7]; rfl) (by decide) ?_
    exact law_alter C hK hQ hA hX hbl hbA h1 h2 h3 h4 hl hI hS hk
  by_cases c8 : y = (8 : Int32)
  · refine lv_tableIn (tgt := 398) C.1 C.2.1 dL_law_32 (by rw [c8]; decide) (by rw [c8]; decide) (by rw [c8]; rfl) (by decide) ?_
    exact law_turn C hK hQ hA hX hbl hbA h1 h2 h3 h4 hl hI hS hk
  by_cases c9 : y = (9 : Int32)
  · refine lv_tableIn (tgt := 431) C.1 C.2.1 dL_law_32 (by rw [c9]; decide) (by rw [c9]; decide) (by rw [c9]; rfl) (by decide) ?_
    exact law_set C hK hQ hA hX hbl hbA h1 h2 h3 h4 hl hI hS hk
  by_cases c10 : y = (10 : Int32)
  · refine lv_tableIn (tgt := 464) C.1 C.2.1 dL_law_32 (by rw [c10]; decide) (by rw [c10]; decide) (by rw [c10]; rfl) (by decide) ?_
    exact law_every C hK hQ hA hX hbl hbA h1 h2 h3 h4 hl hI hS hk
  by_cases c11 : y = (11 : Int32)
  · refine lv_tableIn (tgt := 487) C.1 C.2.1 dL_law_32 (by rw [c11]; decide) (by rw [c11]; decide) (by rw [c11]; rfl) (by decide) ?_
    exact law_add C hK hQ hA hX hbl hbA h1 h2 h3 h4 hl hI hS hk
  by_cases c12 : y = (12 : Int32)
  · refine lv_tableIn (tgt := 510) C.1 C.2.1 dL_law_32 (by rw [c12]; decide) (by rw [c12]; decide) (by rw [c12]; rfl) (by decide) ?_
    exact law_cut C hK hQ hA hX hbl hbA h1 h2 h3 h4 hl hI hS hk
  by_cases c13 : y = (13 : Int32)
  · refine lv_tableIn (tgt := 533) C.1 C.2.1 dL_law_32 (by rw [c13]; decide) (by rw [c13]; decide) (by rw [c13]; rfl) (by decide) ?_
    exact law_ticks C hK hQ hA hX hbl hbA h1 h2 h3 h4 hl hI hS hk
  by_cases c14 : y = (14 : Int32)
  · refine lv_tableIn (tgt := 556) C.1 C.2.1 dL_law_32 (by rw [c14]; decide) (by rw [c14]; decide) (by rw [c14]; rfl) (by decide) ?_
    exact law_runs C hK hQ hA hX hbl hbA h1 h2 h3 h4 hl hI hS hk
  by_cases c15 : y = (15 : Int32)
  · refine lv_tableIn (tgt := 589) C.1 C.2.1 dL_law_32 (by rw [c15]; decide) (by rw [c15]; decide) (by rw [c15]; rfl) (by decide) ?_
    exact law_ahead C hK hQ hA hX hbl hbA h1 h2 h3 h4 hl hI hS hk
  by_cases c16 : y = (16 : Int32)
  · refine lv_tableIn (tgt := 632) C.1 C.2.1 dL_law_32 (by rw [c16]; decide) (by rw [c16]; decide) (by rw [c16]; rfl) (by decide) ?_
    exact law_when C hK hQ hA hX hbl hbA h1 h2 h3 h4 hl hI hS hk
  by_cases c17 : y = (17 : Int32)
  · refine lv_tableIn (tgt := 655) C.1 C.2.1 dL_law_32 (by rw [c17]; decide) (by rw [c17]; decide) (by rw [c17]; rfl) (by decide) ?_
    exact law_slow C hK hQ hA hX hbl hbA h1 h2 h3 h4 hl hI hS hk
  by_cases c18 : y = (18 : Int32)
  · refine lv_tableIn (tgt := 688) C.1 C.2.1 dL_law_32 (by rw [c18]; decide) (by rw [c18]; decide) (by rw [c18]; rfl) (by decide) ?_
    exact law_need C hK hQ hA hX hbl hbA h1 h2 h3 h4 hl hI hS hk
  by_cases c19 : y = (19 : Int32)
  · refine lv_tableIn (tgt := 721) C.1 C.2.1 dL_law_32 (by rw [c19]; decide) (by rw [c19]; decide) (by rw [c19]; rfl) (by decide) ?_
    exact law_kind C hK hQ hA hX hbl hbA h1 h2 h3 h4 hl hI hS hk
  by_cases c20 : y = (20 : Int32)
  · refine lv_tableIn (tgt := 764) C.1 C.2.1 dL_law_32 (by rw [c20]; decide) (by rw [c20]; decide) (by rw [c20]; rfl) (by decide) ?_
    exact law_swap C hK hQ hA hX hbl hbA h1 h2 h3 h4 hl hI hS hk
  by_cases c21 : y = (21 : Int32)
  · refine lv_tableIn (tgt := 797) C.1 C.2.1 dL_law_32 (by rw [c21]; decide) (by rw [c21]; decide) (by rw [c21]; rfl) (by decide) ?_
    exact law_ease C hK hQ hA hX hbl hbA h1 h2 h3 h4 hl hI hS hk
  by_cases c22 : y = (22 : Int32)
  · refine lv_tableIn (tgt := 830) C.1 C.2.1 dL_law_32 (by rw [c22]; decide) (by rw [c22]; decide) (by rw [c22]; rfl) (by decide) ?_
    exact law_begin C hK hQ hA hX hbl hbA h1 h2 h3 h4 hl hI hS hk
  by_cases c23 : y = (23 : Int32)
  · refine lv_tableIn (tgt := 873) C.1 C.2.1 dL_law_32 (by rw [c23]; decide) (by rw [c23]; decide) (by rw [c23]; rfl) (by decide) ?_
    exact law_luck C hK hQ hA hX hbl hbA h1 h2 h3 h4 hl hI hS hk
  by_cases c24 : y = (24 : Int32)
  · refine lv_tableIn (tgt := 927) C.1 C.2.1 dL_law_32 (by rw [c24]; decide) (by rw [c24]; decide) (by rw [c24]; rfl) (by decide) ?_
    exact law_mean C hK hQ hA hX hbl hbA h1 h2 h3 h4 hl hI hS hk
  by_cases c25 : y = (25 : Int32)
  · refine lv_tableIn (tgt := 971) C.1 C.2.1 dL_law_32 (by rw [c25]; decide) (by rw [c25]; decide) (by rw [c25]; rfl) (by decide) ?_
    exact law_see C hK hQ hA hX hbl hbA h1 h2 h3 h4 hl hI hS hk
  by_cases c26 : y = (26 : Int32)
  · refine lv_tableIn (tgt := 1014) C.1 C.2.1 dL_law_32 (by rw [c26]; decide) (by rw [c26]; decide) (by rw [c26]; rfl) (by decide) ?_
    exact law_forget C hK hQ hA hX hbl hbA h1 h2 h3 h4 hl hI hS hk
  by_cases c27 : y = (27 : Int32)
  · refine lv_tableIn (tgt := 1037) C.1 C.2.1 dL_law_32 (by rw [c27]; decide) (by rw [c27]; decide) (by rw [c27]; rfl) (by decide) ?_
    exact law_kinds C hK hQ hA hX hbl hbA h1 h2 h3 h4 hl hI hS hk
  by_cases c28 : y = (28 : Int32)
  · refine lv_tableIn (tgt := 1060) C.1 C.2.1 dL_law_32 (by rw [c28]; decide) (by rw [c28]; decide) (by rw [c28]; rfl) (by decide) ?_
    exact law_grips C hK hQ hA hX hbl hbA h1 h2 h3 h4 hl hI hS hk
  by_cases c29 : y = (29 : Int32)
  · refine lv_tableIn (tgt := 1083) C.1 C.2.1 dL_law_32 (by rw [c29]; decide) (by rw [c29]; decide) (by rw [c29]; rfl) (by decide) ?_
    exact law_starts C hK hQ hA hX hbl hbA h1 h2 h3 h4 hl hI hS hk
  by_cases c30 : y = (30 : Int32)
  · refine lv_tableIn (tgt := 1106) C.1 C.2.1 dL_law_32 (by rw [c30]; decide) (by rw [c30]; decide) (by rw [c30]; rfl) (by decide) ?_
    exact law_ask C hK hQ hA hX hbl hbA h1 h2 h3 h4 hl hI hS hk
  by_cases c31 : y = (31 : Int32)
  · refine lv_tableIn (tgt := 1139) C.1 C.2.1 dL_law_32 (by rw [c31]; decide) (by rw [c31]; decide) (by rw [c31]; rfl) (by decide) ?_
    exact law_drift C hK hQ hA hX hbl hbA h1 h2 h3 h4 hl hI hS hk
  by_cases c32 : y = (32 : Int32)
  · refine lv_tableIn (tgt := 1182) C.1 C.2.1 dL_law_32 (by rw [c32]; decide) (by rw [c32]; decide) (by rw [c32]; rfl) (by decide) ?_
    exact law_keep C hK hQ hA hX hbl hbA h1 h2 h3 h4 hl hI hS hk
  by_cases c33 : y = (33 : Int32)
  · refine lv_tableIn (tgt := 1205) C.1 C.2.1 dL_law_32 (by rw [c33]; decide) (by rw [c33]; decide) (by rw [c33]; rfl) (by decide) ?_
    exact law_back C hK hQ hA hX hbl hbA h1 h2 h3 h4 hl hI hS hk
  by_cases c34 : y = (34 : Int32)
  · refine lv_tableIn (tgt := 1228) C.1 C.2.1 dL_law_32 (by rw [c34]; decide) (by rw [c34]; decide) (by rw [c34]; rfl) (by decide) ?_
    exact law_sheet C hK hQ hA hX hbl hbA h1 h2 h3 h4 hl hI hS hk
  by_cases c35 : y = (35 : Int32)
  · refine lv_tableIn (tgt := 1271) C.1 C.2.1 dL_law_32 (by rw [c35]; decide) (by rw [c35]; decide) (by rw [c35]; rfl) (by decide) ?_
    exact law_lay C hK hQ hA hX hbl hbA h1 h2 h3 h4 hl hI hS hk
  by_cases c36 : y = (36 : Int32)
  · refine lv_tableIn (tgt := 1314) C.1 C.2.1 dL_law_32 (by rw [c36]; decide) (by rw [c36]; decide) (by rw [c36]; rfl) (by decide) ?_
    exact law_read C hK hQ hA hX hbl hbA h1 h2 h3 h4 hl hI hS hk
  by_cases c37 : y = (37 : Int32)
  · refine lv_tableIn (tgt := 1367) C.1 C.2.1 dL_law_32 (by rw [c37]; decide) (by rw [c37]; decide) (by rw [c37]; rfl) (by decide) ?_
    exact law_torn C hK hQ hA hX hbl hbA h1 h2 h3 h4 hl hI hS hk
  by_cases c38 : y = (38 : Int32)
  · refine lv_tableIn (tgt := 1380) C.1 C.2.1 dL_law_32 (by rw [c38]; decide) (by rw [c38]; decide) (by rw [c38]; rfl) (by decide) ?_
    exact law_count C hK hQ hA hX hbl hbA h1 h2 h3 h4 hl hI hS hk
  refine lv_tableOut (tgt := 1403) C.1 C.2.1 dL_law_32 (by have q0 := lv_neT (k := 0) (a := 0) c0 (by decide); have q1 := lv_neT (k := 1) (a := 1) c1 (by decide); have q2 := lv_neT (k := 2) (a := 2) c2 (by decide); have q3 := lv_neT (k := 3) (a := 3) c3 (by decide); have q4 := lv_neT (k := 4) (a := 4) c4 (by decide); have q5 := lv_neT (k := 5) (a := 5) c5 (by decide); have q6 := lv_neT (k := 6) (a := 6) c6 (by decide); have q7 := lv_neT (k := 7) (a := 7) c7 (by decide); have q8 := lv_neT (k := 8) (a := 8) c8 (by decide); have q9 := lv_neT (k := 9) (a := 9) c9 (by decide); have q10 := lv_neT (k := 10) (a := 10) c10 (by decide); have q11 := lv_neT (k := 11) (a := 11) c11 (by decide); have q12 := lv_neT (k := 12) (a := 12) c12 (by decide); have q13 := lv_neT (k := 13) (a := 13) c13 (by decide); have q14 := lv_neT (k := 14) (a := 14) c14 (by decide); have q15 := lv_neT (k := 15) (a := 15) c15 (by decide); have q16 := lv_neT (k := 16) (a := 16) c16 (by decide); have q17 := lv_neT (k := 17) (a := 17) c17 (by decide); have q18 := lv_neT (k := 18) (a := 18) c18 (by decide); have q19 := lv_neT (k := 19) (a := 19) c19 (by decide); have q20 := lv_neT (k := 20) (a := 20) c20 (by decide); have q21 := lv_neT (k := 21) (a := 21) c21 (by decide); have q22 := lv_neT (k := 22) (a := 22) c22 (by decide); have q23 := lv_neT (k := 23) (a := 23) c23 (by decide); have q24 := lv_neT (k := 24) (a := 24) c24 (by decide); have q25 := lv_neT (k := 25) (a := 25) c25 (by decide); have q26 := lv_neT (k := 26) (a := 26) c26 (by decide); have q27 := lv_neT (k := 27) (a := 27) c27 (by decide); have q28 := lv_neT (k := 28) (a := 28) c28 (by decide); have q29 := lv_neT (k := 29) (a := 29) c29 (by decide); have q30 := lv_neT (k := 30) (a := 30) c30 (by decide); have q31 := lv_neT (k := 31) (a := 31) c31 (by decide); have q32 := lv_neT (k := 32) (a := 32) c32 (by decide); have q33 := lv_neT (k := 33) (a := 33) c33 (by decide); have q34 := lv_neT (k := 34) (a := 34) c34 (by decide); have q35 := lv_neT (k := 35) (a := 35) c35 (by decide); have q36 := lv_neT (k := 36) (a := 36) c36 (by decide); have q37 := lv_neT (k := 37) (a := 37) c37 (by decide); have q38 := lv_neT (k := 38) (a := 38) c38 (by decide); omega) (by decide) ?_
  exact hk _ _ hI hS
set_option maxHeartbeats 4000000 in
set_option maxRecDepth 100000 in
theorem law_loop {p : Program} {l : Launch} {e : Env} {s : State} {m : MethodId} {below : List Frame} {meth : Method} {c : Code} {D : va_G} {cI cB cZ cR cM cS : ClassId} {a_x : Nat} {a_x_tape : Nat} {a_x_now : Nat} {a_x_trial : Nat} {a_x_sights : Nat} {a_x_images : Nat} {a_x_sheets : Nat} {a_x_tape_bytes : Nat} {a_x_tape_draft : Nat} {a_x_tape_draft_signs : Nat} {a_x_tape_draft_rotors : Nat} {a_x_tape_draft_rotors_e : Nat → Nat} {a_x_now_signs : Nat} {a_x_now_rotors : Nat} {a_x_now_rotors_e : Nat → Nat} {a_x_trial_signs : Nat} {a_x_trial_rotors : Nat} {a_x_trial_rotors_e : Nat → Nat} {a_x_sights_ticksOn : Nat} {a_x_sights_who : Nat} {a_x_sights_left : Nat} {a_x_images_e : Nat → Nat} {a_x_images_0_drive : Nat} {a_x_images_0_sights : Nat} {a_x_images_0_drive_signs : Nat} {a_x_images_0_drive_rotors : Nat} {a_x_images_0_drive_rotors_e : Nat → Nat} {a_x_images_0_sights_ticksOn : Nat} {a_x_images_0_sights_who : Nat} {a_x_images_0_sights_left : Nat} {a_x_images_1_drive : Nat} {a_x_images_1_sights : Nat} {a_x_images_1_drive_signs : Nat} {a_x_images_1_drive_rotors : Nat} {a_x_images_1_drive_rotors_e : Nat → Nat} {a_x_images_1_sights_ticksOn : Nat} {a_x_images_1_sights_who : Nat} {a_x_images_1_sights_left : Nat} {a_x_sheets_e : Nat → Nat} {a_x_sheets_c : Nat → Nat} {a_m : Nat} {a_m_st : Nat} {a_m_now : Nat} {a_m_isKept : Nat} {a_m_draft : Nat} {a_m_tape : Nat} {a_m_wereAt : Nat} {a_m_byPlace : Nat} {a_m_lanes : Nat} {a_m_sizes : Nat} {a_m_cells : Nat} {a_m_before : Nat} {adK adV : Nat → Nat} {A : Nat → Prop} {b L : Nat} {xs : Nat → Int32} (C : CX p m c cL_law 4 s #[Value.ref b] RL) (hK : KK D (TS cI cB cZ cR cM cS) s) (hQ : SQ adK adV A s s.heap) (hA : ∀ q, s.heap.size ≤ q → A q) (hX : va_X b L xs s s.heap) (hbl : b < s.heap.size) (hbA : ¬ A b) (hr : meth.sig.returnType = ret) (hlk : meth.locks = false) (hL : L ≤ 2560) (hAA : ∀ q, A q → s.heap.size ≤ q) : ∀ (n i : Nat), i ≤ L + 5 → L + 6 ≤ i + n → ∀ (H : Heap) (locs : List Loc) (ls : Array Slot), lv_has ls 4 [(0, .ref b), (1, .ref a_x), (2, .ref a_m), (3, .int (nI i))] → LI D cI cB cZ cR cM cS a_x a_x_tape a_x_now a_x_trial a_x_sights a_x_images a_x_sheets a_x_tape_bytes a_x_tape_draft a_x_tape_draft_signs a_x_tape_draft_rotors a_x_tape_draft_rotors_e a_x_now_signs a_x_now_rotors a_x_now_rotors_e a_x_trial_signs a_x_trial_rotors a_x_trial_rotors_e a_x_sights_ticksOn a_x_sights_who a_x_sights_left a_x_images_e a_x_images_0_drive a_x_images_0_sights a_x_images_0_drive_signs a_x_images_0_drive_rotors a_x_images_0_drive_rotors_e a_x_images_0_sights_ticksOn a_x_images_0_sights_who a_x_images_0_sights_left a_x_images_1_drive a_x_images_1_sights a_x_images_1_drive_signs a_x_images_1_drive_rotors a_x_images_1_drive_rotors_e a_x_images_1_sights_ticksOn a_x_images_1_sights_who a_x_images_1_sights_left a_x_sheets_e a_x_sheets_c a_m a_m_st a_m_now a_m_isKept a_m_draft a_m_tape a_m_wereAt a_m_byPlace a_m_lanes a_m_sizes a_m_cells a_m_before A H → va_S A s.heap H locs → W p l e room_1 s m #[Value.ref b] below meth c H locs 600000 7302250 (lw_Z below #[Value.ref b] s) (F0 m 18 ls []) := by
  intro n
  induction n with
  | zero => intro i h1 h2; exact absurd h2 (by omega)
  | succ n ih =>
    intro i hi hin H locs ls hl hI hS
    refine lv_iload_n C.1 C.2.1 dL_law_18 rfl (lv_at hl 3 rfl) ?_
    refine lv_aload_n C.1 C.2.1 dL_law_19 rfl (lv_at hl 0 rfl) ?_
    refine va_slen C.1 C.2.1 hX hbl hbA hS dL_law_20 ?_
    refine lv_iconst (v := 5) C.1 C.2.1 dL_law_21 (by decide) ?_
    refine lv_isub C.1 C.2.1 dL_law_22 ?_
    have hsub : (Int32.ofNat L - 5).toInt = (L : Int) - 5 := pk_sub_toInt (a := L) (b := 5) (by omega) (by omega)
    have hit : (nI i).toInt = (i : Int) := nI_toInt (by omega)
    refine lv_icmp_gt (tgt := 1409) C.1 C.2.1 dL_law_23 (by decide) (fun c1 => ?_) (fun c1 => ?_)
    · refine lv_iconst (v := 1) C.1 C.2.1 dL_law_1409 (by decide) ?_
      refine va_forget (fun q hq => hAA _ (hS.2.2 q hq)) ?_
      exact lw_ret C.1 C.2.1 hr hlk dL_law_1410
    · have hle : i + 5 ≤ L := by
        have h := c1
        rw [Int32.lt_iff_toInt_lt, hsub, hit] at h
        omega
      have inx : ∀ j, j < 5 → vp_in (nI i + nI j) L := fun j hj => by rw [nI_add]; exact vp_in_nI (by omega) (by omega)
      refine lv_aload_n C.1 C.2.1 dL_law_26 rfl (lv_at hl 0 rfl) ?_
      refine lv_iload_n C.1 C.2.1 dL_law_27 rfl (lv_at hl 3 rfl) ?_
      refine va_sld C.1 C.2.1 hX hbl hbA hS (vp_in_nI (by omega) (by omega)) dL_law_28 ?_
      refine lv_bipush (v := 63) C.1 C.2.1 dL_law_29 (by decide) ?_
      refine lv_iand C.1 C.2.1 dL_law_31 ?_
      refine law_switch C hK hQ hA hX hbl hbA (inx 1 (by omega)) (inx 2 (by omega)) (inx 3 (by omega)) (inx 4 (by omega)) hl hI hS (fun H locs hI hS => ?_)
      refine lv_iinc (v := nI (i + 5)) (lv' := [(3, .int (nI (i + 5))), (0, .ref b), (1, .ref a_x), (2, .ref a_m)]) C.1 C.2.1 dL_law_1403 hl (k := 3) rfl (nI_add i 5) (by decide) rfl (fun ls hl => ?_)
      refine lv_goto (tgt := 18) C.1 C.2.1 dL_law_1406 (by decide) ?_
      exact ih (i + 5) (by omega) (by omega) H locs ls (lv_sub hl [1, 2, 3, 0] rfl) hI hS
