def TB : List Cond := lw_tbl.filter goodWord
theorem TBo {w : Cond} (h : w ∈ lw_tbl) (g : goodWord w = true) : w ∈ TB := List.mem_filter.mpr ⟨h, g⟩
theorem TBi : ∀ w ∈ TB, w ∈ lw_tbl := fun _ h => (List.mem_filter.mp h).1
theorem TBg : ∀ w ∈ TB, goodWord w = true := fun _ h => (List.mem_filter.mp h).2
theorem tb0 : ∀ w ∈ k2_sels lw_privs, w ∈ lw_tbl := fun _ h => List.mem_append_left _ h
theorem tb1 : ∀ w ∈ tables_1_1, w ∈ lw_tbl := fun _ h => List.mem_append_right _ (List.mem_append_left _ h)
theorem tb2 : ∀ w ∈ tables_1_2, w ∈ lw_tbl := fun _ h => List.mem_append_right _ (List.mem_append_right _ (List.mem_append_left _ h))
theorem tb3 : ∀ w ∈ tables_1_3, w ∈ lw_tbl := fun _ h => List.mem_append_right _ (List.mem_append_right _ (List.mem_append_right _ (List.mem_append_left _ h)))
theorem tb4 : ∀ w ∈ tables_1_4, w ∈ lw_tbl := fun _ h => List.mem_append_right _ (List.mem_append_right _ (List.mem_append_right _ (List.mem_append_right _ (List.mem_append_left _ h))))
theorem tb5 : ∀ w ∈ tables_1_5, w ∈ lw_tbl := fun _ h => List.mem_append_right _ (List.mem_append_right _ (List.mem_append_right _ (List.mem_append_right _ (List.mem_append_right _ h))))
theorem kw1_0 : Cond.initialized RL ∈ TB := TBo (tb1 _ (List.mem_of_getElem? (i := 0) rfl)) rfl
theorem kw1_1 : Cond.initialized RX6 ∈ TB := TBo (tb1 _ (List.mem_of_getElem? (i := 1) rfl)) rfl
theorem kw1_2 : Cond.initialized RX5 ∈ TB := TBo (tb1 _ (List.mem_of_getElem? (i := 2) rfl)) rfl
theorem kw1_3 : Cond.initialized RX0 ∈ TB := TBo (tb1 _ (List.mem_of_getElem? (i := 3) rfl)) rfl
theorem kw1_4 : Cond.initialized RX2 ∈ TB := TBo (tb1 _ (List.mem_of_getElem? (i := 4) rfl)) rfl
theorem kw1_5 : Cond.initialized RX4 ∈ TB := TBo (tb1 _ (List.mem_of_getElem? (i := 5) rfl)) rfl
theorem kw1_6 : Cond.initialized RX1 ∈ TB := TBo (tb1 _ (List.mem_of_getElem? (i := 6) rfl)) rfl
theorem kw1_7 : Cond.initialized RX3 ∈ TB := TBo (tb1 _ (List.mem_of_getElem? (i := 7) rfl)) rfl
theorem kw1_8 : Cond.initialized RX7 ∈ TB := TBo (tb1 _ (List.mem_of_getElem? (i := 8) rfl)) rfl
theorem kw1_9 : Cond.initialized RJ0 ∈ TB := TBo (tb1 _ (List.mem_of_getElem? (i := 9) rfl)) rfl
theorem kw1_10 : Cond.initialized RJ1 ∈ TB := TBo (tb1 _ (List.mem_of_getElem? (i := 10) rfl)) rfl
theorem kw1_11 : Cond.initialized RJ3 ∈ TB := TBo (tb1 _ (List.mem_of_getElem? (i := 11) rfl)) rfl
theorem kw1_12 : Cond.initialized RJ2 ∈ TB := TBo (tb1 _ (List.mem_of_getElem? (i := 12) rfl)) rfl
theorem kw1_13 : Cond.initialized RJ10 ∈ TB := TBo (tb1 _ (List.mem_of_getElem? (i := 13) rfl)) rfl
theorem kw1_14 : Cond.initialized RJ9 ∈ TB := TBo (tb1 _ (List.mem_of_getElem? (i := 14) rfl)) rfl
theorem kw1_15 : Cond.initialized RJ6 ∈ TB := TBo (tb1 _ (List.mem_of_getElem? (i := 15) rfl)) rfl
theorem kw1_16 : Cond.classLink RL 7 RX6 ∈ TB := TBo (tb1 _ (List.mem_of_getElem? (i := 16) rfl)) rfl
theorem kw1_17 : Cond.instantiable RX6 7 ∈ TB := TBo (tb1 _ (List.mem_of_getElem? (i := 17) rfl)) rfl
theorem kw1_18 : Cond.methodLink RL 9 yX6_init ∈ TB := TBo (tb1 _ (List.mem_of_getElem? (i := 18) rfl)) rfl
theorem kw1_19 : Cond.instanceMethod yX6_init ∈ TB := TBo (tb1 _ (List.mem_of_getElem? (i := 19) rfl)) rfl
theorem kw1_20 : Cond.code yX6_init cX6_init 2 none ∈ TB := TBo (tb1 _ (List.mem_of_getElem? (i := 20) rfl)) rfl
theorem kw1_21 : Cond.methodLink RX6 1 objectInit ∈ TB := TBo (tb1 _ (List.mem_of_getElem? (i := 21) rfl)) rfl
theorem kw1_22 : Cond.instanceMethod objectInit ∈ TB := TBo (tb1 _ (List.mem_of_getElem? (i := 22) rfl)) rfl
theorem kw1_23 : Cond.code objectInit ⟨#[0xb1]⟩ 1 none ∈ TB := TBo (tb1 _ (List.mem_of_getElem? (i := 23) rfl)) rfl
theorem kw1_24 : Cond.classLink RX6 7 RX5 ∈ TB := TBo (tb1 _ (List.mem_of_getElem? (i := 24) rfl)) rfl
theorem kw1_25 : Cond.instantiable RX5 11 ∈ TB := TBo (tb1 _ (List.mem_of_getElem? (i := 25) rfl)) rfl
theorem kw1_26 : Cond.methodLink RX6 9 yX5_init ∈ TB := TBo (tb1 _ (List.mem_of_getElem? (i := 26) rfl)) rfl
theorem kw1_27 : Cond.instanceMethod yX5_init ∈ TB := TBo (tb1 _ (List.mem_of_getElem? (i := 27) rfl)) rfl
theorem kw1_28 : Cond.code yX5_init cX5_init 1 none ∈ TB := TBo (tb1 _ (List.mem_of_getElem? (i := 28) rfl)) rfl
theorem kw1_29 : Cond.methodLink RX5 3 objectInit ∈ TB := TBo (tb1 _ (List.mem_of_getElem? (i := 29) rfl)) rfl
theorem kw1_30 : Cond.classLink RX5 15 RX0 ∈ TB := TBo (tb1 _ (List.mem_of_getElem? (i := 30) rfl)) rfl
theorem kw1_31 : Cond.instantiable RX0 7 ∈ TB := TBo (tb1 _ (List.mem_of_getElem? (i := 31) rfl)) rfl
theorem kw1_32 : Cond.methodLink RX5 17 yX0_init ∈ TB := TBo (tb1 _ (List.mem_of_getElem? (i := 32) rfl)) rfl
theorem kw1_33 : Cond.instanceMethod yX0_init ∈ TB := TBo (tb1 _ (List.mem_of_getElem? (i := 33) rfl)) rfl
theorem kw1_34 : Cond.code yX0_init cX0_init 2 none ∈ TB := TBo (tb1 _ (List.mem_of_getElem? (i := 34) rfl)) rfl
theorem kw1_35 : Cond.methodLink RX0 3 objectInit ∈ TB := TBo (tb1 _ (List.mem_of_getElem? (i := 35) rfl)) rfl
theorem kw1_36 : Cond.classLink RX0 19 RX2 ∈ TB := TBo (tb1 _ (List.mem_of_getElem? (i := 36) rfl)) rfl
theorem kw1_38 : Cond.instantiable RX2 4 ∈ TB := TBo (tb1 _ (List.mem_of_getElem? (i := 38) rfl)) rfl
theorem kw1_40 : Cond.instanceMethod yX2_init ∈ TB := TBo (tb1 _ (List.mem_of_getElem? (i := 40) rfl)) rfl
theorem kw1_41 : Cond.code yX2_init cX2_init 1 none ∈ TB := TBo (tb1 _ (List.mem_of_getElem? (i := 41) rfl)) rfl
theorem kw1_42 : Cond.methodLink RX2 3 objectInit ∈ TB := TBo (tb1 _ (List.mem_of_getElem? (i := 42) rfl)) rfl
theorem kw1_43 : Cond.fieldLink RX2 9 "CoilWheels$Rotor" "sort" "I" ∈ TB := TBo (tb1 _ (List.mem_of_getElem? (i := 43) rfl)) rfl
theorem kw1_44 : Cond.fieldLink RX6 113 "CoilWheels$Rotor" "sort" "I" ∈ TB := TBo (tb1 _ (List.mem_of_getElem? (i := 44) rfl)) rfl
theorem kw1_45 : Cond.fieldLink RX2 15 "CoilWheels$Rotor" "grip" "I" ∈ TB := TBo (tb1 _ (List.mem_of_getElem? (i := 45) rfl)) rfl
theorem kw1_46 : Cond.fieldLink RX6 118 "CoilWheels$Rotor" "grip" "I" ∈ TB := TBo (tb1 _ (List.mem_of_getElem? (i := 46) rfl)) rfl
theorem kw1_47 : Cond.fieldLink RX0 85 "CoilWheels$Rotor" "grip" "I" ∈ TB := TBo (tb1 _ (List.mem_of_getElem? (i := 47) rfl)) rfl
theorem kw1_48 : Cond.fieldLink RX2 18 "CoilWheels$Rotor" "place" "I" ∈ TB := TBo (tb1 _ (List.mem_of_getElem? (i := 48) rfl)) rfl
theorem kw1_49 : Cond.fieldLink RX4 43 "CoilWheels$Rotor" "place" "I" ∈ TB := TBo (tb1 _ (List.mem_of_getElem? (i := 49) rfl)) rfl
theorem kw1_50 : Cond.fieldLink RX6 121 "CoilWheels$Rotor" "place" "I" ∈ TB := TBo (tb1 _ (List.mem_of_getElem? (i := 50) rfl)) rfl
theorem kw1_51 : Cond.fieldLink RX2 21 "CoilWheels$Rotor" "way" "I" ∈ TB := TBo (tb1 _ (List.mem_of_getElem? (i := 51) rfl)) rfl
theorem kw1_52 : Cond.fieldLink RX6 124 "CoilWheels$Rotor" "way" "I" ∈ TB := TBo (tb1 _ (List.mem_of_getElem? (i := 52) rfl)) rfl
theorem kw1_53 : Cond.fieldLink RX0 70 "CoilWheels$Rotor" "way" "I" ∈ TB := TBo (tb1 _ (List.mem_of_getElem? (i := 53) rfl)) rfl
theorem kw1_54 : Cond.lays "CoilWheels$Rotor" "CoilWheels$Rotor" "sort" "I" ∈ TB := TBo (tb1 _ (List.mem_of_getElem? (i := 54) rfl)) rfl
theorem kw1_56 : Cond.lays "CoilWheels$Rotor" "CoilWheels$Rotor" "grip" "I" ∈ TB := TBo (tb1 _ (List.mem_of_getElem? (i := 56) rfl)) rfl
theorem kw1_58 : Cond.lays "CoilWheels$Rotor" "CoilWheels$Rotor" "place" "I" ∈ TB := TBo (tb1 _ (List.mem_of_getElem? (i := 58) rfl)) rfl
theorem kw1_60 : Cond.lays "CoilWheels$Rotor" "CoilWheels$Rotor" "way" "I" ∈ TB := TBo (tb1 _ (List.mem_of_getElem? (i := 60) rfl)) rfl
theorem kw1_63 : Cond.arrayClass .byte ∈ TB := TBo (tb1 _ (List.mem_of_getElem? (i := 63) rfl)) rfl
theorem kw1_64 : Cond.arrayClass .int ∈ TB := TBo (tb1 _ (List.mem_of_getElem? (i := 64) rfl)) rfl
theorem kw1_65 : Cond.fieldLink RX0 26 "CoilWheels$Drive" "field" "I" ∈ TB := TBo (tb1 _ (List.mem_of_getElem? (i := 65) rfl)) rfl
theorem kw1_66 : Cond.fieldLink RX6 96 "CoilWheels$Drive" "field" "I" ∈ TB := TBo (tb1 _ (List.mem_of_getElem? (i := 66) rfl)) rfl
theorem kw1_67 : Cond.fieldLink RX0 29 "CoilWheels$Drive" "tick" "I" ∈ TB := TBo (tb1 _ (List.mem_of_getElem? (i := 67) rfl)) rfl
theorem kw1_68 : Cond.fieldLink RX6 89 "CoilWheels$Drive" "tick" "I" ∈ TB := TBo (tb1 _ (List.mem_of_getElem? (i := 68) rfl)) rfl
theorem kw1_69 : Cond.fieldLink RX0 9 "CoilWheels$Drive" "pace" "I" ∈ TB := TBo (tb1 _ (List.mem_of_getElem? (i := 69) rfl)) rfl
theorem kw1_70 : Cond.fieldLink RX5 100 "CoilWheels$Drive" "pace" "I" ∈ TB := TBo (tb1 _ (List.mem_of_getElem? (i := 70) rfl)) rfl
theorem kw1_71 : Cond.fieldLink RX6 92 "CoilWheels$Drive" "pace" "I" ∈ TB := TBo (tb1 _ (List.mem_of_getElem? (i := 71) rfl)) rfl
theorem kw1_72 : Cond.fieldLink RX0 32 "CoilWheels$Drive" "signNumber" "I" ∈ TB := TBo (tb1 _ (List.mem_of_getElem? (i := 72) rfl)) rfl
theorem kw1_73 : Cond.fieldLink RX6 86 "CoilWheels$Drive" "signNumber" "I" ∈ TB := TBo (tb1 _ (List.mem_of_getElem? (i := 73) rfl)) rfl
theorem kw1_74 : Cond.fieldLink RX0 35 "CoilWheels$Drive" "rotorNumber" "I" ∈ TB := TBo (tb1 _ (List.mem_of_getElem? (i := 74) rfl)) rfl
theorem kw1_75 : Cond.fieldLink RX5 77 "CoilWheels$Drive" "rotorNumber" "I" ∈ TB := TBo (tb1 _ (List.mem_of_getElem? (i := 75) rfl)) rfl
theorem kw1_76 : Cond.fieldLink RX6 83 "CoilWheels$Drive" "rotorNumber" "I" ∈ TB := TBo (tb1 _ (List.mem_of_getElem? (i := 76) rfl)) rfl
theorem kw1_77 : Cond.fieldLink RX0 15 "CoilWheels$Drive" "signs" "[I" ∈ TB := TBo (tb1 _ (List.mem_of_getElem? (i := 77) rfl)) rfl
theorem kw1_78 : Cond.fieldLink RX6 137 "CoilWheels$Drive" "signs" "[I" ∈ TB := TBo (tb1 _ (List.mem_of_getElem? (i := 78) rfl)) rfl
theorem kw1_79 : Cond.fieldLink RX0 21 "CoilWheels$Drive" "rotors" "[LCoilWheels$Rotor;" ∈ TB := TBo (tb1 _ (List.mem_of_getElem? (i := 79) rfl)) rfl
theorem kw1_80 : Cond.fieldLink RX4 37 "CoilWheels$Drive" "rotors" "[LCoilWheels$Rotor;" ∈ TB := TBo (tb1 _ (List.mem_of_getElem? (i := 80) rfl)) rfl
theorem kw1_81 : Cond.fieldLink RX6 109 "CoilWheels$Drive" "rotors" "[LCoilWheels$Rotor;" ∈ TB := TBo (tb1 _ (List.mem_of_getElem? (i := 81) rfl)) rfl
theorem kw1_82 : Cond.lays "CoilWheels$Drive" "CoilWheels$Drive" "field" "I" ∈ TB := TBo (tb1 _ (List.mem_of_getElem? (i := 82) rfl)) rfl
theorem kw1_84 : Cond.lays "CoilWheels$Drive" "CoilWheels$Drive" "tick" "I" ∈ TB := TBo (tb1 _ (List.mem_of_getElem? (i := 84) rfl)) rfl
theorem kw1_86 : Cond.lays "CoilWheels$Drive" "CoilWheels$Drive" "pace" "I" ∈ TB := TBo (tb1 _ (List.mem_of_getElem? (i := 86) rfl)) rfl
theorem kw1_88 : Cond.lays "CoilWheels$Drive" "CoilWheels$Drive" "signNumber" "I" ∈ TB := TBo (tb1 _ (List.mem_of_getElem? (i := 88) rfl)) rfl
theorem kw1_90 : Cond.lays "CoilWheels$Drive" "CoilWheels$Drive" "rotorNumber" "I" ∈ TB := TBo (tb1 _ (List.mem_of_getElem? (i := 90) rfl)) rfl
theorem kw1_92 : Cond.laysFinal "CoilWheels$Drive" "CoilWheels$Drive" "signs" "[I" ∈ TB := TBo (tb1 _ (List.mem_of_getElem? (i := 92) rfl)) rfl
theorem kw1_94 : Cond.laysFinal "CoilWheels$Drive" "CoilWheels$Drive" "rotors" "[LCoilWheels$Rotor;" ∈ TB := TBo (tb1 _ (List.mem_of_getElem? (i := 94) rfl)) rfl
theorem kw1_97 : Cond.fieldLink RX5 9 "CoilWheels$Tape" "bytes" "[B" ∈ TB := TBo (tb1 _ (List.mem_of_getElem? (i := 97) rfl)) rfl
theorem kw1_98 : Cond.fieldLink RX6 55 "CoilWheels$Tape" "bytes" "[B" ∈ TB := TBo (tb1 _ (List.mem_of_getElem? (i := 98) rfl)) rfl
theorem kw1_99 : Cond.fieldLink RX6 51 "CoilWheels$Tape" "length" "I" ∈ TB := TBo (tb1 _ (List.mem_of_getElem? (i := 99) rfl)) rfl
theorem kw1_100 : Cond.fieldLink RX5 110 "CoilWheels$Tape" "length" "I" ∈ TB := TBo (tb1 _ (List.mem_of_getElem? (i := 100) rfl)) rfl
theorem kw1_101 : Cond.fieldLink RX5 18 "CoilWheels$Tape" "draft" "LCoilWheels$Drive;" ∈ TB := TBo (tb1 _ (List.mem_of_getElem? (i := 101) rfl)) rfl
theorem kw1_102 : Cond.fieldLink RX6 69 "CoilWheels$Tape" "draft" "LCoilWheels$Drive;" ∈ TB := TBo (tb1 _ (List.mem_of_getElem? (i := 102) rfl)) rfl
theorem kw1_103 : Cond.fieldLink RX5 25 "CoilWheels$Tape" "fault" "I" ∈ TB := TBo (tb1 _ (List.mem_of_getElem? (i := 103) rfl)) rfl
theorem kw1_104 : Cond.fieldLink RX6 63 "CoilWheels$Tape" "fault" "I" ∈ TB := TBo (tb1 _ (List.mem_of_getElem? (i := 104) rfl)) rfl
theorem kw1_105 : Cond.fieldLink RX5 29 "CoilWheels$Tape" "faultPlace" "I" ∈ TB := TBo (tb1 _ (List.mem_of_getElem? (i := 105) rfl)) rfl
theorem kw1_106 : Cond.fieldLink RX6 66 "CoilWheels$Tape" "faultPlace" "I" ∈ TB := TBo (tb1 _ (List.mem_of_getElem? (i := 106) rfl)) rfl
theorem kw1_107 : Cond.fieldLink RX5 46 "CoilWheels$Tape" "token" "I" ∈ TB := TBo (tb1 _ (List.mem_of_getElem? (i := 107) rfl)) rfl
theorem kw1_108 : Cond.fieldLink RX5 107 "CoilWheels$Tape" "start" "I" ∈ TB := TBo (tb1 _ (List.mem_of_getElem? (i := 108) rfl)) rfl
theorem kw1_109 : Cond.fieldLink RX5 32 "CoilWheels$Tape" "next" "I" ∈ TB := TBo (tb1 _ (List.mem_of_getElem? (i := 109) rfl)) rfl
theorem kw1_110 : Cond.fieldLink RX5 84 "CoilWheels$Tape" "value" "I" ∈ TB := TBo (tb1 _ (List.mem_of_getElem? (i := 110) rfl)) rfl
theorem kw1_111 : Cond.fieldLink RX5 35 "CoilWheels$Tape" "signsTold" "Z" ∈ TB := TBo (tb1 _ (List.mem_of_getElem? (i := 111) rfl)) rfl
theorem kw1_112 : Cond.fieldLink RX5 39 "CoilWheels$Tape" "everyTold" "Z" ∈ TB := TBo (tb1 _ (List.mem_of_getElem? (i := 112) rfl)) rfl
theorem kw1_113 : Cond.laysFinal "CoilWheels$Tape" "CoilWheels$Tape" "bytes" "[B" ∈ TB := TBo (tb1 _ (List.mem_of_getElem? (i := 113) rfl)) rfl
theorem kw1_115 : Cond.lays "CoilWheels$Tape" "CoilWheels$Tape" "length" "I" ∈ TB := TBo (tb1 _ (List.mem_of_getElem? (i := 115) rfl)) rfl
theorem kw1_117 : Cond.laysFinal "CoilWheels$Tape" "CoilWheels$Tape" "draft" "LCoilWheels$Drive;" ∈ TB := TBo (tb1 _ (List.mem_of_getElem? (i := 117) rfl)) rfl
theorem kw1_119 : Cond.lays "CoilWheels$Tape" "CoilWheels$Tape" "fault" "I" ∈ TB := TBo (tb1 _ (List.mem_of_getElem? (i := 119) rfl)) rfl
theorem kw1_121 : Cond.lays "CoilWheels$Tape" "CoilWheels$Tape" "faultPlace" "I" ∈ TB := TBo (tb1 _ (List.mem_of_getElem? (i := 121) rfl)) rfl
theorem kw1_123 : Cond.lays "CoilWheels$Tape" "CoilWheels$Tape" "token" "I" ∈ TB := TBo (tb1 _ (List.mem_of_getElem? (i := 123) rfl)) rfl
theorem kw1_125 : Cond.lays "CoilWheels$Tape" "CoilWheels$Tape" "start" "I" ∈ TB := TBo (tb1 _ (List.mem_of_getElem? (i := 125) rfl)) rfl
theorem kw1_127 : Cond.lays "CoilWheels$Tape" "CoilWheels$Tape" "next" "I" ∈ TB := TBo (tb1 _ (List.mem_of_getElem? (i := 127) rfl)) rfl
theorem kw1_129 : Cond.lays "CoilWheels$Tape" "CoilWheels$Tape" "value" "I" ∈ TB := TBo (tb1 _ (List.mem_of_getElem? (i := 129) rfl)) rfl
theorem kw1_131 : Cond.lays "CoilWheels$Tape" "CoilWheels$Tape" "signsTold" "Z" ∈ TB := TBo (tb1 _ (List.mem_of_getElem? (i := 131) rfl)) rfl
theorem kw1_133 : Cond.lays "CoilWheels$Tape" "CoilWheels$Tape" "everyTold" "Z" ∈ TB := TBo (tb1 _ (List.mem_of_getElem? (i := 133) rfl)) rfl
theorem kw1_136 : Cond.classLink RX6 16 RX0 ∈ TB := TBo (tb1 _ (List.mem_of_getElem? (i := 136) rfl)) rfl
theorem kw1_137 : Cond.methodLink RX6 18 yX0_init ∈ TB := TBo (tb1 _ (List.mem_of_getElem? (i := 137) rfl)) rfl
theorem kw1_138 : Cond.classLink RX6 26 RX4 ∈ TB := TBo (tb1 _ (List.mem_of_getElem? (i := 138) rfl)) rfl
theorem kw1_139 : Cond.instantiable RX4 4 ∈ TB := TBo (tb1 _ (List.mem_of_getElem? (i := 139) rfl)) rfl
theorem kw1_140 : Cond.methodLink RX6 28 yX4_init ∈ TB := TBo (tb1 _ (List.mem_of_getElem? (i := 140) rfl)) rfl
theorem kw1_141 : Cond.instanceMethod yX4_init ∈ TB := TBo (tb1 _ (List.mem_of_getElem? (i := 141) rfl)) rfl
theorem kw1_142 : Cond.code yX4_init cX4_init 1 none ∈ TB := TBo (tb1 _ (List.mem_of_getElem? (i := 142) rfl)) rfl
theorem kw1_143 : Cond.methodLink RX4 3 objectInit ∈ TB := TBo (tb1 _ (List.mem_of_getElem? (i := 143) rfl)) rfl
theorem kw1_144 : Cond.fieldLink RX4 21 "CoilWheels$Sights" "number" "I" ∈ TB := TBo (tb1 _ (List.mem_of_getElem? (i := 144) rfl)) rfl
theorem kw1_145 : Cond.fieldLink RX6 76 "CoilWheels$Sights" "number" "I" ∈ TB := TBo (tb1 _ (List.mem_of_getElem? (i := 145) rfl)) rfl
theorem kw1_146 : Cond.fieldLink RX4 9 "CoilWheels$Sights" "ticksOn" "[I" ∈ TB := TBo (tb1 _ (List.mem_of_getElem? (i := 146) rfl)) rfl
theorem kw1_147 : Cond.fieldLink RX4 15 "CoilWheels$Sights" "who" "[I" ∈ TB := TBo (tb1 _ (List.mem_of_getElem? (i := 147) rfl)) rfl
theorem kw1_148 : Cond.fieldLink RX4 18 "CoilWheels$Sights" "left" "[I" ∈ TB := TBo (tb1 _ (List.mem_of_getElem? (i := 148) rfl)) rfl
theorem kw1_149 : Cond.lays "CoilWheels$Sights" "CoilWheels$Sights" "number" "I" ∈ TB := TBo (tb1 _ (List.mem_of_getElem? (i := 149) rfl)) rfl
theorem kw1_151 : Cond.laysFinal "CoilWheels$Sights" "CoilWheels$Sights" "ticksOn" "[I" ∈ TB := TBo (tb1 _ (List.mem_of_getElem? (i := 151) rfl)) rfl
theorem kw1_153 : Cond.laysFinal "CoilWheels$Sights" "CoilWheels$Sights" "who" "[I" ∈ TB := TBo (tb1 _ (List.mem_of_getElem? (i := 153) rfl)) rfl
theorem kw1_155 : Cond.laysFinal "CoilWheels$Sights" "CoilWheels$Sights" "left" "[I" ∈ TB := TBo (tb1 _ (List.mem_of_getElem? (i := 155) rfl)) rfl
theorem kw1_158 : Cond.classLink RX6 33 RX1 ∈ TB := TBo (tb1 _ (List.mem_of_getElem? (i := 158) rfl)) rfl
theorem kw1_160 : Cond.instantiable RX1 3 ∈ TB := TBo (tb1 _ (List.mem_of_getElem? (i := 160) rfl)) rfl
theorem kw1_161 : Cond.methodLink RX6 39 yX1_init ∈ TB := TBo (tb1 _ (List.mem_of_getElem? (i := 161) rfl)) rfl
theorem kw1_162 : Cond.instanceMethod yX1_init ∈ TB := TBo (tb1 _ (List.mem_of_getElem? (i := 162) rfl)) rfl
theorem kw1_163 : Cond.code yX1_init cX1_init 1 none ∈ TB := TBo (tb1 _ (List.mem_of_getElem? (i := 163) rfl)) rfl
theorem kw1_164 : Cond.methodLink RX1 1 objectInit ∈ TB := TBo (tb1 _ (List.mem_of_getElem? (i := 164) rfl)) rfl
theorem kw1_165 : Cond.classLink RX1 7 RX0 ∈ TB := TBo (tb1 _ (List.mem_of_getElem? (i := 165) rfl)) rfl
theorem kw1_166 : Cond.methodLink RX1 9 yX0_init ∈ TB := TBo (tb1 _ (List.mem_of_getElem? (i := 166) rfl)) rfl
theorem kw1_167 : Cond.classLink RX1 16 RX4 ∈ TB := TBo (tb1 _ (List.mem_of_getElem? (i := 167) rfl)) rfl
theorem kw1_168 : Cond.methodLink RX1 18 yX4_init ∈ TB := TBo (tb1 _ (List.mem_of_getElem? (i := 168) rfl)) rfl
theorem kw1_169 : Cond.fieldLink RX6 79 "CoilWheels$Image" "kept" "Z" ∈ TB := TBo (tb1 _ (List.mem_of_getElem? (i := 169) rfl)) rfl
theorem kw1_170 : Cond.fieldLink RX1 10 "CoilWheels$Image" "drive" "LCoilWheels$Drive;" ∈ TB := TBo (tb1 _ (List.mem_of_getElem? (i := 170) rfl)) rfl
theorem kw1_171 : Cond.fieldLink RX6 214 "CoilWheels$Image" "drive" "LCoilWheels$Drive;" ∈ TB := TBo (tb1 _ (List.mem_of_getElem? (i := 171) rfl)) rfl
theorem kw1_172 : Cond.fieldLink RX1 19 "CoilWheels$Image" "sights" "LCoilWheels$Sights;" ∈ TB := TBo (tb1 _ (List.mem_of_getElem? (i := 172) rfl)) rfl
theorem kw1_173 : Cond.fieldLink RX6 217 "CoilWheels$Image" "sights" "LCoilWheels$Sights;" ∈ TB := TBo (tb1 _ (List.mem_of_getElem? (i := 173) rfl)) rfl
theorem kw1_174 : Cond.lays "CoilWheels$Image" "CoilWheels$Image" "kept" "Z" ∈ TB := TBo (tb1 _ (List.mem_of_getElem? (i := 174) rfl)) rfl
theorem kw1_176 : Cond.laysFinal "CoilWheels$Image" "CoilWheels$Image" "drive" "LCoilWheels$Drive;" ∈ TB := TBo (tb1 _ (List.mem_of_getElem? (i := 176) rfl)) rfl
theorem kw1_178 : Cond.laysFinal "CoilWheels$Image" "CoilWheels$Image" "sights" "LCoilWheels$Sights;" ∈ TB := TBo (tb1 _ (List.mem_of_getElem? (i := 178) rfl)) rfl
theorem kw1_181 : Cond.classLink RX6 40 RX3 ∈ TB := TBo (tb1 _ (List.mem_of_getElem? (i := 181) rfl)) rfl
theorem kw1_183 : Cond.instantiable RX3 3 ∈ TB := TBo (tb1 _ (List.mem_of_getElem? (i := 183) rfl)) rfl
theorem kw1_184 : Cond.methodLink RX6 46 yX3_init ∈ TB := TBo (tb1 _ (List.mem_of_getElem? (i := 184) rfl)) rfl
theorem kw1_185 : Cond.instanceMethod yX3_init ∈ TB := TBo (tb1 _ (List.mem_of_getElem? (i := 185) rfl)) rfl
theorem kw1_186 : Cond.code yX3_init cX3_init 1 none ∈ TB := TBo (tb1 _ (List.mem_of_getElem? (i := 186) rfl)) rfl
theorem kw1_187 : Cond.methodLink RX3 3 objectInit ∈ TB := TBo (tb1 _ (List.mem_of_getElem? (i := 187) rfl)) rfl
theorem kw1_188 : Cond.fieldLink RX3 11 "CoilWheels$Sheet" "lane" "I" ∈ TB := TBo (tb1 _ (List.mem_of_getElem? (i := 188) rfl)) rfl
theorem kw1_189 : Cond.fieldLink RX6 240 "CoilWheels$Sheet" "lane" "I" ∈ TB := TBo (tb1 _ (List.mem_of_getElem? (i := 189) rfl)) rfl
theorem kw1_190 : Cond.fieldLink RX3 19 "CoilWheels$Sheet" "size" "I" ∈ TB := TBo (tb1 _ (List.mem_of_getElem? (i := 190) rfl)) rfl
theorem kw1_191 : Cond.fieldLink RX6 243 "CoilWheels$Sheet" "size" "I" ∈ TB := TBo (tb1 _ (List.mem_of_getElem? (i := 191) rfl)) rfl
theorem kw1_192 : Cond.fieldLink RX3 15 "CoilWheels$Sheet" "cells" "[I" ∈ TB := TBo (tb1 _ (List.mem_of_getElem? (i := 192) rfl)) rfl
theorem kw1_193 : Cond.fieldLink RX6 234 "CoilWheels$Sheet" "cells" "[I" ∈ TB := TBo (tb1 _ (List.mem_of_getElem? (i := 193) rfl)) rfl
theorem kw1_194 : Cond.lays "CoilWheels$Sheet" "CoilWheels$Sheet" "lane" "I" ∈ TB := TBo (tb1 _ (List.mem_of_getElem? (i := 194) rfl)) rfl
theorem kw1_196 : Cond.lays "CoilWheels$Sheet" "CoilWheels$Sheet" "size" "I" ∈ TB := TBo (tb1 _ (List.mem_of_getElem? (i := 196) rfl)) rfl
theorem kw1_198 : Cond.laysFinal "CoilWheels$Sheet" "CoilWheels$Sheet" "cells" "[I" ∈ TB := TBo (tb1 _ (List.mem_of_getElem? (i := 198) rfl)) rfl
theorem kw1_201 : Cond.fieldLink RX6 10 "CoilWheels" "tape" "LCoilWheels$Tape;" ∈ TB := TBo (tb1 _ (List.mem_of_getElem? (i := 201) rfl)) rfl
theorem kw1_202 : Cond.fieldLink RX6 19 "CoilWheels" "now" "LCoilWheels$Drive;" ∈ TB := TBo (tb1 _ (List.mem_of_getElem? (i := 202) rfl)) rfl
theorem kw1_203 : Cond.fieldLink RX6 23 "CoilWheels" "trial" "LCoilWheels$Drive;" ∈ TB := TBo (tb1 _ (List.mem_of_getElem? (i := 203) rfl)) rfl
theorem kw1_204 : Cond.fieldLink RX6 29 "CoilWheels" "sights" "LCoilWheels$Sights;" ∈ TB := TBo (tb1 _ (List.mem_of_getElem? (i := 204) rfl)) rfl
theorem kw1_205 : Cond.fieldLink RX6 35 "CoilWheels" "images" "[LCoilWheels$Image;" ∈ TB := TBo (tb1 _ (List.mem_of_getElem? (i := 205) rfl)) rfl
theorem kw1_206 : Cond.fieldLink RX6 42 "CoilWheels" "sheets" "[LCoilWheels$Sheet;" ∈ TB := TBo (tb1 _ (List.mem_of_getElem? (i := 206) rfl)) rfl
theorem kw1_207 : Cond.fieldLink RX6 237 "CoilWheels" "readFault" "I" ∈ TB := TBo (tb1 _ (List.mem_of_getElem? (i := 207) rfl)) rfl
theorem kw1_208 : Cond.laysFinal "CoilWheels" "CoilWheels" "tape" "LCoilWheels$Tape;" ∈ TB := TBo (tb1 _ (List.mem_of_getElem? (i := 208) rfl)) rfl
theorem kw1_210 : Cond.laysFinal "CoilWheels" "CoilWheels" "now" "LCoilWheels$Drive;" ∈ TB := TBo (tb1 _ (List.mem_of_getElem? (i := 210) rfl)) rfl
theorem kw1_212 : Cond.laysFinal "CoilWheels" "CoilWheels" "trial" "LCoilWheels$Drive;" ∈ TB := TBo (tb1 _ (List.mem_of_getElem? (i := 212) rfl)) rfl
theorem kw1_214 : Cond.laysFinal "CoilWheels" "CoilWheels" "sights" "LCoilWheels$Sights;" ∈ TB := TBo (tb1 _ (List.mem_of_getElem? (i := 214) rfl)) rfl
theorem kw1_216 : Cond.laysFinal "CoilWheels" "CoilWheels" "images" "[LCoilWheels$Image;" ∈ TB := TBo (tb1 _ (List.mem_of_getElem? (i := 216) rfl)) rfl
theorem kw1_218 : Cond.laysFinal "CoilWheels" "CoilWheels" "sheets" "[LCoilWheels$Sheet;" ∈ TB := TBo (tb1 _ (List.mem_of_getElem? (i := 218) rfl)) rfl
theorem kw1_220 : Cond.lays "CoilWheels" "CoilWheels" "readFault" "I" ∈ TB := TBo (tb1 _ (List.mem_of_getElem? (i := 220) rfl)) rfl
theorem kw1_223 : Cond.methodLink RL 13 yX6_feed ∈ TB := TBo (tb1 _ (List.mem_of_getElem? (i := 223) rfl)) rfl
theorem kw1_224 : Cond.instanceMethod yX6_feed ∈ TB := TBo (tb1 _ (List.mem_of_getElem? (i := 224) rfl)) rfl
theorem kw1_225 : Cond.selects RX6 yX6_feed yX6_feed ∈ TB := TBo (tb1 _ (List.mem_of_getElem? (i := 225) rfl)) rfl
theorem kw1_226 : Cond.code yX6_feed cX6_feed 2 (some .int) ∈ TB := TBo (tb1 _ (List.mem_of_getElem? (i := 226) rfl)) rfl
theorem kw1_227 : Cond.methodLink RX6 47 yX6_within ∈ TB := TBo (tb1 _ (List.mem_of_getElem? (i := 227) rfl)) rfl
theorem kw1_228 : Cond.static yX6_within ∈ TB := TBo (tb1 _ (List.mem_of_getElem? (i := 228) rfl)) rfl
theorem kw1_229 : Cond.code yX6_within cX6_within 2 (some .boolean) ∈ TB := TBo (tb1 _ (List.mem_of_getElem? (i := 229) rfl)) rfl
theorem kw1_230 : Cond.methodLink RL 18 yX6_end ∈ TB := TBo (tb1 _ (List.mem_of_getElem? (i := 230) rfl)) rfl
theorem kw1_231 : Cond.instanceMethod yX6_end ∈ TB := TBo (tb1 _ (List.mem_of_getElem? (i := 231) rfl)) rfl
theorem kw1_232 : Cond.selects RX6 yX6_end yX6_end ∈ TB := TBo (tb1 _ (List.mem_of_getElem? (i := 232) rfl)) rfl
theorem kw1_233 : Cond.code yX6_end cX6_end 3 (some .int) ∈ TB := TBo (tb1 _ (List.mem_of_getElem? (i := 233) rfl)) rfl
theorem kw1_234 : Cond.methodLink RL 22 yX6_text ∈ TB := TBo (tb1 _ (List.mem_of_getElem? (i := 234) rfl)) rfl
theorem kw1_235 : Cond.instanceMethod yX6_text ∈ TB := TBo (tb1 _ (List.mem_of_getElem? (i := 235) rfl)) rfl
theorem kw1_236 : Cond.selects RX6 yX6_text yX6_text ∈ TB := TBo (tb1 _ (List.mem_of_getElem? (i := 236) rfl)) rfl
theorem kw1_237 : Cond.code yX6_text cX6_text 3 (some .int) ∈ TB := TBo (tb1 _ (List.mem_of_getElem? (i := 237) rfl)) rfl
theorem kw1_238 : Cond.methodLink RX6 59 yX5_takeLines ∈ TB := TBo (tb1 _ (List.mem_of_getElem? (i := 238) rfl)) rfl
theorem kw1_239 : Cond.instanceMethod yX5_takeLines ∈ TB := TBo (tb1 _ (List.mem_of_getElem? (i := 239) rfl)) rfl
theorem kw2_0 : Cond.selects RX5 yX5_takeLines yX5_takeLines ∈ TB := TBo (tb2 _ (List.mem_of_getElem? (i := 0) rfl)) rfl
theorem kw2_1 : Cond.code yX5_takeLines cX5_takeLines 2 (some .int) ∈ TB := TBo (tb2 _ (List.mem_of_getElem? (i := 1) rfl)) rfl
theorem kw2_2 : Cond.methodLink RX5 22 yX0_clear ∈ TB := TBo (tb2 _ (List.mem_of_getElem? (i := 2) rfl)) rfl
theorem kw2_3 : Cond.instanceMethod yX0_clear ∈ TB := TBo (tb2 _ (List.mem_of_getElem? (i := 3) rfl)) rfl
theorem kw2_4 : Cond.selects RX0 yX0_clear yX0_clear ∈ TB := TBo (tb2 _ (List.mem_of_getElem? (i := 4) rfl)) rfl
theorem kw2_5 : Cond.code yX0_clear cX0_clear 1 none ∈ TB := TBo (tb2 _ (List.mem_of_getElem? (i := 5) rfl)) rfl
theorem kw2_6 : Cond.methodLink RX5 42 yX5_readToken ∈ TB := TBo (tb2 _ (List.mem_of_getElem? (i := 6) rfl)) rfl
theorem kw2_8 : Cond.instanceMethod yX5_readToken ∈ TB := TBo (tb2 _ (List.mem_of_getElem? (i := 8) rfl)) rfl
theorem kw2_9 : Cond.code yX5_readToken cX5_readToken 2 (some .boolean) ∈ TB := TBo (tb2 _ (List.mem_of_getElem? (i := 9) rfl)) rfl
theorem kw2_10 : Cond.methodLink RX5 103 yX5_endOfRun ∈ TB := TBo (tb2 _ (List.mem_of_getElem? (i := 10) rfl)) rfl
theorem kw2_12 : Cond.instanceMethod yX5_endOfRun ∈ TB := TBo (tb2 _ (List.mem_of_getElem? (i := 12) rfl)) rfl
theorem kw2_13 : Cond.code yX5_endOfRun cX5_endOfRun 5 (some .int) ∈ TB := TBo (tb2 _ (List.mem_of_getElem? (i := 13) rfl)) rfl
theorem kw2_14 : Cond.methodLink RX5 113 yX5_readValue ∈ TB := TBo (tb2 _ (List.mem_of_getElem? (i := 14) rfl)) rfl
theorem kw2_16 : Cond.instanceMethod yX5_readValue ∈ TB := TBo (tb2 _ (List.mem_of_getElem? (i := 16) rfl)) rfl
theorem kw2_17 : Cond.code yX5_readValue cX5_readValue 2 (some .boolean) ∈ TB := TBo (tb2 _ (List.mem_of_getElem? (i := 17) rfl)) rfl
theorem kw2_18 : Cond.methodLink RX5 52 yX5_refuse ∈ TB := TBo (tb2 _ (List.mem_of_getElem? (i := 18) rfl)) rfl
theorem kw2_20 : Cond.instanceMethod yX5_refuse ∈ TB := TBo (tb2 _ (List.mem_of_getElem? (i := 20) rfl)) rfl
theorem kw2_21 : Cond.code yX5_refuse cX5_refuse 2 (some .boolean) ∈ TB := TBo (tb2 _ (List.mem_of_getElem? (i := 21) rfl)) rfl
theorem kw2_22 : Cond.methodLink RX5 49 yX5_takeLine ∈ TB := TBo (tb2 _ (List.mem_of_getElem? (i := 22) rfl)) rfl
theorem kw2_24 : Cond.instanceMethod yX5_takeLine ∈ TB := TBo (tb2 _ (List.mem_of_getElem? (i := 24) rfl)) rfl
theorem kw2_25 : Cond.code yX5_takeLine cX5_takeLine 2 (some .boolean) ∈ TB := TBo (tb2 _ (List.mem_of_getElem? (i := 25) rfl)) rfl
theorem kw2_26 : Cond.methodLink RX5 56 yX5_sortNamed ∈ TB := TBo (tb2 _ (List.mem_of_getElem? (i := 26) rfl)) rfl
theorem kw2_28 : Cond.instanceMethod yX5_sortNamed ∈ TB := TBo (tb2 _ (List.mem_of_getElem? (i := 28) rfl)) rfl
theorem kw2_29 : Cond.code yX5_sortNamed cX5_sortNamed 1 (some .int) ∈ TB := TBo (tb2 _ (List.mem_of_getElem? (i := 29) rfl)) rfl
theorem kw2_31 : Cond.methodLink RX5 65 yX5_isNamed ∈ TB := TBo (tb2 _ (List.mem_of_getElem? (i := 31) rfl)) rfl
theorem kw2_33 : Cond.instanceMethod yX5_isNamed ∈ TB := TBo (tb2 _ (List.mem_of_getElem? (i := 33) rfl)) rfl
theorem kw2_34 : Cond.code yX5_isNamed cX5_isNamed 3 (some .boolean) ∈ TB := TBo (tb2 _ (List.mem_of_getElem? (i := 34) rfl)) rfl
theorem kw2_35 : Cond.methodLink RX5 126 yJ0_length_8abf5 ∈ TB := TBo (tb2 _ (List.mem_of_getElem? (i := 35) rfl)) rfl
theorem kw2_36 : Cond.instanceMethod yJ0_length_8abf5 ∈ TB := TBo (tb2 _ (List.mem_of_getElem? (i := 36) rfl)) rfl
theorem kw2_37 : Cond.selects RJ0 yJ0_length_8abf5 yJ0_length_8abf5 ∈ TB := TBo (tb2 _ (List.mem_of_getElem? (i := 37) rfl)) rfl
theorem kw2_38 : Cond.code yJ0_length_8abf5 cJ0_length_8abf5 1 (some .int) ∈ TB := TBo (tb2 _ (List.mem_of_getElem? (i := 38) rfl)) rfl
theorem kw2_39 : Cond.methodLink RJ0 335 yJ0_coder_7d493 ∈ TB := TBo (tb2 _ (List.mem_of_getElem? (i := 39) rfl)) rfl
theorem kw2_40 : Cond.instanceMethod yJ0_coder_7d493 ∈ TB := TBo (tb2 _ (List.mem_of_getElem? (i := 40) rfl)) rfl
theorem kw2_41 : Cond.selects RJ0 yJ0_coder_7d493 yJ0_coder_7d493 ∈ TB := TBo (tb2 _ (List.mem_of_getElem? (i := 41) rfl)) rfl
theorem kw2_42 : Cond.code yJ0_coder_7d493 cJ0_coder_7d493 1 (some .byte) ∈ TB := TBo (tb2 _ (List.mem_of_getElem? (i := 42) rfl)) rfl
theorem kw2_43 : Cond.fieldLink RJ0 38 "java/lang/String" "COMPACT_STRINGS" "Z" ∈ TB := TBo (tb2 _ (List.mem_of_getElem? (i := 43) rfl)) rfl
theorem kw2_45 : Cond.methodLink RX5 130 yJ0_charAt_5068e ∈ TB := TBo (tb2 _ (List.mem_of_getElem? (i := 45) rfl)) rfl
theorem kw2_46 : Cond.instanceMethod yJ0_charAt_5068e ∈ TB := TBo (tb2 _ (List.mem_of_getElem? (i := 46) rfl)) rfl
theorem kw2_47 : Cond.selects RJ0 yJ0_charAt_5068e yJ0_charAt_5068e ∈ TB := TBo (tb2 _ (List.mem_of_getElem? (i := 47) rfl)) rfl
theorem kw2_48 : Cond.code yJ0_charAt_5068e cJ0_charAt_5068e 2 (some .char) ∈ TB := TBo (tb2 _ (List.mem_of_getElem? (i := 48) rfl)) rfl
theorem kw2_49 : Cond.methodLink RJ0 492 yJ0_isLatin1_aae02 ∈ TB := TBo (tb2 _ (List.mem_of_getElem? (i := 49) rfl)) rfl
theorem kw2_50 : Cond.instanceMethod yJ0_isLatin1_aae02 ∈ TB := TBo (tb2 _ (List.mem_of_getElem? (i := 50) rfl)) rfl
theorem kw2_51 : Cond.selects RJ0 yJ0_isLatin1_aae02 yJ0_isLatin1_aae02 ∈ TB := TBo (tb2 _ (List.mem_of_getElem? (i := 51) rfl)) rfl
theorem kw2_52 : Cond.code yJ0_isLatin1_aae02 cJ0_isLatin1_aae02 1 (some .boolean) ∈ TB := TBo (tb2 _ (List.mem_of_getElem? (i := 52) rfl)) rfl
theorem kw2_53 : Cond.methodLink RJ0 495 yJ1_charAt_3b067 ∈ TB := TBo (tb2 _ (List.mem_of_getElem? (i := 53) rfl)) rfl
theorem kw2_54 : Cond.static yJ1_charAt_3b067 ∈ TB := TBo (tb2 _ (List.mem_of_getElem? (i := 54) rfl)) rfl
theorem kw2_55 : Cond.code yJ1_charAt_3b067 cJ1_charAt_3b067 2 (some .char) ∈ TB := TBo (tb2 _ (List.mem_of_getElem? (i := 55) rfl)) rfl
theorem kw2_56 : Cond.methodLink RJ1 9 yJ0_checkIndex_df160 ∈ TB := TBo (tb2 _ (List.mem_of_getElem? (i := 56) rfl)) rfl
theorem kw2_57 : Cond.static yJ0_checkIndex_df160 ∈ TB := TBo (tb2 _ (List.mem_of_getElem? (i := 57) rfl)) rfl
theorem kw2_58 : Cond.code yJ0_checkIndex_df160 cJ0_checkIndex_df160 2 none ∈ TB := TBo (tb2 _ (List.mem_of_getElem? (i := 58) rfl)) rfl
theorem kw2_59 : Cond.fieldLink RJ0 1053 "jdk/internal/util/Preconditions" "SIOOBE_FORMATTER" "Ljava/util/function/BiFunction;" ∈ TB := TBo (tb2 _ (List.mem_of_getElem? (i := 59) rfl)) rfl
theorem kw2_61 : Cond.methodLink RJ0 1059 yJ3_checkIndex_8e157 ∈ TB := TBo (tb2 _ (List.mem_of_getElem? (i := 61) rfl)) rfl
theorem kw2_62 : Cond.static yJ3_checkIndex_8e157 ∈ TB := TBo (tb2 _ (List.mem_of_getElem? (i := 62) rfl)) rfl
theorem kw2_63 : Cond.code yJ3_checkIndex_8e157 cJ3_checkIndex_8e157 3 (some .int) ∈ TB := TBo (tb2 _ (List.mem_of_getElem? (i := 63) rfl)) rfl
theorem kw2_64 : Cond.methodLink RJ0 498 yJ2_charAt_3b067 ∈ TB := TBo (tb2 _ (List.mem_of_getElem? (i := 64) rfl)) rfl
theorem kw2_65 : Cond.static yJ2_charAt_3b067 ∈ TB := TBo (tb2 _ (List.mem_of_getElem? (i := 65) rfl)) rfl
theorem kw2_66 : Cond.code yJ2_charAt_3b067 cJ2_charAt_3b067 2 (some .char) ∈ TB := TBo (tb2 _ (List.mem_of_getElem? (i := 66) rfl)) rfl
theorem kw2_67 : Cond.methodLink RJ2 67 yJ2_checkIndex_2214a ∈ TB := TBo (tb2 _ (List.mem_of_getElem? (i := 67) rfl)) rfl
theorem kw2_68 : Cond.static yJ2_checkIndex_2214a ∈ TB := TBo (tb2 _ (List.mem_of_getElem? (i := 68) rfl)) rfl
theorem kw2_69 : Cond.code yJ2_checkIndex_2214a cJ2_checkIndex_2214a 2 none ∈ TB := TBo (tb2 _ (List.mem_of_getElem? (i := 69) rfl)) rfl
theorem kw2_70 : Cond.methodLink RJ2 48 yJ2_length_9d52b ∈ TB := TBo (tb2 _ (List.mem_of_getElem? (i := 70) rfl)) rfl
theorem kw2_71 : Cond.static yJ2_length_9d52b ∈ TB := TBo (tb2 _ (List.mem_of_getElem? (i := 71) rfl)) rfl
theorem kw2_72 : Cond.code yJ2_length_9d52b cJ2_length_9d52b 1 (some .int) ∈ TB := TBo (tb2 _ (List.mem_of_getElem? (i := 72) rfl)) rfl
theorem kw2_73 : Cond.methodLink RJ2 414 yJ0_checkIndex_df160 ∈ TB := TBo (tb2 _ (List.mem_of_getElem? (i := 73) rfl)) rfl
theorem kw2_74 : Cond.methodLink RJ2 71 yJ2_getChar_3b067 ∈ TB := TBo (tb2 _ (List.mem_of_getElem? (i := 74) rfl)) rfl
theorem kw2_75 : Cond.static yJ2_getChar_3b067 ∈ TB := TBo (tb2 _ (List.mem_of_getElem? (i := 75) rfl)) rfl
theorem kw2_76 : Cond.code yJ2_getChar_3b067 cJ2_getChar_3b067 2 (some .char) ∈ TB := TBo (tb2 _ (List.mem_of_getElem? (i := 76) rfl)) rfl
theorem kw2_77 : Cond.fieldLink RJ2 44 "java/lang/StringUTF16" "$assertionsDisabled" "Z" ∈ TB := TBo (tb2 _ (List.mem_of_getElem? (i := 77) rfl)) rfl
theorem kw2_79 : Cond.fieldLink RJ2 59 "java/lang/StringUTF16" "HI_BYTE_SHIFT" "I" ∈ TB := TBo (tb2 _ (List.mem_of_getElem? (i := 79) rfl)) rfl
theorem kw2_81 : Cond.fieldLink RJ2 63 "java/lang/StringUTF16" "LO_BYTE_SHIFT" "I" ∈ TB := TBo (tb2 _ (List.mem_of_getElem? (i := 81) rfl)) rfl
theorem kw2_86 : Cond.methodLink RX5 60 yX5_takeRotor ∈ TB := TBo (tb2 _ (List.mem_of_getElem? (i := 86) rfl)) rfl
theorem kw2_88 : Cond.instanceMethod yX5_takeRotor ∈ TB := TBo (tb2 _ (List.mem_of_getElem? (i := 88) rfl)) rfl
theorem kw2_89 : Cond.code yX5_takeRotor cX5_takeRotor 3 (some .boolean) ∈ TB := TBo (tb2 _ (List.mem_of_getElem? (i := 89) rfl)) rfl
theorem kw2_90 : Cond.methodLink RX5 80 yX5_takeNumber ∈ TB := TBo (tb2 _ (List.mem_of_getElem? (i := 90) rfl)) rfl
theorem kw2_92 : Cond.instanceMethod yX5_takeNumber ∈ TB := TBo (tb2 _ (List.mem_of_getElem? (i := 92) rfl)) rfl
theorem kw2_93 : Cond.code yX5_takeNumber cX5_takeNumber 3 (some .boolean) ∈ TB := TBo (tb2 _ (List.mem_of_getElem? (i := 93) rfl)) rfl
theorem kw2_94 : Cond.methodLink RX5 94 yX5_isNumber ∈ TB := TBo (tb2 _ (List.mem_of_getElem? (i := 94) rfl)) rfl
theorem kw2_96 : Cond.instanceMethod yX5_isNumber ∈ TB := TBo (tb2 _ (List.mem_of_getElem? (i := 96) rfl)) rfl
theorem kw2_97 : Cond.code yX5_isNumber cX5_isNumber 3 (some .boolean) ∈ TB := TBo (tb2 _ (List.mem_of_getElem? (i := 97) rfl)) rfl
theorem kw2_98 : Cond.methodLink RX5 87 yX0_addRotor ∈ TB := TBo (tb2 _ (List.mem_of_getElem? (i := 98) rfl)) rfl
theorem kw2_99 : Cond.instanceMethod yX0_addRotor ∈ TB := TBo (tb2 _ (List.mem_of_getElem? (i := 99) rfl)) rfl
theorem kw2_100 : Cond.selects RX0 yX0_addRotor yX0_addRotor ∈ TB := TBo (tb2 _ (List.mem_of_getElem? (i := 100) rfl)) rfl
theorem kw2_101 : Cond.code yX0_addRotor cX0_addRotor 4 none ∈ TB := TBo (tb2 _ (List.mem_of_getElem? (i := 101) rfl)) rfl
theorem kw2_102 : Cond.methodLink RX0 48 yX2_become ∈ TB := TBo (tb2 _ (List.mem_of_getElem? (i := 102) rfl)) rfl
theorem kw2_103 : Cond.instanceMethod yX2_become ∈ TB := TBo (tb2 _ (List.mem_of_getElem? (i := 103) rfl)) rfl
theorem kw2_104 : Cond.selects RX2 yX2_become yX2_become ∈ TB := TBo (tb2 _ (List.mem_of_getElem? (i := 104) rfl)) rfl
theorem kw2_105 : Cond.code yX2_become cX2_become 4 none ∈ TB := TBo (tb2 _ (List.mem_of_getElem? (i := 105) rfl)) rfl
theorem kw2_106 : Cond.methodLink RX5 91 yX5_takeStop ∈ TB := TBo (tb2 _ (List.mem_of_getElem? (i := 106) rfl)) rfl
theorem kw2_108 : Cond.instanceMethod yX5_takeStop ∈ TB := TBo (tb2 _ (List.mem_of_getElem? (i := 108) rfl)) rfl
theorem kw2_109 : Cond.code yX5_takeStop cX5_takeStop 1 (some .boolean) ∈ TB := TBo (tb2 _ (List.mem_of_getElem? (i := 109) rfl)) rfl
theorem kw2_111 : Cond.methodLink RX5 69 yX5_takeSigns ∈ TB := TBo (tb2 _ (List.mem_of_getElem? (i := 111) rfl)) rfl
theorem kw2_113 : Cond.instanceMethod yX5_takeSigns ∈ TB := TBo (tb2 _ (List.mem_of_getElem? (i := 113) rfl)) rfl
theorem kw2_114 : Cond.code yX5_takeSigns cX5_takeSigns 2 (some .boolean) ∈ TB := TBo (tb2 _ (List.mem_of_getElem? (i := 114) rfl)) rfl
theorem kw2_115 : Cond.methodLink RX5 97 yX0_addSign ∈ TB := TBo (tb2 _ (List.mem_of_getElem? (i := 115) rfl)) rfl
theorem kw2_116 : Cond.instanceMethod yX0_addSign ∈ TB := TBo (tb2 _ (List.mem_of_getElem? (i := 116) rfl)) rfl
theorem kw2_117 : Cond.selects RX0 yX0_addSign yX0_addSign ∈ TB := TBo (tb2 _ (List.mem_of_getElem? (i := 117) rfl)) rfl
theorem kw2_118 : Cond.code yX0_addSign cX0_addSign 2 (some .boolean) ∈ TB := TBo (tb2 _ (List.mem_of_getElem? (i := 118) rfl)) rfl
theorem kw2_120 : Cond.methodLink RX5 74 yX5_takeEvery ∈ TB := TBo (tb2 _ (List.mem_of_getElem? (i := 120) rfl)) rfl
theorem kw2_122 : Cond.instanceMethod yX5_takeEvery ∈ TB := TBo (tb2 _ (List.mem_of_getElem? (i := 122) rfl)) rfl
theorem kw2_123 : Cond.code yX5_takeEvery cX5_takeEvery 1 (some .boolean) ∈ TB := TBo (tb2 _ (List.mem_of_getElem? (i := 123) rfl)) rfl
theorem kw2_124 : Cond.methodLink RX6 72 yX0_copyFrom ∈ TB := TBo (tb2 _ (List.mem_of_getElem? (i := 124) rfl)) rfl
theorem kw2_125 : Cond.instanceMethod yX0_copyFrom ∈ TB := TBo (tb2 _ (List.mem_of_getElem? (i := 125) rfl)) rfl
theorem kw2_126 : Cond.selects RX0 yX0_copyFrom yX0_copyFrom ∈ TB := TBo (tb2 _ (List.mem_of_getElem? (i := 126) rfl)) rfl
theorem kw2_127 : Cond.code yX0_copyFrom cX0_copyFrom 3 none ∈ TB := TBo (tb2 _ (List.mem_of_getElem? (i := 127) rfl)) rfl
theorem kw2_128 : Cond.methodLink RX0 38 arraycopyName ∈ TB := TBo (tb2 _ (List.mem_of_getElem? (i := 128) rfl)) rfl
theorem kw2_129 : Cond.static arraycopyName ∈ TB := TBo (tb2 _ (List.mem_of_getElem? (i := 129) rfl)) rfl
theorem kw2_130 : Cond.native arraycopyName ∈ TB := TBo (tb2 _ (List.mem_of_getElem? (i := 130) rfl)) rfl
theorem kw2_131 : Cond.methodLink RX0 44 yX2_copyFrom ∈ TB := TBo (tb2 _ (List.mem_of_getElem? (i := 131) rfl)) rfl
theorem kw2_132 : Cond.instanceMethod yX2_copyFrom ∈ TB := TBo (tb2 _ (List.mem_of_getElem? (i := 132) rfl)) rfl
theorem kw2_133 : Cond.selects RX2 yX2_copyFrom yX2_copyFrom ∈ TB := TBo (tb2 _ (List.mem_of_getElem? (i := 133) rfl)) rfl
theorem kw2_134 : Cond.code yX2_copyFrom cX2_copyFrom 2 none ∈ TB := TBo (tb2 _ (List.mem_of_getElem? (i := 134) rfl)) rfl
theorem kw2_135 : Cond.methodLink RL 27 yX6_fault ∈ TB := TBo (tb2 _ (List.mem_of_getElem? (i := 135) rfl)) rfl
theorem kw2_136 : Cond.instanceMethod yX6_fault ∈ TB := TBo (tb2 _ (List.mem_of_getElem? (i := 136) rfl)) rfl
theorem kw2_137 : Cond.selects RX6 yX6_fault yX6_fault ∈ TB := TBo (tb2 _ (List.mem_of_getElem? (i := 137) rfl)) rfl
theorem kw2_138 : Cond.code yX6_fault cX6_fault 1 (some .int) ∈ TB := TBo (tb2 _ (List.mem_of_getElem? (i := 138) rfl)) rfl
theorem kw2_139 : Cond.methodLink RL 31 yX6_rule ∈ TB := TBo (tb2 _ (List.mem_of_getElem? (i := 139) rfl)) rfl
theorem kw2_140 : Cond.instanceMethod yX6_rule ∈ TB := TBo (tb2 _ (List.mem_of_getElem? (i := 140) rfl)) rfl
theorem kw2_141 : Cond.selects RX6 yX6_rule yX6_rule ∈ TB := TBo (tb2 _ (List.mem_of_getElem? (i := 141) rfl)) rfl
theorem kw2_142 : Cond.code yX6_rule cX6_rule 2 (some .int) ∈ TB := TBo (tb2 _ (List.mem_of_getElem? (i := 142) rfl)) rfl
theorem kw2_143 : Cond.constant RX6 95 (100000 : Int32) ∈ TB := TBo (tb2 _ (List.mem_of_getElem? (i := 143) rfl)) rfl
theorem kw2_144 : Cond.methodLink RX6 99 yX0_slipping ∈ TB := TBo (tb2 _ (List.mem_of_getElem? (i := 144) rfl)) rfl
theorem kw2_145 : Cond.instanceMethod yX0_slipping ∈ TB := TBo (tb2 _ (List.mem_of_getElem? (i := 145) rfl)) rfl
theorem kw2_146 : Cond.selects RX0 yX0_slipping yX0_slipping ∈ TB := TBo (tb2 _ (List.mem_of_getElem? (i := 146) rfl)) rfl
theorem kw2_147 : Cond.code yX0_slipping cX0_slipping 3 (some .int) ∈ TB := TBo (tb2 _ (List.mem_of_getElem? (i := 147) rfl)) rfl
theorem kw2_148 : Cond.methodLink RX0 73 yX2_slips ∈ TB := TBo (tb2 _ (List.mem_of_getElem? (i := 148) rfl)) rfl
theorem kw2_149 : Cond.instanceMethod yX2_slips ∈ TB := TBo (tb2 _ (List.mem_of_getElem? (i := 149) rfl)) rfl
theorem kw2_150 : Cond.selects RX2 yX2_slips yX2_slips ∈ TB := TBo (tb2 _ (List.mem_of_getElem? (i := 150) rfl)) rfl
theorem kw2_151 : Cond.code yX2_slips cX2_slips 2 (some .boolean) ∈ TB := TBo (tb2 _ (List.mem_of_getElem? (i := 151) rfl)) rfl
theorem kw2_152 : Cond.methodLink RX2 24 yX2_off ∈ TB := TBo (tb2 _ (List.mem_of_getElem? (i := 152) rfl)) rfl
theorem kw2_153 : Cond.instanceMethod yX2_off ∈ TB := TBo (tb2 _ (List.mem_of_getElem? (i := 153) rfl)) rfl
theorem kw2_154 : Cond.selects RX2 yX2_off yX2_off ∈ TB := TBo (tb2 _ (List.mem_of_getElem? (i := 154) rfl)) rfl
theorem kw2_155 : Cond.code yX2_off cX2_off 2 (some .int) ∈ TB := TBo (tb2 _ (List.mem_of_getElem? (i := 155) rfl)) rfl
theorem kw2_156 : Cond.methodLink RX2 28 Lib.Math.abs.name ∈ TB := TBo (tb2 _ (List.mem_of_getElem? (i := 156) rfl)) rfl
theorem kw2_157 : Cond.static Lib.Math.abs.name ∈ TB := TBo (tb2 _ (List.mem_of_getElem? (i := 157) rfl)) rfl
theorem kw2_158 : Cond.code Lib.Math.abs.name Lib.Math.abs.code 1 (some .int) ∈ TB := TBo (tb2 _ (List.mem_of_getElem? (i := 158) rfl)) rfl
theorem kw2_159 : Cond.methodLink RX6 102 yX0_allLost ∈ TB := TBo (tb2 _ (List.mem_of_getElem? (i := 159) rfl)) rfl
theorem kw2_160 : Cond.instanceMethod yX0_allLost ∈ TB := TBo (tb2 _ (List.mem_of_getElem? (i := 160) rfl)) rfl
theorem kw2_161 : Cond.selects RX0 yX0_allLost yX0_allLost ∈ TB := TBo (tb2 _ (List.mem_of_getElem? (i := 161) rfl)) rfl
theorem kw2_162 : Cond.code yX0_allLost cX0_allLost 3 (some .int) ∈ TB := TBo (tb2 _ (List.mem_of_getElem? (i := 162) rfl)) rfl
theorem kw2_163 : Cond.methodLink RX0 77 yX2_lost ∈ TB := TBo (tb2 _ (List.mem_of_getElem? (i := 163) rfl)) rfl
theorem kw2_164 : Cond.instanceMethod yX2_lost ∈ TB := TBo (tb2 _ (List.mem_of_getElem? (i := 164) rfl)) rfl
theorem kw2_165 : Cond.selects RX2 yX2_lost yX2_lost ∈ TB := TBo (tb2 _ (List.mem_of_getElem? (i := 165) rfl)) rfl
theorem kw2_166 : Cond.code yX2_lost cX2_lost 2 (some .int) ∈ TB := TBo (tb2 _ (List.mem_of_getElem? (i := 166) rfl)) rfl
theorem kw2_167 : Cond.methodLink RX0 80 Lib.Math.abs.name ∈ TB := TBo (tb2 _ (List.mem_of_getElem? (i := 167) rfl)) rfl
theorem kw2_168 : Cond.methodLink RL 35 yX6_rotor ∈ TB := TBo (tb2 _ (List.mem_of_getElem? (i := 168) rfl)) rfl
theorem kw2_169 : Cond.instanceMethod yX6_rotor ∈ TB := TBo (tb2 _ (List.mem_of_getElem? (i := 169) rfl)) rfl
theorem kw2_170 : Cond.selects RX6 yX6_rotor yX6_rotor ∈ TB := TBo (tb2 _ (List.mem_of_getElem? (i := 170) rfl)) rfl
theorem kw2_171 : Cond.code yX6_rotor cX6_rotor 4 (some .int) ∈ TB := TBo (tb2 _ (List.mem_of_getElem? (i := 171) rfl)) rfl
theorem kw2_172 : Cond.methodLink RX6 105 yX6_hasRotor ∈ TB := TBo (tb2 _ (List.mem_of_getElem? (i := 172) rfl)) rfl
theorem kw2_174 : Cond.instanceMethod yX6_hasRotor ∈ TB := TBo (tb2 _ (List.mem_of_getElem? (i := 174) rfl)) rfl
theorem kw2_175 : Cond.code yX6_hasRotor cX6_hasRotor 2 (some .boolean) ∈ TB := TBo (tb2 _ (List.mem_of_getElem? (i := 175) rfl)) rfl
theorem kw2_176 : Cond.methodLink RX6 127 yX2_off ∈ TB := TBo (tb2 _ (List.mem_of_getElem? (i := 176) rfl)) rfl
theorem kw2_177 : Cond.methodLink RX6 131 yX2_lost ∈ TB := TBo (tb2 _ (List.mem_of_getElem? (i := 177) rfl)) rfl
theorem kw2_178 : Cond.methodLink RL 40 yX6_sign ∈ TB := TBo (tb2 _ (List.mem_of_getElem? (i := 178) rfl)) rfl
theorem kw2_179 : Cond.instanceMethod yX6_sign ∈ TB := TBo (tb2 _ (List.mem_of_getElem? (i := 179) rfl)) rfl
theorem kw2_180 : Cond.selects RX6 yX6_sign yX6_sign ∈ TB := TBo (tb2 _ (List.mem_of_getElem? (i := 180) rfl)) rfl
theorem kw2_181 : Cond.code yX6_sign cX6_sign 2 (some .int) ∈ TB := TBo (tb2 _ (List.mem_of_getElem? (i := 181) rfl)) rfl
theorem kw2_182 : Cond.methodLink RX6 134 yX6_hasSign ∈ TB := TBo (tb2 _ (List.mem_of_getElem? (i := 182) rfl)) rfl
theorem kw2_184 : Cond.instanceMethod yX6_hasSign ∈ TB := TBo (tb2 _ (List.mem_of_getElem? (i := 184) rfl)) rfl
theorem kw2_185 : Cond.code yX6_hasSign cX6_hasSign 2 (some .boolean) ∈ TB := TBo (tb2 _ (List.mem_of_getElem? (i := 185) rfl)) rfl
theorem kw2_186 : Cond.methodLink RL 44 yX6_alter ∈ TB := TBo (tb2 _ (List.mem_of_getElem? (i := 186) rfl)) rfl
theorem kw2_187 : Cond.instanceMethod yX6_alter ∈ TB := TBo (tb2 _ (List.mem_of_getElem? (i := 187) rfl)) rfl
theorem kw2_188 : Cond.selects RX6 yX6_alter yX6_alter ∈ TB := TBo (tb2 _ (List.mem_of_getElem? (i := 188) rfl)) rfl
theorem kw2_189 : Cond.code yX6_alter cX6_alter 6 (some .int) ∈ TB := TBo (tb2 _ (List.mem_of_getElem? (i := 189) rfl)) rfl
theorem kw2_190 : Cond.methodLink RL 49 yX6_turn ∈ TB := TBo (tb2 _ (List.mem_of_getElem? (i := 190) rfl)) rfl
theorem kw2_191 : Cond.instanceMethod yX6_turn ∈ TB := TBo (tb2 _ (List.mem_of_getElem? (i := 191) rfl)) rfl
theorem kw2_192 : Cond.selects RX6 yX6_turn yX6_turn ∈ TB := TBo (tb2 _ (List.mem_of_getElem? (i := 192) rfl)) rfl
theorem kw2_193 : Cond.code yX6_turn cX6_turn 5 (some .int) ∈ TB := TBo (tb2 _ (List.mem_of_getElem? (i := 193) rfl)) rfl
theorem kw2_194 : Cond.methodLink RX6 141 Lib.Math.abs.name ∈ TB := TBo (tb2 _ (List.mem_of_getElem? (i := 194) rfl)) rfl
theorem kw2_195 : Cond.methodLink RL 53 yX6_set ∈ TB := TBo (tb2 _ (List.mem_of_getElem? (i := 195) rfl)) rfl
theorem kw2_196 : Cond.instanceMethod yX6_set ∈ TB := TBo (tb2 _ (List.mem_of_getElem? (i := 196) rfl)) rfl
theorem kw2_197 : Cond.selects RX6 yX6_set yX6_set ∈ TB := TBo (tb2 _ (List.mem_of_getElem? (i := 197) rfl)) rfl
theorem kw2_198 : Cond.code yX6_set cX6_set 4 (some .int) ∈ TB := TBo (tb2 _ (List.mem_of_getElem? (i := 198) rfl)) rfl
theorem kw2_199 : Cond.methodLink RX6 146 yX6_canSet ∈ TB := TBo (tb2 _ (List.mem_of_getElem? (i := 199) rfl)) rfl
theorem kw2_201 : Cond.instanceMethod yX6_canSet ∈ TB := TBo (tb2 _ (List.mem_of_getElem? (i := 201) rfl)) rfl
theorem kw2_202 : Cond.code yX6_canSet cX6_canSet 3 (some .boolean) ∈ TB := TBo (tb2 _ (List.mem_of_getElem? (i := 202) rfl)) rfl
theorem kw2_203 : Cond.methodLink RL 57 yX6_every ∈ TB := TBo (tb2 _ (List.mem_of_getElem? (i := 203) rfl)) rfl
theorem kw2_204 : Cond.instanceMethod yX6_every ∈ TB := TBo (tb2 _ (List.mem_of_getElem? (i := 204) rfl)) rfl
theorem kw2_205 : Cond.selects RX6 yX6_every yX6_every ∈ TB := TBo (tb2 _ (List.mem_of_getElem? (i := 205) rfl)) rfl
theorem kw2_206 : Cond.code yX6_every cX6_every 3 (some .int) ∈ TB := TBo (tb2 _ (List.mem_of_getElem? (i := 206) rfl)) rfl
theorem kw2_207 : Cond.methodLink RL 61 yX6_add ∈ TB := TBo (tb2 _ (List.mem_of_getElem? (i := 207) rfl)) rfl
theorem kw2_208 : Cond.instanceMethod yX6_add ∈ TB := TBo (tb2 _ (List.mem_of_getElem? (i := 208) rfl)) rfl
theorem kw2_209 : Cond.selects RX6 yX6_add yX6_add ∈ TB := TBo (tb2 _ (List.mem_of_getElem? (i := 209) rfl)) rfl
theorem kw2_210 : Cond.code yX6_add cX6_add 2 (some .int) ∈ TB := TBo (tb2 _ (List.mem_of_getElem? (i := 210) rfl)) rfl
theorem kw2_211 : Cond.methodLink RX6 149 yX0_addSign ∈ TB := TBo (tb2 _ (List.mem_of_getElem? (i := 211) rfl)) rfl
theorem kw2_212 : Cond.methodLink RL 65 yX6_cut ∈ TB := TBo (tb2 _ (List.mem_of_getElem? (i := 212) rfl)) rfl
theorem kw2_213 : Cond.instanceMethod yX6_cut ∈ TB := TBo (tb2 _ (List.mem_of_getElem? (i := 213) rfl)) rfl
theorem kw2_214 : Cond.selects RX6 yX6_cut yX6_cut ∈ TB := TBo (tb2 _ (List.mem_of_getElem? (i := 214) rfl)) rfl
theorem kw2_215 : Cond.code yX6_cut cX6_cut 3 (some .int) ∈ TB := TBo (tb2 _ (List.mem_of_getElem? (i := 215) rfl)) rfl
theorem kw2_216 : Cond.methodLink RL 69 yX6_ticks ∈ TB := TBo (tb2 _ (List.mem_of_getElem? (i := 216) rfl)) rfl
theorem kw2_217 : Cond.instanceMethod yX6_ticks ∈ TB := TBo (tb2 _ (List.mem_of_getElem? (i := 217) rfl)) rfl
theorem kw2_218 : Cond.selects RX6 yX6_ticks yX6_ticks ∈ TB := TBo (tb2 _ (List.mem_of_getElem? (i := 218) rfl)) rfl
theorem kw2_219 : Cond.code yX6_ticks cX6_ticks 2 (some .int) ∈ TB := TBo (tb2 _ (List.mem_of_getElem? (i := 219) rfl)) rfl
theorem kw2_220 : Cond.methodLink RX6 152 yX0_go ∈ TB := TBo (tb2 _ (List.mem_of_getElem? (i := 220) rfl)) rfl
theorem kw2_221 : Cond.instanceMethod yX0_go ∈ TB := TBo (tb2 _ (List.mem_of_getElem? (i := 221) rfl)) rfl
theorem kw2_222 : Cond.selects RX0 yX0_go yX0_go ∈ TB := TBo (tb2 _ (List.mem_of_getElem? (i := 222) rfl)) rfl
theorem kw2_223 : Cond.code yX0_go cX0_go 4 (some .int) ∈ TB := TBo (tb2 _ (List.mem_of_getElem? (i := 223) rfl)) rfl
theorem kw2_224 : Cond.methodLink RX0 52 yX0_leadField ∈ TB := TBo (tb2 _ (List.mem_of_getElem? (i := 224) rfl)) rfl
theorem kw2_225 : Cond.instanceMethod yX0_leadField ∈ TB := TBo (tb2 _ (List.mem_of_getElem? (i := 225) rfl)) rfl
theorem kw2_226 : Cond.selects RX0 yX0_leadField yX0_leadField ∈ TB := TBo (tb2 _ (List.mem_of_getElem? (i := 226) rfl)) rfl
theorem kw2_227 : Cond.code yX0_leadField cX0_leadField 1 none ∈ TB := TBo (tb2 _ (List.mem_of_getElem? (i := 227) rfl)) rfl
theorem kw2_228 : Cond.methodLink RX0 62 yX0_moveField ∈ TB := TBo (tb2 _ (List.mem_of_getElem? (i := 228) rfl)) rfl
theorem kw2_229 : Cond.instanceMethod yX0_moveField ∈ TB := TBo (tb2 _ (List.mem_of_getElem? (i := 229) rfl)) rfl
theorem kw2_230 : Cond.selects RX0 yX0_moveField yX0_moveField ∈ TB := TBo (tb2 _ (List.mem_of_getElem? (i := 230) rfl)) rfl
theorem kw2_231 : Cond.code yX0_moveField cX0_moveField 2 none ∈ TB := TBo (tb2 _ (List.mem_of_getElem? (i := 231) rfl)) rfl
theorem kw2_232 : Cond.methodLink RX0 55 yX0_pullRotors ∈ TB := TBo (tb2 _ (List.mem_of_getElem? (i := 232) rfl)) rfl
theorem kw2_233 : Cond.instanceMethod yX0_pullRotors ∈ TB := TBo (tb2 _ (List.mem_of_getElem? (i := 233) rfl)) rfl
theorem kw2_234 : Cond.selects RX0 yX0_pullRotors yX0_pullRotors ∈ TB := TBo (tb2 _ (List.mem_of_getElem? (i := 234) rfl)) rfl
theorem kw2_235 : Cond.code yX0_pullRotors cX0_pullRotors 3 (some .int) ∈ TB := TBo (tb2 _ (List.mem_of_getElem? (i := 235) rfl)) rfl
theorem kw2_236 : Cond.methodLink RX0 66 yX2_follow ∈ TB := TBo (tb2 _ (List.mem_of_getElem? (i := 236) rfl)) rfl
theorem kw2_237 : Cond.instanceMethod yX2_follow ∈ TB := TBo (tb2 _ (List.mem_of_getElem? (i := 237) rfl)) rfl
theorem kw2_238 : Cond.selects RX2 yX2_follow yX2_follow ∈ TB := TBo (tb2 _ (List.mem_of_getElem? (i := 238) rfl)) rfl
theorem kw2_239 : Cond.code yX2_follow cX2_follow 6 (some .int) ∈ TB := TBo (tb2 _ (List.mem_of_getElem? (i := 239) rfl)) rfl
theorem kw3_0 : Cond.methodLink RX2 33 yX2_steps ∈ TB := TBo (tb3 _ (List.mem_of_getElem? (i := 0) rfl)) rfl
theorem kw3_2 : Cond.instanceMethod yX2_steps ∈ TB := TBo (tb3 _ (List.mem_of_getElem? (i := 2) rfl)) rfl
theorem kw3_3 : Cond.code yX2_steps cX2_steps 3 (some .int) ∈ TB := TBo (tb3 _ (List.mem_of_getElem? (i := 3) rfl)) rfl
theorem kw3_4 : Cond.methodLink RL 73 yX6_runs ∈ TB := TBo (tb3 _ (List.mem_of_getElem? (i := 4) rfl)) rfl
theorem kw3_5 : Cond.instanceMethod yX6_runs ∈ TB := TBo (tb3 _ (List.mem_of_getElem? (i := 5) rfl)) rfl
theorem kw3_6 : Cond.selects RX6 yX6_runs yX6_runs ∈ TB := TBo (tb3 _ (List.mem_of_getElem? (i := 6) rfl)) rfl
theorem kw3_7 : Cond.code yX6_runs cX6_runs 6 (some .int) ∈ TB := TBo (tb3 _ (List.mem_of_getElem? (i := 7) rfl)) rfl
theorem kw3_8 : Cond.methodLink RX6 155 yX0_leadField ∈ TB := TBo (tb3 _ (List.mem_of_getElem? (i := 8) rfl)) rfl
theorem kw3_9 : Cond.methodLink RX6 158 yX0_pullRotors ∈ TB := TBo (tb3 _ (List.mem_of_getElem? (i := 9) rfl)) rfl
theorem kw3_10 : Cond.methodLink RL 77 yX6_ahead ∈ TB := TBo (tb3 _ (List.mem_of_getElem? (i := 10) rfl)) rfl
theorem kw3_11 : Cond.instanceMethod yX6_ahead ∈ TB := TBo (tb3 _ (List.mem_of_getElem? (i := 11) rfl)) rfl
theorem kw3_12 : Cond.selects RX6 yX6_ahead yX6_ahead ∈ TB := TBo (tb3 _ (List.mem_of_getElem? (i := 12) rfl)) rfl
theorem kw3_13 : Cond.code yX6_ahead cX6_ahead 4 (some .int) ∈ TB := TBo (tb3 _ (List.mem_of_getElem? (i := 13) rfl)) rfl
theorem kw3_14 : Cond.methodLink RX6 161 yX0_lostOf ∈ TB := TBo (tb3 _ (List.mem_of_getElem? (i := 14) rfl)) rfl
theorem kw3_15 : Cond.instanceMethod yX0_lostOf ∈ TB := TBo (tb3 _ (List.mem_of_getElem? (i := 15) rfl)) rfl
theorem kw3_16 : Cond.selects RX0 yX0_lostOf yX0_lostOf ∈ TB := TBo (tb3 _ (List.mem_of_getElem? (i := 16) rfl)) rfl
theorem kw3_17 : Cond.code yX0_lostOf cX0_lostOf 2 (some .int) ∈ TB := TBo (tb3 _ (List.mem_of_getElem? (i := 17) rfl)) rfl
theorem kw3_18 : Cond.methodLink RL 81 yX6_when ∈ TB := TBo (tb3 _ (List.mem_of_getElem? (i := 18) rfl)) rfl
theorem kw3_19 : Cond.instanceMethod yX6_when ∈ TB := TBo (tb3 _ (List.mem_of_getElem? (i := 19) rfl)) rfl
theorem kw3_20 : Cond.selects RX6 yX6_when yX6_when ∈ TB := TBo (tb3 _ (List.mem_of_getElem? (i := 20) rfl)) rfl
theorem kw3_21 : Cond.code yX6_when cX6_when 4 (some .int) ∈ TB := TBo (tb3 _ (List.mem_of_getElem? (i := 21) rfl)) rfl
theorem kw3_22 : Cond.methodLink RL 85 yX6_slow ∈ TB := TBo (tb3 _ (List.mem_of_getElem? (i := 22) rfl)) rfl
theorem kw3_23 : Cond.instanceMethod yX6_slow ∈ TB := TBo (tb3 _ (List.mem_of_getElem? (i := 23) rfl)) rfl
theorem kw3_24 : Cond.selects RX6 yX6_slow yX6_slow ∈ TB := TBo (tb3 _ (List.mem_of_getElem? (i := 24) rfl)) rfl
theorem kw3_25 : Cond.code yX6_slow cX6_slow 4 (some .int) ∈ TB := TBo (tb3 _ (List.mem_of_getElem? (i := 25) rfl)) rfl
theorem kw3_26 : Cond.methodLink RX6 164 yX6_losesNothingMore ∈ TB := TBo (tb3 _ (List.mem_of_getElem? (i := 26) rfl)) rfl
theorem kw3_28 : Cond.instanceMethod yX6_losesNothingMore ∈ TB := TBo (tb3 _ (List.mem_of_getElem? (i := 28) rfl)) rfl
theorem kw3_29 : Cond.code yX6_losesNothingMore cX6_losesNothingMore 3 (some .boolean) ∈ TB := TBo (tb3 _ (List.mem_of_getElem? (i := 29) rfl)) rfl
theorem kw3_30 : Cond.methodLink RL 89 yX6_need ∈ TB := TBo (tb3 _ (List.mem_of_getElem? (i := 30) rfl)) rfl
theorem kw3_31 : Cond.instanceMethod yX6_need ∈ TB := TBo (tb3 _ (List.mem_of_getElem? (i := 31) rfl)) rfl
theorem kw3_32 : Cond.selects RX6 yX6_need yX6_need ∈ TB := TBo (tb3 _ (List.mem_of_getElem? (i := 32) rfl)) rfl
theorem kw3_33 : Cond.code yX6_need cX6_need 4 (some .int) ∈ TB := TBo (tb3 _ (List.mem_of_getElem? (i := 33) rfl)) rfl
theorem kw3_34 : Cond.methodLink RX6 167 yX6_tryWith ∈ TB := TBo (tb3 _ (List.mem_of_getElem? (i := 34) rfl)) rfl
theorem kw3_36 : Cond.instanceMethod yX6_tryWith ∈ TB := TBo (tb3 _ (List.mem_of_getElem? (i := 36) rfl)) rfl
theorem kw3_37 : Cond.code yX6_tryWith cX6_tryWith 5 none ∈ TB := TBo (tb3 _ (List.mem_of_getElem? (i := 37) rfl)) rfl
theorem kw3_38 : Cond.methodLink RL 93 yX6_kind ∈ TB := TBo (tb3 _ (List.mem_of_getElem? (i := 38) rfl)) rfl
theorem kw3_39 : Cond.instanceMethod yX6_kind ∈ TB := TBo (tb3 _ (List.mem_of_getElem? (i := 39) rfl)) rfl
theorem kw3_40 : Cond.selects RX6 yX6_kind yX6_kind ∈ TB := TBo (tb3 _ (List.mem_of_getElem? (i := 40) rfl)) rfl
theorem kw3_41 : Cond.code yX6_kind cX6_kind 4 (some .int) ∈ TB := TBo (tb3 _ (List.mem_of_getElem? (i := 41) rfl)) rfl
theorem kw3_42 : Cond.methodLink RX6 171 yX6_leastLostBy ∈ TB := TBo (tb3 _ (List.mem_of_getElem? (i := 42) rfl)) rfl
theorem kw3_44 : Cond.instanceMethod yX6_leastLostBy ∈ TB := TBo (tb3 _ (List.mem_of_getElem? (i := 44) rfl)) rfl
theorem kw3_45 : Cond.code yX6_leastLostBy cX6_leastLostBy 10 (some .int) ∈ TB := TBo (tb3 _ (List.mem_of_getElem? (i := 45) rfl)) rfl
theorem kw3_46 : Cond.methodLink RX6 175 yX6_allLostBehind ∈ TB := TBo (tb3 _ (List.mem_of_getElem? (i := 46) rfl)) rfl
theorem kw3_48 : Cond.instanceMethod yX6_allLostBehind ∈ TB := TBo (tb3 _ (List.mem_of_getElem? (i := 48) rfl)) rfl
theorem kw3_49 : Cond.code yX6_allLostBehind cX6_allLostBehind 2 (some .int) ∈ TB := TBo (tb3 _ (List.mem_of_getElem? (i := 49) rfl)) rfl
theorem kw3_50 : Cond.methodLink RL 97 yX6_swap ∈ TB := TBo (tb3 _ (List.mem_of_getElem? (i := 50) rfl)) rfl
theorem kw3_51 : Cond.instanceMethod yX6_swap ∈ TB := TBo (tb3 _ (List.mem_of_getElem? (i := 51) rfl)) rfl
theorem kw3_52 : Cond.selects RX6 yX6_swap yX6_swap ∈ TB := TBo (tb3 _ (List.mem_of_getElem? (i := 52) rfl)) rfl
theorem kw3_53 : Cond.code yX6_swap cX6_swap 8 (some .int) ∈ TB := TBo (tb3 _ (List.mem_of_getElem? (i := 53) rfl)) rfl
theorem kw3_54 : Cond.methodLink RL 101 yX6_ease ∈ TB := TBo (tb3 _ (List.mem_of_getElem? (i := 54) rfl)) rfl
theorem kw3_55 : Cond.instanceMethod yX6_ease ∈ TB := TBo (tb3 _ (List.mem_of_getElem? (i := 55) rfl)) rfl
theorem kw3_56 : Cond.selects RX6 yX6_ease yX6_ease ∈ TB := TBo (tb3 _ (List.mem_of_getElem? (i := 56) rfl)) rfl
theorem kw3_57 : Cond.code yX6_ease cX6_ease 7 (some .int) ∈ TB := TBo (tb3 _ (List.mem_of_getElem? (i := 57) rfl)) rfl
theorem kw3_58 : Cond.methodLink RL 105 yX6_begin ∈ TB := TBo (tb3 _ (List.mem_of_getElem? (i := 58) rfl)) rfl
theorem kw3_59 : Cond.instanceMethod yX6_begin ∈ TB := TBo (tb3 _ (List.mem_of_getElem? (i := 59) rfl)) rfl
theorem kw3_60 : Cond.selects RX6 yX6_begin yX6_begin ∈ TB := TBo (tb3 _ (List.mem_of_getElem? (i := 60) rfl)) rfl
theorem kw3_61 : Cond.code yX6_begin cX6_begin 4 (some .int) ∈ TB := TBo (tb3 _ (List.mem_of_getElem? (i := 61) rfl)) rfl
theorem kw3_62 : Cond.methodLink RL 109 yX6_luck ∈ TB := TBo (tb3 _ (List.mem_of_getElem? (i := 62) rfl)) rfl
theorem kw3_63 : Cond.instanceMethod yX6_luck ∈ TB := TBo (tb3 _ (List.mem_of_getElem? (i := 63) rfl)) rfl
theorem kw3_64 : Cond.selects RX6 yX6_luck yX6_luck ∈ TB := TBo (tb3 _ (List.mem_of_getElem? (i := 64) rfl)) rfl
theorem kw3_65 : Cond.code yX6_luck cX6_luck 8 (some .long) ∈ TB := TBo (tb3 _ (List.mem_of_getElem? (i := 65) rfl)) rfl
theorem kw3_66 : Cond.constantLong RX6 178 (-1 : Int64) ∈ TB := TBo (tb3 _ (List.mem_of_getElem? (i := 66) rfl)) rfl
theorem kw3_67 : Cond.methodLink RX6 180 yX0_goFailing ∈ TB := TBo (tb3 _ (List.mem_of_getElem? (i := 67) rfl)) rfl
theorem kw3_68 : Cond.instanceMethod yX0_goFailing ∈ TB := TBo (tb3 _ (List.mem_of_getElem? (i := 68) rfl)) rfl
theorem kw3_69 : Cond.selects RX0 yX0_goFailing yX0_goFailing ∈ TB := TBo (tb3 _ (List.mem_of_getElem? (i := 69) rfl)) rfl
theorem kw3_70 : Cond.code yX0_goFailing cX0_goFailing 5 (some .int) ∈ TB := TBo (tb3 _ (List.mem_of_getElem? (i := 70) rfl)) rfl
theorem kw3_71 : Cond.methodLink RX0 59 yX0_leaveRotors ∈ TB := TBo (tb3 _ (List.mem_of_getElem? (i := 71) rfl)) rfl
theorem kw3_73 : Cond.instanceMethod yX0_leaveRotors ∈ TB := TBo (tb3 _ (List.mem_of_getElem? (i := 73) rfl)) rfl
theorem kw3_74 : Cond.code yX0_leaveRotors cX0_leaveRotors 2 none ∈ TB := TBo (tb3 _ (List.mem_of_getElem? (i := 74) rfl)) rfl
theorem kw3_75 : Cond.methodLink RX6 184 yJ6_bitCount_0f7a4 ∈ TB := TBo (tb3 _ (List.mem_of_getElem? (i := 75) rfl)) rfl
theorem kw3_76 : Cond.static yJ6_bitCount_0f7a4 ∈ TB := TBo (tb3 _ (List.mem_of_getElem? (i := 76) rfl)) rfl
theorem kw3_77 : Cond.code yJ6_bitCount_0f7a4 cJ6_bitCount_0f7a4 1 (some .int) ∈ TB := TBo (tb3 _ (List.mem_of_getElem? (i := 77) rfl)) rfl
theorem kw3_78 : Cond.constant RJ6 265 (1431655765 : Int32) ∈ TB := TBo (tb3 _ (List.mem_of_getElem? (i := 78) rfl)) rfl
theorem kw3_79 : Cond.constant RJ6 266 (858993459 : Int32) ∈ TB := TBo (tb3 _ (List.mem_of_getElem? (i := 79) rfl)) rfl
theorem kw3_80 : Cond.constant RJ6 267 (252645135 : Int32) ∈ TB := TBo (tb3 _ (List.mem_of_getElem? (i := 80) rfl)) rfl
theorem kw3_81 : Cond.methodLink RX6 189 yX6_weightOf ∈ TB := TBo (tb3 _ (List.mem_of_getElem? (i := 81) rfl)) rfl
theorem kw3_82 : Cond.static yX6_weightOf ∈ TB := TBo (tb3 _ (List.mem_of_getElem? (i := 82) rfl)) rfl
theorem kw3_83 : Cond.code yX6_weightOf cX6_weightOf 3 (some .long) ∈ TB := TBo (tb3 _ (List.mem_of_getElem? (i := 83) rfl)) rfl
theorem kw3_84 : Cond.methodLink RX6 193 yX6_power ∈ TB := TBo (tb3 _ (List.mem_of_getElem? (i := 84) rfl)) rfl
theorem kw3_85 : Cond.static yX6_power ∈ TB := TBo (tb3 _ (List.mem_of_getElem? (i := 85) rfl)) rfl
theorem kw3_86 : Cond.code yX6_power cX6_power 5 (some .long) ∈ TB := TBo (tb3 _ (List.mem_of_getElem? (i := 86) rfl)) rfl
theorem kw3_87 : Cond.methodLink RX6 197 yX6_inLowestTerms ∈ TB := TBo (tb3 _ (List.mem_of_getElem? (i := 87) rfl)) rfl
theorem kw3_88 : Cond.static yX6_inLowestTerms ∈ TB := TBo (tb3 _ (List.mem_of_getElem? (i := 88) rfl)) rfl
theorem kw3_89 : Cond.code yX6_inLowestTerms cX6_inLowestTerms 12 (some .long) ∈ TB := TBo (tb3 _ (List.mem_of_getElem? (i := 89) rfl)) rfl
theorem kw3_90 : Cond.methodLink RX6 263 Lib.MathLoose.max_long.x ∈ TB := TBo (tb3 _ (List.mem_of_getElem? (i := 90) rfl)) rfl
theorem kw3_91 : Cond.static Lib.MathLoose.max_long.x ∈ TB := TBo (tb3 _ (List.mem_of_getElem? (i := 91) rfl)) rfl
theorem kw3_92 : Cond.code Lib.MathLoose.max_long.x Lib.MathLoose.max_long.code 4 (some .long) ∈ TB := TBo (tb3 _ (List.mem_of_getElem? (i := 92) rfl)) rfl
theorem kw3_93 : Cond.methodLink RL 114 yX6_mean ∈ TB := TBo (tb3 _ (List.mem_of_getElem? (i := 93) rfl)) rfl
theorem kw3_94 : Cond.instanceMethod yX6_mean ∈ TB := TBo (tb3 _ (List.mem_of_getElem? (i := 94) rfl)) rfl
theorem kw3_95 : Cond.selects RX6 yX6_mean yX6_mean ∈ TB := TBo (tb3 _ (List.mem_of_getElem? (i := 95) rfl)) rfl
theorem kw3_96 : Cond.code yX6_mean cX6_mean 8 (some .long) ∈ TB := TBo (tb3 _ (List.mem_of_getElem? (i := 96) rfl)) rfl
theorem kw3_97 : Cond.methodLink RL 119 yX6_see ∈ TB := TBo (tb3 _ (List.mem_of_getElem? (i := 97) rfl)) rfl
theorem kw3_98 : Cond.instanceMethod yX6_see ∈ TB := TBo (tb3 _ (List.mem_of_getElem? (i := 98) rfl)) rfl
theorem kw3_99 : Cond.selects RX6 yX6_see yX6_see ∈ TB := TBo (tb3 _ (List.mem_of_getElem? (i := 99) rfl)) rfl
theorem kw3_100 : Cond.code yX6_see cX6_see 4 (some .int) ∈ TB := TBo (tb3 _ (List.mem_of_getElem? (i := 100) rfl)) rfl
theorem kw3_101 : Cond.methodLink RX6 201 yX4_note ∈ TB := TBo (tb3 _ (List.mem_of_getElem? (i := 101) rfl)) rfl
theorem kw3_102 : Cond.instanceMethod yX4_note ∈ TB := TBo (tb3 _ (List.mem_of_getElem? (i := 102) rfl)) rfl
theorem kw3_103 : Cond.selects RX4 yX4_note yX4_note ∈ TB := TBo (tb3 _ (List.mem_of_getElem? (i := 103) rfl)) rfl
theorem kw3_104 : Cond.code yX4_note cX4_note 4 (some .boolean) ∈ TB := TBo (tb3 _ (List.mem_of_getElem? (i := 104) rfl)) rfl
theorem kw3_105 : Cond.methodLink RL 123 yX6_forget ∈ TB := TBo (tb3 _ (List.mem_of_getElem? (i := 105) rfl)) rfl
theorem kw3_106 : Cond.instanceMethod yX6_forget ∈ TB := TBo (tb3 _ (List.mem_of_getElem? (i := 106) rfl)) rfl
theorem kw3_107 : Cond.selects RX6 yX6_forget yX6_forget ∈ TB := TBo (tb3 _ (List.mem_of_getElem? (i := 107) rfl)) rfl
theorem kw3_108 : Cond.code yX6_forget cX6_forget 3 (some .int) ∈ TB := TBo (tb3 _ (List.mem_of_getElem? (i := 108) rfl)) rfl
theorem kw3_109 : Cond.methodLink RL 127 yX6_kinds ∈ TB := TBo (tb3 _ (List.mem_of_getElem? (i := 109) rfl)) rfl
theorem kw3_110 : Cond.instanceMethod yX6_kinds ∈ TB := TBo (tb3 _ (List.mem_of_getElem? (i := 110) rfl)) rfl
theorem kw3_111 : Cond.selects RX6 yX6_kinds yX6_kinds ∈ TB := TBo (tb3 _ (List.mem_of_getElem? (i := 111) rfl)) rfl
theorem kw3_112 : Cond.code yX6_kinds cX6_kinds 2 (some .int) ∈ TB := TBo (tb3 _ (List.mem_of_getElem? (i := 112) rfl)) rfl
theorem kw3_113 : Cond.methodLink RX6 205 yX6_asSeenBy ∈ TB := TBo (tb3 _ (List.mem_of_getElem? (i := 113) rfl)) rfl
theorem kw3_115 : Cond.instanceMethod yX6_asSeenBy ∈ TB := TBo (tb3 _ (List.mem_of_getElem? (i := 115) rfl)) rfl
theorem kw3_116 : Cond.code yX6_asSeenBy cX6_asSeenBy 6 (some .int) ∈ TB := TBo (tb3 _ (List.mem_of_getElem? (i := 116) rfl)) rfl
theorem kw3_117 : Cond.methodLink RX6 259 yX6_goesAsSeen ∈ TB := TBo (tb3 _ (List.mem_of_getElem? (i := 117) rfl)) rfl
theorem kw3_119 : Cond.instanceMethod yX6_goesAsSeen ∈ TB := TBo (tb3 _ (List.mem_of_getElem? (i := 119) rfl)) rfl
theorem kw3_120 : Cond.code yX6_goesAsSeen cX6_goesAsSeen 3 (some .boolean) ∈ TB := TBo (tb3 _ (List.mem_of_getElem? (i := 120) rfl)) rfl
theorem kw3_121 : Cond.methodLink RX6 252 yX4_last ∈ TB := TBo (tb3 _ (List.mem_of_getElem? (i := 121) rfl)) rfl
theorem kw3_122 : Cond.instanceMethod yX4_last ∈ TB := TBo (tb3 _ (List.mem_of_getElem? (i := 122) rfl)) rfl
theorem kw3_123 : Cond.selects RX4 yX4_last yX4_last ∈ TB := TBo (tb3 _ (List.mem_of_getElem? (i := 123) rfl)) rfl
theorem kw3_124 : Cond.code yX4_last cX4_last 3 (some .int) ∈ TB := TBo (tb3 _ (List.mem_of_getElem? (i := 124) rfl)) rfl
theorem kw3_125 : Cond.methodLink RX4 31 Lib.Math.max.name ∈ TB := TBo (tb3 _ (List.mem_of_getElem? (i := 125) rfl)) rfl
theorem kw3_126 : Cond.static Lib.Math.max.name ∈ TB := TBo (tb3 _ (List.mem_of_getElem? (i := 126) rfl)) rfl
theorem kw3_127 : Cond.code Lib.Math.max.name Lib.Math.max.code 2 (some .int) ∈ TB := TBo (tb3 _ (List.mem_of_getElem? (i := 127) rfl)) rfl
theorem kw3_128 : Cond.methodLink RX6 255 yX4_fit ∈ TB := TBo (tb3 _ (List.mem_of_getElem? (i := 128) rfl)) rfl
theorem kw3_129 : Cond.instanceMethod yX4_fit ∈ TB := TBo (tb3 _ (List.mem_of_getElem? (i := 129) rfl)) rfl
theorem kw3_130 : Cond.selects RX4 yX4_fit yX4_fit ∈ TB := TBo (tb3 _ (List.mem_of_getElem? (i := 130) rfl)) rfl
theorem kw3_131 : Cond.code yX4_fit cX4_fit 4 (some .boolean) ∈ TB := TBo (tb3 _ (List.mem_of_getElem? (i := 131) rfl)) rfl
theorem kw3_132 : Cond.methodLink RX4 48 yJ9_floorMod_7cf53 ∈ TB := TBo (tb3 _ (List.mem_of_getElem? (i := 132) rfl)) rfl
theorem kw3_133 : Cond.static yJ9_floorMod_7cf53 ∈ TB := TBo (tb3 _ (List.mem_of_getElem? (i := 133) rfl)) rfl
theorem kw3_134 : Cond.code yJ9_floorMod_7cf53 cJ9_floorMod_7cf53 3 (some .int) ∈ TB := TBo (tb3 _ (List.mem_of_getElem? (i := 134) rfl)) rfl
theorem kw3_135 : Cond.methodLink RL 131 yX6_grips ∈ TB := TBo (tb3 _ (List.mem_of_getElem? (i := 135) rfl)) rfl
theorem kw3_136 : Cond.instanceMethod yX6_grips ∈ TB := TBo (tb3 _ (List.mem_of_getElem? (i := 136) rfl)) rfl
theorem kw3_137 : Cond.selects RX6 yX6_grips yX6_grips ∈ TB := TBo (tb3 _ (List.mem_of_getElem? (i := 137) rfl)) rfl
theorem kw3_138 : Cond.code yX6_grips cX6_grips 2 (some .int) ∈ TB := TBo (tb3 _ (List.mem_of_getElem? (i := 138) rfl)) rfl
theorem kw3_139 : Cond.methodLink RL 135 yX6_starts ∈ TB := TBo (tb3 _ (List.mem_of_getElem? (i := 139) rfl)) rfl
theorem kw3_140 : Cond.instanceMethod yX6_starts ∈ TB := TBo (tb3 _ (List.mem_of_getElem? (i := 140) rfl)) rfl
theorem kw3_141 : Cond.selects RX6 yX6_starts yX6_starts ∈ TB := TBo (tb3 _ (List.mem_of_getElem? (i := 141) rfl)) rfl
theorem kw3_142 : Cond.code yX6_starts cX6_starts 2 (some .int) ∈ TB := TBo (tb3 _ (List.mem_of_getElem? (i := 142) rfl)) rfl
theorem kw3_143 : Cond.methodLink RL 139 yX6_ask ∈ TB := TBo (tb3 _ (List.mem_of_getElem? (i := 143) rfl)) rfl
theorem kw3_144 : Cond.instanceMethod yX6_ask ∈ TB := TBo (tb3 _ (List.mem_of_getElem? (i := 144) rfl)) rfl
theorem kw3_145 : Cond.selects RX6 yX6_ask yX6_ask ∈ TB := TBo (tb3 _ (List.mem_of_getElem? (i := 145) rfl)) rfl
theorem kw3_146 : Cond.code yX6_ask cX6_ask 3 (some .int) ∈ TB := TBo (tb3 _ (List.mem_of_getElem? (i := 146) rfl)) rfl
theorem kw3_147 : Cond.methodLink RL 143 yX6_drift ∈ TB := TBo (tb3 _ (List.mem_of_getElem? (i := 147) rfl)) rfl
theorem kw3_148 : Cond.instanceMethod yX6_drift ∈ TB := TBo (tb3 _ (List.mem_of_getElem? (i := 148) rfl)) rfl
theorem kw3_149 : Cond.selects RX6 yX6_drift yX6_drift ∈ TB := TBo (tb3 _ (List.mem_of_getElem? (i := 149) rfl)) rfl
theorem kw3_150 : Cond.code yX6_drift cX6_drift 8 (some .int) ∈ TB := TBo (tb3 _ (List.mem_of_getElem? (i := 150) rfl)) rfl
theorem kw3_151 : Cond.constant RX6 209 (1103515245 : Int32) ∈ TB := TBo (tb3 _ (List.mem_of_getElem? (i := 151) rfl)) rfl
theorem kw3_152 : Cond.methodLink RX6 210 yX0_moveField ∈ TB := TBo (tb3 _ (List.mem_of_getElem? (i := 152) rfl)) rfl
theorem kw3_153 : Cond.methodLink RL 147 yX6_keep ∈ TB := TBo (tb3 _ (List.mem_of_getElem? (i := 153) rfl)) rfl
theorem kw3_154 : Cond.instanceMethod yX6_keep ∈ TB := TBo (tb3 _ (List.mem_of_getElem? (i := 154) rfl)) rfl
theorem kw3_155 : Cond.selects RX6 yX6_keep yX6_keep ∈ TB := TBo (tb3 _ (List.mem_of_getElem? (i := 155) rfl)) rfl
theorem kw3_156 : Cond.code yX6_keep cX6_keep 4 (some .int) ∈ TB := TBo (tb3 _ (List.mem_of_getElem? (i := 156) rfl)) rfl
theorem kw3_157 : Cond.methodLink RX6 218 yX4_copyFrom ∈ TB := TBo (tb3 _ (List.mem_of_getElem? (i := 157) rfl)) rfl
theorem kw3_158 : Cond.instanceMethod yX4_copyFrom ∈ TB := TBo (tb3 _ (List.mem_of_getElem? (i := 158) rfl)) rfl
theorem kw3_159 : Cond.selects RX4 yX4_copyFrom yX4_copyFrom ∈ TB := TBo (tb3 _ (List.mem_of_getElem? (i := 159) rfl)) rfl
theorem kw3_160 : Cond.code yX4_copyFrom cX4_copyFrom 2 none ∈ TB := TBo (tb3 _ (List.mem_of_getElem? (i := 160) rfl)) rfl
theorem kw3_161 : Cond.methodLink RX4 25 arraycopyName ∈ TB := TBo (tb3 _ (List.mem_of_getElem? (i := 161) rfl)) rfl
theorem kw3_162 : Cond.methodLink RL 151 yX6_back ∈ TB := TBo (tb3 _ (List.mem_of_getElem? (i := 162) rfl)) rfl
theorem kw3_163 : Cond.instanceMethod yX6_back ∈ TB := TBo (tb3 _ (List.mem_of_getElem? (i := 163) rfl)) rfl
theorem kw3_164 : Cond.selects RX6 yX6_back yX6_back ∈ TB := TBo (tb3 _ (List.mem_of_getElem? (i := 164) rfl)) rfl
theorem kw3_165 : Cond.code yX6_back cX6_back 3 (some .int) ∈ TB := TBo (tb3 _ (List.mem_of_getElem? (i := 165) rfl)) rfl
theorem kw3_166 : Cond.methodLink RL 155 yX6_sheet ∈ TB := TBo (tb3 _ (List.mem_of_getElem? (i := 166) rfl)) rfl
theorem kw3_167 : Cond.instanceMethod yX6_sheet ∈ TB := TBo (tb3 _ (List.mem_of_getElem? (i := 167) rfl)) rfl
theorem kw3_168 : Cond.selects RX6 yX6_sheet yX6_sheet ∈ TB := TBo (tb3 _ (List.mem_of_getElem? (i := 168) rfl)) rfl
theorem kw3_169 : Cond.code yX6_sheet cX6_sheet 4 (some .int) ∈ TB := TBo (tb3 _ (List.mem_of_getElem? (i := 169) rfl)) rfl
theorem kw3_170 : Cond.methodLink RX6 221 yX3_renew ∈ TB := TBo (tb3 _ (List.mem_of_getElem? (i := 170) rfl)) rfl
theorem kw3_171 : Cond.instanceMethod yX3_renew ∈ TB := TBo (tb3 _ (List.mem_of_getElem? (i := 171) rfl)) rfl
theorem kw3_172 : Cond.selects RX3 yX3_renew yX3_renew ∈ TB := TBo (tb3 _ (List.mem_of_getElem? (i := 172) rfl)) rfl
theorem kw3_173 : Cond.code yX3_renew cX3_renew 4 none ∈ TB := TBo (tb3 _ (List.mem_of_getElem? (i := 173) rfl)) rfl
theorem kw3_174 : Cond.methodLink RL 159 yX6_lay ∈ TB := TBo (tb3 _ (List.mem_of_getElem? (i := 174) rfl)) rfl
theorem kw3_175 : Cond.instanceMethod yX6_lay ∈ TB := TBo (tb3 _ (List.mem_of_getElem? (i := 175) rfl)) rfl
theorem kw3_176 : Cond.selects RX6 yX6_lay yX6_lay ∈ TB := TBo (tb3 _ (List.mem_of_getElem? (i := 176) rfl)) rfl
theorem kw3_177 : Cond.code yX6_lay cX6_lay 5 (some .int) ∈ TB := TBo (tb3 _ (List.mem_of_getElem? (i := 177) rfl)) rfl
theorem kw3_178 : Cond.methodLink RX6 225 yX3_faultAt ∈ TB := TBo (tb3 _ (List.mem_of_getElem? (i := 178) rfl)) rfl
theorem kw3_179 : Cond.instanceMethod yX3_faultAt ∈ TB := TBo (tb3 _ (List.mem_of_getElem? (i := 179) rfl)) rfl
theorem kw3_180 : Cond.selects RX3 yX3_faultAt yX3_faultAt ∈ TB := TBo (tb3 _ (List.mem_of_getElem? (i := 180) rfl)) rfl
theorem kw3_181 : Cond.code yX3_faultAt cX3_faultAt 2 (some .int) ∈ TB := TBo (tb3 _ (List.mem_of_getElem? (i := 181) rfl)) rfl
theorem kw3_182 : Cond.methodLink RX6 228 yX3_put ∈ TB := TBo (tb3 _ (List.mem_of_getElem? (i := 182) rfl)) rfl
theorem kw3_183 : Cond.instanceMethod yX3_put ∈ TB := TBo (tb3 _ (List.mem_of_getElem? (i := 183) rfl)) rfl
theorem kw3_184 : Cond.selects RX3 yX3_put yX3_put ∈ TB := TBo (tb3 _ (List.mem_of_getElem? (i := 184) rfl)) rfl
theorem kw3_185 : Cond.code yX3_put cX3_put 3 none ∈ TB := TBo (tb3 _ (List.mem_of_getElem? (i := 185) rfl)) rfl
theorem kw3_186 : Cond.methodLink RL 163 yX6_read ∈ TB := TBo (tb3 _ (List.mem_of_getElem? (i := 186) rfl)) rfl
theorem kw3_187 : Cond.instanceMethod yX6_read ∈ TB := TBo (tb3 _ (List.mem_of_getElem? (i := 187) rfl)) rfl
theorem kw3_188 : Cond.selects RX6 yX6_read yX6_read ∈ TB := TBo (tb3 _ (List.mem_of_getElem? (i := 188) rfl)) rfl
theorem kw3_189 : Cond.code yX6_read cX6_read 10 (some .int) ∈ TB := TBo (tb3 _ (List.mem_of_getElem? (i := 189) rfl)) rfl
theorem kw3_190 : Cond.methodLink RX6 231 yX3_faultOfPair ∈ TB := TBo (tb3 _ (List.mem_of_getElem? (i := 190) rfl)) rfl
theorem kw3_191 : Cond.instanceMethod yX3_faultOfPair ∈ TB := TBo (tb3 _ (List.mem_of_getElem? (i := 191) rfl)) rfl
theorem kw3_192 : Cond.selects RX3 yX3_faultOfPair yX3_faultOfPair ∈ TB := TBo (tb3 _ (List.mem_of_getElem? (i := 192) rfl)) rfl
theorem kw3_193 : Cond.code yX3_faultOfPair cX3_faultOfPair 4 (some .int) ∈ TB := TBo (tb3 _ (List.mem_of_getElem? (i := 193) rfl)) rfl
theorem kw3_194 : Cond.methodLink RX3 22 yX3_faultAt ∈ TB := TBo (tb3 _ (List.mem_of_getElem? (i := 194) rfl)) rfl
theorem kw3_195 : Cond.methodLink RL 168 yX6_torn ∈ TB := TBo (tb3 _ (List.mem_of_getElem? (i := 195) rfl)) rfl
theorem kw3_196 : Cond.instanceMethod yX6_torn ∈ TB := TBo (tb3 _ (List.mem_of_getElem? (i := 196) rfl)) rfl
theorem kw3_197 : Cond.selects RX6 yX6_torn yX6_torn ∈ TB := TBo (tb3 _ (List.mem_of_getElem? (i := 197) rfl)) rfl
theorem kw3_198 : Cond.code yX6_torn cX6_torn 1 (some .int) ∈ TB := TBo (tb3 _ (List.mem_of_getElem? (i := 198) rfl)) rfl
theorem kw3_199 : Cond.methodLink RL 172 yX6_count ∈ TB := TBo (tb3 _ (List.mem_of_getElem? (i := 199) rfl)) rfl
theorem kw3_200 : Cond.instanceMethod yX6_count ∈ TB := TBo (tb3 _ (List.mem_of_getElem? (i := 200) rfl)) rfl
theorem kw3_201 : Cond.selects RX6 yX6_count yX6_count ∈ TB := TBo (tb3 _ (List.mem_of_getElem? (i := 201) rfl)) rfl
theorem kw3_202 : Cond.code yX6_count cX6_count 2 (some .int) ∈ TB := TBo (tb3 _ (List.mem_of_getElem? (i := 202) rfl)) rfl
theorem kw3_203 : Cond.methodLink RX6 246 yX0_allGrips ∈ TB := TBo (tb3 _ (List.mem_of_getElem? (i := 203) rfl)) rfl
theorem kw3_204 : Cond.instanceMethod yX0_allGrips ∈ TB := TBo (tb3 _ (List.mem_of_getElem? (i := 204) rfl)) rfl
theorem kw3_205 : Cond.selects RX0 yX0_allGrips yX0_allGrips ∈ TB := TBo (tb3 _ (List.mem_of_getElem? (i := 205) rfl)) rfl
theorem kw3_206 : Cond.code yX0_allGrips cX0_allGrips 3 (some .int) ∈ TB := TBo (tb3 _ (List.mem_of_getElem? (i := 206) rfl)) rfl
theorem kw3_207 : Cond.methodLink RX6 249 yX0_allSigns ∈ TB := TBo (tb3 _ (List.mem_of_getElem? (i := 207) rfl)) rfl
theorem kw3_208 : Cond.instanceMethod yX0_allSigns ∈ TB := TBo (tb3 _ (List.mem_of_getElem? (i := 208) rfl)) rfl
theorem kw3_209 : Cond.selects RX0 yX0_allSigns yX0_allSigns ∈ TB := TBo (tb3 _ (List.mem_of_getElem? (i := 209) rfl)) rfl
theorem kw3_210 : Cond.code yX0_allSigns cX0_allSigns 3 (some .int) ∈ TB := TBo (tb3 _ (List.mem_of_getElem? (i := 210) rfl)) rfl
theorem kw3_211 : Cond.classLink RL 10 RX7 ∈ TB := TBo (tb3 _ (List.mem_of_getElem? (i := 211) rfl)) rfl
theorem kw3_212 : Cond.instantiable RX7 28 ∈ TB := TBo (tb3 _ (List.mem_of_getElem? (i := 212) rfl)) rfl
theorem kw3_213 : Cond.methodLink RL 12 yX7_init ∈ TB := TBo (tb3 _ (List.mem_of_getElem? (i := 213) rfl)) rfl
theorem kw3_214 : Cond.instanceMethod yX7_init ∈ TB := TBo (tb3 _ (List.mem_of_getElem? (i := 214) rfl)) rfl
theorem kw3_215 : Cond.code yX7_init cX7_init 2 none ∈ TB := TBo (tb3 _ (List.mem_of_getElem? (i := 215) rfl)) rfl
theorem kw3_216 : Cond.methodLink RX7 1 objectInit ∈ TB := TBo (tb3 _ (List.mem_of_getElem? (i := 216) rfl)) rfl
theorem kw3_217 : Cond.methodLink RX7 44 yX7_firstDraft ∈ TB := TBo (tb3 _ (List.mem_of_getElem? (i := 217) rfl)) rfl
theorem kw3_219 : Cond.instanceMethod yX7_firstDraft ∈ TB := TBo (tb3 _ (List.mem_of_getElem? (i := 219) rfl)) rfl
theorem kw3_220 : Cond.code yX7_firstDraft cX7_firstDraft 2 none ∈ TB := TBo (tb3 _ (List.mem_of_getElem? (i := 220) rfl)) rfl
theorem kw3_221 : Cond.methodLink RX7 47 yX7_keepDraft ∈ TB := TBo (tb3 _ (List.mem_of_getElem? (i := 221) rfl)) rfl
theorem kw3_223 : Cond.instanceMethod yX7_keepDraft ∈ TB := TBo (tb3 _ (List.mem_of_getElem? (i := 223) rfl)) rfl
theorem kw3_224 : Cond.code yX7_keepDraft cX7_keepDraft 2 none ∈ TB := TBo (tb3 _ (List.mem_of_getElem? (i := 224) rfl)) rfl
theorem kw3_225 : Cond.fieldLink RX7 7 "CoilWheelsModel" "st" "[I" ∈ TB := TBo (tb3 _ (List.mem_of_getElem? (i := 225) rfl)) rfl
theorem kw3_226 : Cond.fieldLink RX7 13 "CoilWheelsModel" "now" "[I" ∈ TB := TBo (tb3 _ (List.mem_of_getElem? (i := 226) rfl)) rfl
theorem kw3_227 : Cond.fieldLink RX7 16 "CoilWheelsModel" "isKept" "[Z" ∈ TB := TBo (tb3 _ (List.mem_of_getElem? (i := 227) rfl)) rfl
theorem kw3_228 : Cond.fieldLink RX7 20 "CoilWheelsModel" "draft" "[I" ∈ TB := TBo (tb3 _ (List.mem_of_getElem? (i := 228) rfl)) rfl
theorem kw3_229 : Cond.fieldLink RX7 50 "CoilWheelsModel" "hasSigns" "Z" ∈ TB := TBo (tb3 _ (List.mem_of_getElem? (i := 229) rfl)) rfl
theorem kw3_230 : Cond.fieldLink RX7 54 "CoilWheelsModel" "hasEvery" "Z" ∈ TB := TBo (tb3 _ (List.mem_of_getElem? (i := 230) rfl)) rfl
theorem kw3_231 : Cond.fieldLink RX7 23 "CoilWheelsModel" "tape" "[I" ∈ TB := TBo (tb3 _ (List.mem_of_getElem? (i := 231) rfl)) rfl
theorem kw3_232 : Cond.fieldLink RX7 63 "CoilWheelsModel" "taped" "I" ∈ TB := TBo (tb3 _ (List.mem_of_getElem? (i := 232) rfl)) rfl
theorem kw3_233 : Cond.fieldLink RX7 76 "CoilWheelsModel" "pos" "I" ∈ TB := TBo (tb3 _ (List.mem_of_getElem? (i := 233) rfl)) rfl
theorem kw3_234 : Cond.fieldLink RX7 70 "CoilWheelsModel" "begun" "I" ∈ TB := TBo (tb3 _ (List.mem_of_getElem? (i := 234) rfl)) rfl
theorem kw3_235 : Cond.fieldLink RX7 87 "CoilWheelsModel" "sort" "I" ∈ TB := TBo (tb3 _ (List.mem_of_getElem? (i := 235) rfl)) rfl
theorem kw3_236 : Cond.fieldLink RX7 98 "CoilWheelsModel" "value" "I" ∈ TB := TBo (tb3 _ (List.mem_of_getElem? (i := 236) rfl)) rfl
theorem kw3_237 : Cond.fieldLink RX7 67 "CoilWheelsModel" "fault" "I" ∈ TB := TBo (tb3 _ (List.mem_of_getElem? (i := 237) rfl)) rfl
theorem kw3_238 : Cond.fieldLink RX7 73 "CoilWheelsModel" "wrongAt" "I" ∈ TB := TBo (tb3 _ (List.mem_of_getElem? (i := 238) rfl)) rfl
theorem kw3_239 : Cond.fieldLink RX7 126 "CoilWheelsModel" "moved" "I" ∈ TB := TBo (tb3 _ (List.mem_of_getElem? (i := 239) rfl)) rfl
theorem kw4_0 : Cond.fieldLink RX7 129 "CoilWheelsModel" "slipTicks" "I" ∈ TB := TBo (tb4 _ (List.mem_of_getElem? (i := 0) rfl)) rfl
theorem kw4_1 : Cond.fieldLink RX7 216 "CoilWheelsModel" "bestCode" "I" ∈ TB := TBo (tb4 _ (List.mem_of_getElem? (i := 1) rfl)) rfl
theorem kw4_2 : Cond.fieldLink RX7 219 "CoilWheelsModel" "bestMuch" "I" ∈ TB := TBo (tb4 _ (List.mem_of_getElem? (i := 2) rfl)) rfl
theorem kw4_3 : Cond.fieldLink RX7 244 "CoilWheelsModel" "straightSum" "J" ∈ TB := TBo (tb4 _ (List.mem_of_getElem? (i := 3) rfl)) rfl
theorem kw4_4 : Cond.fieldLink RX7 248 "CoilWheelsModel" "movedSum" "J" ∈ TB := TBo (tb4 _ (List.mem_of_getElem? (i := 4) rfl)) rfl
theorem kw4_5 : Cond.fieldLink RX7 251 "CoilWheelsModel" "allWays" "J" ∈ TB := TBo (tb4 _ (List.mem_of_getElem? (i := 5) rfl)) rfl
theorem kw4_6 : Cond.fieldLink RX7 26 "CoilWheelsModel" "wereAt" "[I" ∈ TB := TBo (tb4 _ (List.mem_of_getElem? (i := 6) rfl)) rfl
theorem kw4_7 : Cond.fieldLink RX7 29 "CoilWheelsModel" "byPlace" "[I" ∈ TB := TBo (tb4 _ (List.mem_of_getElem? (i := 7) rfl)) rfl
theorem kw4_8 : Cond.fieldLink RX7 32 "CoilWheelsModel" "lanes" "[I" ∈ TB := TBo (tb4 _ (List.mem_of_getElem? (i := 8) rfl)) rfl
theorem kw4_9 : Cond.fieldLink RX7 35 "CoilWheelsModel" "sizes" "[I" ∈ TB := TBo (tb4 _ (List.mem_of_getElem? (i := 9) rfl)) rfl
theorem kw4_10 : Cond.fieldLink RX7 38 "CoilWheelsModel" "cells" "[I" ∈ TB := TBo (tb4 _ (List.mem_of_getElem? (i := 10) rfl)) rfl
theorem kw4_11 : Cond.fieldLink RX7 293 "CoilWheelsModel" "torn" "I" ∈ TB := TBo (tb4 _ (List.mem_of_getElem? (i := 11) rfl)) rfl
theorem kw4_12 : Cond.fieldLink RX7 41 "CoilWheelsModel" "before" "[I" ∈ TB := TBo (tb4 _ (List.mem_of_getElem? (i := 12) rfl)) rfl
theorem kw4_13 : Cond.laysFinal "CoilWheelsModel" "CoilWheelsModel" "st" "[I" ∈ TB := TBo (tb4 _ (List.mem_of_getElem? (i := 13) rfl)) rfl
theorem kw4_15 : Cond.laysFinal "CoilWheelsModel" "CoilWheelsModel" "now" "[I" ∈ TB := TBo (tb4 _ (List.mem_of_getElem? (i := 15) rfl)) rfl
theorem kw4_17 : Cond.laysFinal "CoilWheelsModel" "CoilWheelsModel" "isKept" "[Z" ∈ TB := TBo (tb4 _ (List.mem_of_getElem? (i := 17) rfl)) rfl
theorem kw4_19 : Cond.laysFinal "CoilWheelsModel" "CoilWheelsModel" "draft" "[I" ∈ TB := TBo (tb4 _ (List.mem_of_getElem? (i := 19) rfl)) rfl
theorem kw4_21 : Cond.lays "CoilWheelsModel" "CoilWheelsModel" "hasSigns" "Z" ∈ TB := TBo (tb4 _ (List.mem_of_getElem? (i := 21) rfl)) rfl
theorem kw4_23 : Cond.lays "CoilWheelsModel" "CoilWheelsModel" "hasEvery" "Z" ∈ TB := TBo (tb4 _ (List.mem_of_getElem? (i := 23) rfl)) rfl
theorem kw4_25 : Cond.laysFinal "CoilWheelsModel" "CoilWheelsModel" "tape" "[I" ∈ TB := TBo (tb4 _ (List.mem_of_getElem? (i := 25) rfl)) rfl
theorem kw4_27 : Cond.lays "CoilWheelsModel" "CoilWheelsModel" "taped" "I" ∈ TB := TBo (tb4 _ (List.mem_of_getElem? (i := 27) rfl)) rfl
theorem kw4_29 : Cond.lays "CoilWheelsModel" "CoilWheelsModel" "pos" "I" ∈ TB := TBo (tb4 _ (List.mem_of_getElem? (i := 29) rfl)) rfl
theorem kw4_31 : Cond.lays "CoilWheelsModel" "CoilWheelsModel" "begun" "I" ∈ TB := TBo (tb4 _ (List.mem_of_getElem? (i := 31) rfl)) rfl
theorem kw4_33 : Cond.lays "CoilWheelsModel" "CoilWheelsModel" "sort" "I" ∈ TB := TBo (tb4 _ (List.mem_of_getElem? (i := 33) rfl)) rfl
theorem kw4_35 : Cond.lays "CoilWheelsModel" "CoilWheelsModel" "value" "I" ∈ TB := TBo (tb4 _ (List.mem_of_getElem? (i := 35) rfl)) rfl
theorem kw4_37 : Cond.lays "CoilWheelsModel" "CoilWheelsModel" "fault" "I" ∈ TB := TBo (tb4 _ (List.mem_of_getElem? (i := 37) rfl)) rfl
theorem kw4_39 : Cond.lays "CoilWheelsModel" "CoilWheelsModel" "wrongAt" "I" ∈ TB := TBo (tb4 _ (List.mem_of_getElem? (i := 39) rfl)) rfl
theorem kw4_41 : Cond.lays "CoilWheelsModel" "CoilWheelsModel" "moved" "I" ∈ TB := TBo (tb4 _ (List.mem_of_getElem? (i := 41) rfl)) rfl
theorem kw4_43 : Cond.lays "CoilWheelsModel" "CoilWheelsModel" "slipTicks" "I" ∈ TB := TBo (tb4 _ (List.mem_of_getElem? (i := 43) rfl)) rfl
theorem kw4_45 : Cond.lays "CoilWheelsModel" "CoilWheelsModel" "bestCode" "I" ∈ TB := TBo (tb4 _ (List.mem_of_getElem? (i := 45) rfl)) rfl
theorem kw4_47 : Cond.lays "CoilWheelsModel" "CoilWheelsModel" "bestMuch" "I" ∈ TB := TBo (tb4 _ (List.mem_of_getElem? (i := 47) rfl)) rfl
theorem kw4_49 : Cond.lays "CoilWheelsModel" "CoilWheelsModel" "straightSum" "J" ∈ TB := TBo (tb4 _ (List.mem_of_getElem? (i := 49) rfl)) rfl
theorem kw4_51 : Cond.lays "CoilWheelsModel" "CoilWheelsModel" "movedSum" "J" ∈ TB := TBo (tb4 _ (List.mem_of_getElem? (i := 51) rfl)) rfl
theorem kw4_53 : Cond.lays "CoilWheelsModel" "CoilWheelsModel" "allWays" "J" ∈ TB := TBo (tb4 _ (List.mem_of_getElem? (i := 53) rfl)) rfl
theorem kw4_55 : Cond.laysFinal "CoilWheelsModel" "CoilWheelsModel" "wereAt" "[I" ∈ TB := TBo (tb4 _ (List.mem_of_getElem? (i := 55) rfl)) rfl
theorem kw4_57 : Cond.laysFinal "CoilWheelsModel" "CoilWheelsModel" "byPlace" "[I" ∈ TB := TBo (tb4 _ (List.mem_of_getElem? (i := 57) rfl)) rfl
theorem kw4_59 : Cond.laysFinal "CoilWheelsModel" "CoilWheelsModel" "lanes" "[I" ∈ TB := TBo (tb4 _ (List.mem_of_getElem? (i := 59) rfl)) rfl
theorem kw4_61 : Cond.laysFinal "CoilWheelsModel" "CoilWheelsModel" "sizes" "[I" ∈ TB := TBo (tb4 _ (List.mem_of_getElem? (i := 61) rfl)) rfl
theorem kw4_63 : Cond.laysFinal "CoilWheelsModel" "CoilWheelsModel" "cells" "[I" ∈ TB := TBo (tb4 _ (List.mem_of_getElem? (i := 63) rfl)) rfl
theorem kw4_65 : Cond.lays "CoilWheelsModel" "CoilWheelsModel" "torn" "I" ∈ TB := TBo (tb4 _ (List.mem_of_getElem? (i := 65) rfl)) rfl
theorem kw4_67 : Cond.laysFinal "CoilWheelsModel" "CoilWheelsModel" "before" "[I" ∈ TB := TBo (tb4 _ (List.mem_of_getElem? (i := 67) rfl)) rfl
theorem kw4_70 : Cond.arrayClass .boolean ∈ TB := TBo (tb4 _ (List.mem_of_getElem? (i := 70) rfl)) rfl
theorem kw4_71 : Cond.methodLink RL 17 yX7_feed ∈ TB := TBo (tb4 _ (List.mem_of_getElem? (i := 71) rfl)) rfl
theorem kw4_72 : Cond.instanceMethod yX7_feed ∈ TB := TBo (tb4 _ (List.mem_of_getElem? (i := 72) rfl)) rfl
theorem kw4_73 : Cond.selects RX7 yX7_feed yX7_feed ∈ TB := TBo (tb4 _ (List.mem_of_getElem? (i := 73) rfl)) rfl
theorem kw4_74 : Cond.code yX7_feed cX7_feed 2 (some .int) ∈ TB := TBo (tb4 _ (List.mem_of_getElem? (i := 74) rfl)) rfl
theorem kw4_75 : Cond.constantLong RX7 57 (127 : Int64) ∈ TB := TBo (tb4 _ (List.mem_of_getElem? (i := 75) rfl)) rfl
theorem kw4_76 : Cond.methodLink RX7 59 yX7_in ∈ TB := TBo (tb4 _ (List.mem_of_getElem? (i := 76) rfl)) rfl
theorem kw4_77 : Cond.static yX7_in ∈ TB := TBo (tb4 _ (List.mem_of_getElem? (i := 77) rfl)) rfl
theorem kw4_78 : Cond.code yX7_in cX7_in 6 (some .boolean) ∈ TB := TBo (tb4 _ (List.mem_of_getElem? (i := 78) rfl)) rfl
theorem kw4_79 : Cond.methodLink RL 21 yX7_end ∈ TB := TBo (tb4 _ (List.mem_of_getElem? (i := 79) rfl)) rfl
theorem kw4_80 : Cond.instanceMethod yX7_end ∈ TB := TBo (tb4 _ (List.mem_of_getElem? (i := 80) rfl)) rfl
theorem kw4_81 : Cond.selects RX7 yX7_end yX7_end ∈ TB := TBo (tb4 _ (List.mem_of_getElem? (i := 81) rfl)) rfl
theorem kw4_82 : Cond.code yX7_end cX7_end 3 (some .int) ∈ TB := TBo (tb4 _ (List.mem_of_getElem? (i := 82) rfl)) rfl
theorem kw4_83 : Cond.methodLink RL 26 yX7_text ∈ TB := TBo (tb4 _ (List.mem_of_getElem? (i := 83) rfl)) rfl
theorem kw4_84 : Cond.instanceMethod yX7_text ∈ TB := TBo (tb4 _ (List.mem_of_getElem? (i := 84) rfl)) rfl
theorem kw4_85 : Cond.selects RX7 yX7_text yX7_text ∈ TB := TBo (tb4 _ (List.mem_of_getElem? (i := 85) rfl)) rfl
theorem kw4_86 : Cond.code yX7_text cX7_text 2 (some .int) ∈ TB := TBo (tb4 _ (List.mem_of_getElem? (i := 86) rfl)) rfl
theorem kw4_87 : Cond.methodLink RX7 105 yX7_reads ∈ TB := TBo (tb4 _ (List.mem_of_getElem? (i := 87) rfl)) rfl
theorem kw4_89 : Cond.instanceMethod yX7_reads ∈ TB := TBo (tb4 _ (List.mem_of_getElem? (i := 89) rfl)) rfl
theorem kw4_90 : Cond.code yX7_reads cX7_reads 2 none ∈ TB := TBo (tb4 _ (List.mem_of_getElem? (i := 90) rfl)) rfl
theorem kw4_91 : Cond.methodLink RX7 79 yX7_byteAt ∈ TB := TBo (tb4 _ (List.mem_of_getElem? (i := 91) rfl)) rfl
theorem kw4_93 : Cond.instanceMethod yX7_byteAt ∈ TB := TBo (tb4 _ (List.mem_of_getElem? (i := 93) rfl)) rfl
theorem kw4_94 : Cond.code yX7_byteAt cX7_byteAt 2 (some .int) ∈ TB := TBo (tb4 _ (List.mem_of_getElem? (i := 94) rfl)) rfl
theorem kw4_95 : Cond.constantLong RX7 90 (97 : Int64) ∈ TB := TBo (tb4 _ (List.mem_of_getElem? (i := 95) rfl)) rfl
theorem kw4_96 : Cond.constantLong RX7 92 (122 : Int64) ∈ TB := TBo (tb4 _ (List.mem_of_getElem? (i := 96) rfl)) rfl
theorem kw4_97 : Cond.constantLong RX7 94 (48 : Int64) ∈ TB := TBo (tb4 _ (List.mem_of_getElem? (i := 97) rfl)) rfl
theorem kw4_98 : Cond.constantLong RX7 96 (57 : Int64) ∈ TB := TBo (tb4 _ (List.mem_of_getElem? (i := 98) rfl)) rfl
theorem kw4_99 : Cond.methodLink RX7 101 yX7_requires ∈ TB := TBo (tb4 _ (List.mem_of_getElem? (i := 99) rfl)) rfl
theorem kw4_101 : Cond.instanceMethod yX7_requires ∈ TB := TBo (tb4 _ (List.mem_of_getElem? (i := 101) rfl)) rfl
theorem kw4_102 : Cond.code yX7_requires cX7_requires 3 none ∈ TB := TBo (tb4 _ (List.mem_of_getElem? (i := 102) rfl)) rfl
theorem kw4_103 : Cond.methodLink RX7 123 yX7_readLine ∈ TB := TBo (tb4 _ (List.mem_of_getElem? (i := 103) rfl)) rfl
theorem kw4_105 : Cond.instanceMethod yX7_readLine ∈ TB := TBo (tb4 _ (List.mem_of_getElem? (i := 105) rfl)) rfl
theorem kw4_106 : Cond.code yX7_readLine cX7_readLine 2 none ∈ TB := TBo (tb4 _ (List.mem_of_getElem? (i := 106) rfl)) rfl
theorem kw4_107 : Cond.methodLink RX7 115 yX7_lineNow ∈ TB := TBo (tb4 _ (List.mem_of_getElem? (i := 107) rfl)) rfl
theorem kw4_109 : Cond.instanceMethod yX7_lineNow ∈ TB := TBo (tb4 _ (List.mem_of_getElem? (i := 109) rfl)) rfl
theorem kw4_110 : Cond.code yX7_lineNow cX7_lineNow 1 (some .int) ∈ TB := TBo (tb4 _ (List.mem_of_getElem? (i := 110) rfl)) rfl
theorem kw4_111 : Cond.methodLink RX7 83 yX7_is ∈ TB := TBo (tb4 _ (List.mem_of_getElem? (i := 111) rfl)) rfl
theorem kw4_113 : Cond.instanceMethod yX7_is ∈ TB := TBo (tb4 _ (List.mem_of_getElem? (i := 113) rfl)) rfl
theorem kw4_114 : Cond.code yX7_is cX7_is 6 (some .boolean) ∈ TB := TBo (tb4 _ (List.mem_of_getElem? (i := 114) rfl)) rfl
theorem kw4_115 : Cond.methodLink RX7 119 yX7_readLineOf ∈ TB := TBo (tb4 _ (List.mem_of_getElem? (i := 115) rfl)) rfl
theorem kw4_117 : Cond.instanceMethod yX7_readLineOf ∈ TB := TBo (tb4 _ (List.mem_of_getElem? (i := 117) rfl)) rfl
theorem kw4_118 : Cond.code yX7_readLineOf cX7_readLineOf 3 none ∈ TB := TBo (tb4 _ (List.mem_of_getElem? (i := 118) rfl)) rfl
theorem kw4_119 : Cond.methodLink RX7 112 yX7_readSigns ∈ TB := TBo (tb4 _ (List.mem_of_getElem? (i := 119) rfl)) rfl
theorem kw4_121 : Cond.instanceMethod yX7_readSigns ∈ TB := TBo (tb4 _ (List.mem_of_getElem? (i := 121) rfl)) rfl
theorem kw4_122 : Cond.code yX7_readSigns cX7_readSigns 1 none ∈ TB := TBo (tb4 _ (List.mem_of_getElem? (i := 122) rfl)) rfl
theorem kw4_123 : Cond.methodLink RX7 108 yX7_readNumber ∈ TB := TBo (tb4 _ (List.mem_of_getElem? (i := 123) rfl)) rfl
theorem kw4_125 : Cond.instanceMethod yX7_readNumber ∈ TB := TBo (tb4 _ (List.mem_of_getElem? (i := 125) rfl)) rfl
theorem kw4_126 : Cond.code yX7_readNumber cX7_readNumber 4 (some .int) ∈ TB := TBo (tb4 _ (List.mem_of_getElem? (i := 126) rfl)) rfl
theorem kw4_127 : Cond.methodLink RL 30 yX7_fault ∈ TB := TBo (tb4 _ (List.mem_of_getElem? (i := 127) rfl)) rfl
theorem kw4_128 : Cond.instanceMethod yX7_fault ∈ TB := TBo (tb4 _ (List.mem_of_getElem? (i := 128) rfl)) rfl
theorem kw4_129 : Cond.selects RX7 yX7_fault yX7_fault ∈ TB := TBo (tb4 _ (List.mem_of_getElem? (i := 129) rfl)) rfl
theorem kw4_130 : Cond.code yX7_fault cX7_fault 1 (some .int) ∈ TB := TBo (tb4 _ (List.mem_of_getElem? (i := 130) rfl)) rfl
theorem kw4_131 : Cond.methodLink RL 34 yX7_rule ∈ TB := TBo (tb4 _ (List.mem_of_getElem? (i := 131) rfl)) rfl
theorem kw4_132 : Cond.instanceMethod yX7_rule ∈ TB := TBo (tb4 _ (List.mem_of_getElem? (i := 132) rfl)) rfl
theorem kw4_133 : Cond.selects RX7 yX7_rule yX7_rule ∈ TB := TBo (tb4 _ (List.mem_of_getElem? (i := 133) rfl)) rfl
theorem kw4_134 : Cond.code yX7_rule cX7_rule 2 (some .int) ∈ TB := TBo (tb4 _ (List.mem_of_getElem? (i := 134) rfl)) rfl
theorem kw4_135 : Cond.methodLink RX7 184 yX7_takesAll ∈ TB := TBo (tb4 _ (List.mem_of_getElem? (i := 135) rfl)) rfl
theorem kw4_137 : Cond.instanceMethod yX7_takesAll ∈ TB := TBo (tb4 _ (List.mem_of_getElem? (i := 137) rfl)) rfl
theorem kw4_138 : Cond.code yX7_takesAll cX7_takesAll 2 none ∈ TB := TBo (tb4 _ (List.mem_of_getElem? (i := 138) rfl)) rfl
theorem kw4_139 : Cond.constant RX7 187 (100000 : Int32) ∈ TB := TBo (tb4 _ (List.mem_of_getElem? (i := 139) rfl)) rfl
theorem kw4_140 : Cond.methodLink RX7 165 yX7_slipping ∈ TB := TBo (tb4 _ (List.mem_of_getElem? (i := 140) rfl)) rfl
theorem kw4_142 : Cond.instanceMethod yX7_slipping ∈ TB := TBo (tb4 _ (List.mem_of_getElem? (i := 142) rfl)) rfl
theorem kw4_143 : Cond.code yX7_slipping cX7_slipping 3 (some .int) ∈ TB := TBo (tb4 _ (List.mem_of_getElem? (i := 143) rfl)) rfl
theorem kw4_144 : Cond.methodLink RX7 144 yX7_slipsNow ∈ TB := TBo (tb4 _ (List.mem_of_getElem? (i := 144) rfl)) rfl
theorem kw4_146 : Cond.instanceMethod yX7_slipsNow ∈ TB := TBo (tb4 _ (List.mem_of_getElem? (i := 146) rfl)) rfl
theorem kw4_147 : Cond.code yX7_slipsNow cX7_slipsNow 2 (some .boolean) ∈ TB := TBo (tb4 _ (List.mem_of_getElem? (i := 147) rfl)) rfl
theorem kw4_148 : Cond.methodLink RX7 138 yX7_off ∈ TB := TBo (tb4 _ (List.mem_of_getElem? (i := 148) rfl)) rfl
theorem kw4_150 : Cond.instanceMethod yX7_off ∈ TB := TBo (tb4 _ (List.mem_of_getElem? (i := 150) rfl)) rfl
theorem kw4_151 : Cond.code yX7_off cX7_off 3 (some .int) ∈ TB := TBo (tb4 _ (List.mem_of_getElem? (i := 151) rfl)) rfl
theorem kw4_152 : Cond.methodLink RX7 132 yX7_of ∈ TB := TBo (tb4 _ (List.mem_of_getElem? (i := 152) rfl)) rfl
theorem kw4_154 : Cond.instanceMethod yX7_of ∈ TB := TBo (tb4 _ (List.mem_of_getElem? (i := 154) rfl)) rfl
theorem kw4_155 : Cond.code yX7_of cX7_of 3 (some .int) ∈ TB := TBo (tb4 _ (List.mem_of_getElem? (i := 155) rfl)) rfl
theorem kw4_156 : Cond.methodLink RX7 135 yX7_byEight ∈ TB := TBo (tb4 _ (List.mem_of_getElem? (i := 156) rfl)) rfl
theorem kw4_157 : Cond.static yX7_byEight ∈ TB := TBo (tb4 _ (List.mem_of_getElem? (i := 157) rfl)) rfl
theorem kw4_158 : Cond.code yX7_byEight cX7_byEight 2 (some .int) ∈ TB := TBo (tb4 _ (List.mem_of_getElem? (i := 158) rfl)) rfl
theorem kw4_159 : Cond.methodLink RX7 141 yX7_amount ∈ TB := TBo (tb4 _ (List.mem_of_getElem? (i := 159) rfl)) rfl
theorem kw4_160 : Cond.static yX7_amount ∈ TB := TBo (tb4 _ (List.mem_of_getElem? (i := 160) rfl)) rfl
theorem kw4_161 : Cond.code yX7_amount cX7_amount 1 (some .int) ∈ TB := TBo (tb4 _ (List.mem_of_getElem? (i := 161) rfl)) rfl
theorem kw4_162 : Cond.methodLink RX7 148 yX7_flag ∈ TB := TBo (tb4 _ (List.mem_of_getElem? (i := 162) rfl)) rfl
theorem kw4_163 : Cond.static yX7_flag ∈ TB := TBo (tb4 _ (List.mem_of_getElem? (i := 163) rfl)) rfl
theorem kw4_164 : Cond.code yX7_flag cX7_flag 1 (some .int) ∈ TB := TBo (tb4 _ (List.mem_of_getElem? (i := 164) rfl)) rfl
theorem kw4_165 : Cond.methodLink RX7 181 yX7_allLost ∈ TB := TBo (tb4 _ (List.mem_of_getElem? (i := 165) rfl)) rfl
theorem kw4_167 : Cond.instanceMethod yX7_allLost ∈ TB := TBo (tb4 _ (List.mem_of_getElem? (i := 167) rfl)) rfl
theorem kw4_168 : Cond.code yX7_allLost cX7_allLost 3 (some .int) ∈ TB := TBo (tb4 _ (List.mem_of_getElem? (i := 168) rfl)) rfl
theorem kw4_169 : Cond.methodLink RX7 152 yX7_lostBy ∈ TB := TBo (tb4 _ (List.mem_of_getElem? (i := 169) rfl)) rfl
theorem kw4_171 : Cond.instanceMethod yX7_lostBy ∈ TB := TBo (tb4 _ (List.mem_of_getElem? (i := 171) rfl)) rfl
theorem kw4_172 : Cond.code yX7_lostBy cX7_lostBy 2 (some .int) ∈ TB := TBo (tb4 _ (List.mem_of_getElem? (i := 172) rfl)) rfl
theorem kw4_173 : Cond.methodLink RL 39 yX7_rotor ∈ TB := TBo (tb4 _ (List.mem_of_getElem? (i := 173) rfl)) rfl
theorem kw4_174 : Cond.instanceMethod yX7_rotor ∈ TB := TBo (tb4 _ (List.mem_of_getElem? (i := 174) rfl)) rfl
theorem kw4_175 : Cond.selects RX7 yX7_rotor yX7_rotor ∈ TB := TBo (tb4 _ (List.mem_of_getElem? (i := 175) rfl)) rfl
theorem kw4_176 : Cond.code yX7_rotor cX7_rotor 3 (some .int) ∈ TB := TBo (tb4 _ (List.mem_of_getElem? (i := 176) rfl)) rfl
theorem kw4_177 : Cond.methodLink RX7 188 yX7_isRotor ∈ TB := TBo (tb4 _ (List.mem_of_getElem? (i := 177) rfl)) rfl
theorem kw4_179 : Cond.instanceMethod yX7_isRotor ∈ TB := TBo (tb4 _ (List.mem_of_getElem? (i := 179) rfl)) rfl
theorem kw4_180 : Cond.code yX7_isRotor cX7_isRotor 2 (some .boolean) ∈ TB := TBo (tb4 _ (List.mem_of_getElem? (i := 180) rfl)) rfl
theorem kw4_181 : Cond.methodLink RL 43 yX7_sign ∈ TB := TBo (tb4 _ (List.mem_of_getElem? (i := 181) rfl)) rfl
theorem kw4_182 : Cond.instanceMethod yX7_sign ∈ TB := TBo (tb4 _ (List.mem_of_getElem? (i := 182) rfl)) rfl
theorem kw4_183 : Cond.selects RX7 yX7_sign yX7_sign ∈ TB := TBo (tb4 _ (List.mem_of_getElem? (i := 183) rfl)) rfl
theorem kw4_184 : Cond.code yX7_sign cX7_sign 2 (some .int) ∈ TB := TBo (tb4 _ (List.mem_of_getElem? (i := 184) rfl)) rfl
theorem kw4_185 : Cond.methodLink RX7 191 yX7_isSign ∈ TB := TBo (tb4 _ (List.mem_of_getElem? (i := 185) rfl)) rfl
theorem kw4_187 : Cond.instanceMethod yX7_isSign ∈ TB := TBo (tb4 _ (List.mem_of_getElem? (i := 187) rfl)) rfl
theorem kw4_188 : Cond.code yX7_isSign cX7_isSign 2 (some .boolean) ∈ TB := TBo (tb4 _ (List.mem_of_getElem? (i := 188) rfl)) rfl
theorem kw4_189 : Cond.methodLink RL 48 yX7_alter ∈ TB := TBo (tb4 _ (List.mem_of_getElem? (i := 189) rfl)) rfl
theorem kw4_190 : Cond.instanceMethod yX7_alter ∈ TB := TBo (tb4 _ (List.mem_of_getElem? (i := 190) rfl)) rfl
theorem kw4_191 : Cond.selects RX7 yX7_alter yX7_alter ∈ TB := TBo (tb4 _ (List.mem_of_getElem? (i := 191) rfl)) rfl
theorem kw4_192 : Cond.code yX7_alter cX7_alter 5 (some .int) ∈ TB := TBo (tb4 _ (List.mem_of_getElem? (i := 192) rfl)) rfl
theorem kw4_193 : Cond.constantLong RX7 194 (3 : Int64) ∈ TB := TBo (tb4 _ (List.mem_of_getElem? (i := 193) rfl)) rfl
theorem kw4_194 : Cond.methodLink RX7 196 yX7_becomes ∈ TB := TBo (tb4 _ (List.mem_of_getElem? (i := 194) rfl)) rfl
theorem kw4_196 : Cond.instanceMethod yX7_becomes ∈ TB := TBo (tb4 _ (List.mem_of_getElem? (i := 196) rfl)) rfl
theorem kw4_197 : Cond.code yX7_becomes cX7_becomes 4 (some .int) ∈ TB := TBo (tb4 _ (List.mem_of_getElem? (i := 197) rfl)) rfl
theorem kw4_198 : Cond.methodLink RL 52 yX7_turn ∈ TB := TBo (tb4 _ (List.mem_of_getElem? (i := 198) rfl)) rfl
theorem kw4_199 : Cond.instanceMethod yX7_turn ∈ TB := TBo (tb4 _ (List.mem_of_getElem? (i := 199) rfl)) rfl
theorem kw4_200 : Cond.selects RX7 yX7_turn yX7_turn ∈ TB := TBo (tb4 _ (List.mem_of_getElem? (i := 200) rfl)) rfl
theorem kw4_201 : Cond.code yX7_turn cX7_turn 4 (some .int) ∈ TB := TBo (tb4 _ (List.mem_of_getElem? (i := 201) rfl)) rfl
theorem kw4_202 : Cond.constantLong RX7 199 (16 : Int64) ∈ TB := TBo (tb4 _ (List.mem_of_getElem? (i := 202) rfl)) rfl
theorem kw4_203 : Cond.methodLink RL 56 yX7_set ∈ TB := TBo (tb4 _ (List.mem_of_getElem? (i := 203) rfl)) rfl
theorem kw4_204 : Cond.instanceMethod yX7_set ∈ TB := TBo (tb4 _ (List.mem_of_getElem? (i := 204) rfl)) rfl
theorem kw4_205 : Cond.selects RX7 yX7_set yX7_set ∈ TB := TBo (tb4 _ (List.mem_of_getElem? (i := 205) rfl)) rfl
theorem kw4_206 : Cond.code yX7_set cX7_set 3 (some .int) ∈ TB := TBo (tb4 _ (List.mem_of_getElem? (i := 206) rfl)) rfl
theorem kw4_207 : Cond.methodLink RL 60 yX7_every ∈ TB := TBo (tb4 _ (List.mem_of_getElem? (i := 207) rfl)) rfl
theorem kw4_208 : Cond.instanceMethod yX7_every ∈ TB := TBo (tb4 _ (List.mem_of_getElem? (i := 208) rfl)) rfl
theorem kw4_209 : Cond.selects RX7 yX7_every yX7_every ∈ TB := TBo (tb4 _ (List.mem_of_getElem? (i := 209) rfl)) rfl
theorem kw4_210 : Cond.code yX7_every cX7_every 2 (some .int) ∈ TB := TBo (tb4 _ (List.mem_of_getElem? (i := 210) rfl)) rfl
theorem kw4_211 : Cond.constantLong RX7 201 (9 : Int64) ∈ TB := TBo (tb4 _ (List.mem_of_getElem? (i := 211) rfl)) rfl
theorem kw4_212 : Cond.methodLink RL 64 yX7_add ∈ TB := TBo (tb4 _ (List.mem_of_getElem? (i := 212) rfl)) rfl
theorem kw4_213 : Cond.instanceMethod yX7_add ∈ TB := TBo (tb4 _ (List.mem_of_getElem? (i := 213) rfl)) rfl
theorem kw4_214 : Cond.selects RX7 yX7_add yX7_add ∈ TB := TBo (tb4 _ (List.mem_of_getElem? (i := 214) rfl)) rfl
theorem kw4_215 : Cond.code yX7_add cX7_add 2 (some .int) ∈ TB := TBo (tb4 _ (List.mem_of_getElem? (i := 215) rfl)) rfl
theorem kw4_216 : Cond.methodLink RL 68 yX7_cut ∈ TB := TBo (tb4 _ (List.mem_of_getElem? (i := 216) rfl)) rfl
theorem kw4_217 : Cond.instanceMethod yX7_cut ∈ TB := TBo (tb4 _ (List.mem_of_getElem? (i := 217) rfl)) rfl
theorem kw4_218 : Cond.selects RX7 yX7_cut yX7_cut ∈ TB := TBo (tb4 _ (List.mem_of_getElem? (i := 218) rfl)) rfl
theorem kw4_219 : Cond.code yX7_cut cX7_cut 2 (some .int) ∈ TB := TBo (tb4 _ (List.mem_of_getElem? (i := 219) rfl)) rfl
theorem kw4_220 : Cond.methodLink RL 72 yX7_ticks ∈ TB := TBo (tb4 _ (List.mem_of_getElem? (i := 220) rfl)) rfl
theorem kw4_221 : Cond.instanceMethod yX7_ticks ∈ TB := TBo (tb4 _ (List.mem_of_getElem? (i := 221) rfl)) rfl
theorem kw4_222 : Cond.selects RX7 yX7_ticks yX7_ticks ∈ TB := TBo (tb4 _ (List.mem_of_getElem? (i := 222) rfl)) rfl
theorem kw4_223 : Cond.code yX7_ticks cX7_ticks 2 (some .int) ∈ TB := TBo (tb4 _ (List.mem_of_getElem? (i := 223) rfl)) rfl
theorem kw4_224 : Cond.constantLong RX7 203 (100 : Int64) ∈ TB := TBo (tb4 _ (List.mem_of_getElem? (i := 224) rfl)) rfl
theorem kw4_225 : Cond.methodLink RX7 178 yX7_ticksGo ∈ TB := TBo (tb4 _ (List.mem_of_getElem? (i := 225) rfl)) rfl
theorem kw4_227 : Cond.instanceMethod yX7_ticksGo ∈ TB := TBo (tb4 _ (List.mem_of_getElem? (i := 227) rfl)) rfl
theorem kw4_228 : Cond.code yX7_ticksGo cX7_ticksGo 3 none ∈ TB := TBo (tb4 _ (List.mem_of_getElem? (i := 228) rfl)) rfl
theorem kw4_229 : Cond.methodLink RX7 171 yX7_fieldGoes ∈ TB := TBo (tb4 _ (List.mem_of_getElem? (i := 229) rfl)) rfl
theorem kw4_231 : Cond.instanceMethod yX7_fieldGoes ∈ TB := TBo (tb4 _ (List.mem_of_getElem? (i := 231) rfl)) rfl
theorem kw4_232 : Cond.code yX7_fieldGoes cX7_fieldGoes 1 none ∈ TB := TBo (tb4 _ (List.mem_of_getElem? (i := 232) rfl)) rfl
theorem kw4_233 : Cond.methodLink RX7 162 yX7_byOf ∈ TB := TBo (tb4 _ (List.mem_of_getElem? (i := 233) rfl)) rfl
theorem kw4_234 : Cond.static yX7_byOf ∈ TB := TBo (tb4 _ (List.mem_of_getElem? (i := 234) rfl)) rfl
theorem kw4_235 : Cond.code yX7_byOf cX7_byOf 1 (some .int) ∈ TB := TBo (tb4 _ (List.mem_of_getElem? (i := 235) rfl)) rfl
theorem kw4_236 : Cond.methodLink RX7 174 yX7_rotorsGo ∈ TB := TBo (tb4 _ (List.mem_of_getElem? (i := 236) rfl)) rfl
theorem kw4_238 : Cond.instanceMethod yX7_rotorsGo ∈ TB := TBo (tb4 _ (List.mem_of_getElem? (i := 238) rfl)) rfl
theorem kw4_239 : Cond.code yX7_rotorsGo cX7_rotorsGo 3 none ∈ TB := TBo (tb4 _ (List.mem_of_getElem? (i := 239) rfl)) rfl
theorem kw5_0 : Cond.methodLink RX7 155 yX7_becomesOf ∈ TB := TBo (tb5 _ (List.mem_of_getElem? (i := 0) rfl)) rfl
theorem kw5_2 : Cond.instanceMethod yX7_becomesOf ∈ TB := TBo (tb5 _ (List.mem_of_getElem? (i := 2) rfl)) rfl
theorem kw5_3 : Cond.code yX7_becomesOf cX7_becomesOf 4 none ∈ TB := TBo (tb5 _ (List.mem_of_getElem? (i := 3) rfl)) rfl
theorem kw5_4 : Cond.methodLink RX7 168 yX7_rotorGoes ∈ TB := TBo (tb5 _ (List.mem_of_getElem? (i := 4) rfl)) rfl
theorem kw5_6 : Cond.instanceMethod yX7_rotorGoes ∈ TB := TBo (tb5 _ (List.mem_of_getElem? (i := 6) rfl)) rfl
theorem kw5_7 : Cond.code yX7_rotorGoes cX7_rotorGoes 5 none ∈ TB := TBo (tb5 _ (List.mem_of_getElem? (i := 7) rfl)) rfl
theorem kw5_8 : Cond.methodLink RX7 159 yX7_movesBy ∈ TB := TBo (tb5 _ (List.mem_of_getElem? (i := 8) rfl)) rfl
theorem kw5_10 : Cond.instanceMethod yX7_movesBy ∈ TB := TBo (tb5 _ (List.mem_of_getElem? (i := 10) rfl)) rfl
theorem kw5_11 : Cond.code yX7_movesBy cX7_movesBy 5 (some .int) ∈ TB := TBo (tb5 _ (List.mem_of_getElem? (i := 11) rfl)) rfl
theorem kw5_12 : Cond.methodLink RX7 205 yX7_settles ∈ TB := TBo (tb5 _ (List.mem_of_getElem? (i := 12) rfl)) rfl
theorem kw5_14 : Cond.instanceMethod yX7_settles ∈ TB := TBo (tb5 _ (List.mem_of_getElem? (i := 14) rfl)) rfl
theorem kw5_15 : Cond.code yX7_settles cX7_settles 2 none ∈ TB := TBo (tb5 _ (List.mem_of_getElem? (i := 15) rfl)) rfl
theorem kw5_16 : Cond.methodLink RL 76 yX7_runs ∈ TB := TBo (tb5 _ (List.mem_of_getElem? (i := 16) rfl)) rfl
theorem kw5_17 : Cond.instanceMethod yX7_runs ∈ TB := TBo (tb5 _ (List.mem_of_getElem? (i := 17) rfl)) rfl
theorem kw5_18 : Cond.selects RX7 yX7_runs yX7_runs ∈ TB := TBo (tb5 _ (List.mem_of_getElem? (i := 18) rfl)) rfl
theorem kw5_19 : Cond.code yX7_runs cX7_runs 3 (some .int) ∈ TB := TBo (tb5 _ (List.mem_of_getElem? (i := 19) rfl)) rfl
theorem kw5_20 : Cond.methodLink RX7 210 yX7_isFar ∈ TB := TBo (tb5 _ (List.mem_of_getElem? (i := 20) rfl)) rfl
theorem kw5_21 : Cond.static yX7_isFar ∈ TB := TBo (tb5 _ (List.mem_of_getElem? (i := 21) rfl)) rfl
theorem kw5_22 : Cond.code yX7_isFar cX7_isFar 1 (some .boolean) ∈ TB := TBo (tb5 _ (List.mem_of_getElem? (i := 22) rfl)) rfl
theorem kw5_23 : Cond.constantLong RX7 208 (200 : Int64) ∈ TB := TBo (tb5 _ (List.mem_of_getElem? (i := 23) rfl)) rfl
theorem kw5_24 : Cond.methodLink RL 80 yX7_ahead ∈ TB := TBo (tb5 _ (List.mem_of_getElem? (i := 24) rfl)) rfl
theorem kw5_25 : Cond.instanceMethod yX7_ahead ∈ TB := TBo (tb5 _ (List.mem_of_getElem? (i := 25) rfl)) rfl
theorem kw5_26 : Cond.selects RX7 yX7_ahead yX7_ahead ∈ TB := TBo (tb5 _ (List.mem_of_getElem? (i := 26) rfl)) rfl
theorem kw5_27 : Cond.code yX7_ahead cX7_ahead 4 (some .int) ∈ TB := TBo (tb5 _ (List.mem_of_getElem? (i := 27) rfl)) rfl
theorem kw5_28 : Cond.methodLink RX7 213 yX7_isPart ∈ TB := TBo (tb5 _ (List.mem_of_getElem? (i := 28) rfl)) rfl
theorem kw5_29 : Cond.static yX7_isPart ∈ TB := TBo (tb5 _ (List.mem_of_getElem? (i := 29) rfl)) rfl
theorem kw5_30 : Cond.code yX7_isPart cX7_isPart 1 (some .boolean) ∈ TB := TBo (tb5 _ (List.mem_of_getElem? (i := 30) rfl)) rfl
theorem kw5_31 : Cond.methodLink RL 84 yX7_when ∈ TB := TBo (tb5 _ (List.mem_of_getElem? (i := 31) rfl)) rfl
theorem kw5_32 : Cond.instanceMethod yX7_when ∈ TB := TBo (tb5 _ (List.mem_of_getElem? (i := 32) rfl)) rfl
theorem kw5_33 : Cond.selects RX7 yX7_when yX7_when ∈ TB := TBo (tb5 _ (List.mem_of_getElem? (i := 33) rfl)) rfl
theorem kw5_34 : Cond.code yX7_when cX7_when 4 (some .int) ∈ TB := TBo (tb5 _ (List.mem_of_getElem? (i := 34) rfl)) rfl
theorem kw5_35 : Cond.methodLink RL 88 yX7_slow ∈ TB := TBo (tb5 _ (List.mem_of_getElem? (i := 35) rfl)) rfl
theorem kw5_36 : Cond.instanceMethod yX7_slow ∈ TB := TBo (tb5 _ (List.mem_of_getElem? (i := 36) rfl)) rfl
theorem kw5_37 : Cond.selects RX7 yX7_slow yX7_slow ∈ TB := TBo (tb5 _ (List.mem_of_getElem? (i := 37) rfl)) rfl
theorem kw5_38 : Cond.code yX7_slow cX7_slow 3 (some .int) ∈ TB := TBo (tb5 _ (List.mem_of_getElem? (i := 38) rfl)) rfl
theorem kw5_39 : Cond.methodLink RX7 222 yX7_leastOf ∈ TB := TBo (tb5 _ (List.mem_of_getElem? (i := 39) rfl)) rfl
theorem kw5_41 : Cond.instanceMethod yX7_leastOf ∈ TB := TBo (tb5 _ (List.mem_of_getElem? (i := 41) rfl)) rfl
theorem kw5_42 : Cond.code yX7_leastOf cX7_leastOf 8 (some .int) ∈ TB := TBo (tb5 _ (List.mem_of_getElem? (i := 42) rfl)) rfl
theorem kw5_43 : Cond.methodLink RL 92 yX7_need ∈ TB := TBo (tb5 _ (List.mem_of_getElem? (i := 43) rfl)) rfl
theorem kw5_44 : Cond.instanceMethod yX7_need ∈ TB := TBo (tb5 _ (List.mem_of_getElem? (i := 44) rfl)) rfl
theorem kw5_45 : Cond.selects RX7 yX7_need yX7_need ∈ TB := TBo (tb5 _ (List.mem_of_getElem? (i := 45) rfl)) rfl
theorem kw5_46 : Cond.code yX7_need cX7_need 3 (some .int) ∈ TB := TBo (tb5 _ (List.mem_of_getElem? (i := 46) rfl)) rfl
theorem kw5_47 : Cond.methodLink RL 96 yX7_kind ∈ TB := TBo (tb5 _ (List.mem_of_getElem? (i := 47) rfl)) rfl
theorem kw5_48 : Cond.instanceMethod yX7_kind ∈ TB := TBo (tb5 _ (List.mem_of_getElem? (i := 48) rfl)) rfl
theorem kw5_49 : Cond.selects RX7 yX7_kind yX7_kind ∈ TB := TBo (tb5 _ (List.mem_of_getElem? (i := 49) rfl)) rfl
theorem kw5_50 : Cond.code yX7_kind cX7_kind 5 (some .int) ∈ TB := TBo (tb5 _ (List.mem_of_getElem? (i := 50) rfl)) rfl
theorem kw5_51 : Cond.constant RX7 226 (1000000000 : Int32) ∈ TB := TBo (tb5 _ (List.mem_of_getElem? (i := 51) rfl)) rfl
theorem kw5_52 : Cond.methodLink RX7 227 yX7_startsJudging ∈ TB := TBo (tb5 _ (List.mem_of_getElem? (i := 52) rfl)) rfl
theorem kw5_54 : Cond.instanceMethod yX7_startsJudging ∈ TB := TBo (tb5 _ (List.mem_of_getElem? (i := 54) rfl)) rfl
theorem kw5_55 : Cond.code yX7_startsJudging cX7_startsJudging 2 none ∈ TB := TBo (tb5 _ (List.mem_of_getElem? (i := 55) rfl)) rfl
theorem kw5_56 : Cond.methodLink RX7 230 yX7_lostBehind ∈ TB := TBo (tb5 _ (List.mem_of_getElem? (i := 56) rfl)) rfl
theorem kw5_58 : Cond.instanceMethod yX7_lostBehind ∈ TB := TBo (tb5 _ (List.mem_of_getElem? (i := 58) rfl)) rfl
theorem kw5_59 : Cond.code yX7_lostBehind cX7_lostBehind 2 (some .int) ∈ TB := TBo (tb5 _ (List.mem_of_getElem? (i := 59) rfl)) rfl
theorem kw5_60 : Cond.methodLink RX7 233 yX7_judges ∈ TB := TBo (tb5 _ (List.mem_of_getElem? (i := 60) rfl)) rfl
theorem kw5_62 : Cond.instanceMethod yX7_judges ∈ TB := TBo (tb5 _ (List.mem_of_getElem? (i := 62) rfl)) rfl
theorem kw5_63 : Cond.code yX7_judges cX7_judges 3 none ∈ TB := TBo (tb5 _ (List.mem_of_getElem? (i := 63) rfl)) rfl
theorem kw5_64 : Cond.methodLink RX7 237 yX7_judged ∈ TB := TBo (tb5 _ (List.mem_of_getElem? (i := 64) rfl)) rfl
theorem kw5_66 : Cond.instanceMethod yX7_judged ∈ TB := TBo (tb5 _ (List.mem_of_getElem? (i := 66) rfl)) rfl
theorem kw5_67 : Cond.code yX7_judged cX7_judged 2 (some .int) ∈ TB := TBo (tb5 _ (List.mem_of_getElem? (i := 67) rfl)) rfl
theorem kw5_68 : Cond.methodLink RL 100 yX7_swap ∈ TB := TBo (tb5 _ (List.mem_of_getElem? (i := 68) rfl)) rfl
theorem kw5_69 : Cond.instanceMethod yX7_swap ∈ TB := TBo (tb5 _ (List.mem_of_getElem? (i := 69) rfl)) rfl
theorem kw5_70 : Cond.selects RX7 yX7_swap yX7_swap ∈ TB := TBo (tb5 _ (List.mem_of_getElem? (i := 70) rfl)) rfl
theorem kw5_71 : Cond.code yX7_swap cX7_swap 5 (some .int) ∈ TB := TBo (tb5 _ (List.mem_of_getElem? (i := 71) rfl)) rfl
theorem kw5_72 : Cond.methodLink RL 104 yX7_ease ∈ TB := TBo (tb5 _ (List.mem_of_getElem? (i := 72) rfl)) rfl
theorem kw5_73 : Cond.instanceMethod yX7_ease ∈ TB := TBo (tb5 _ (List.mem_of_getElem? (i := 73) rfl)) rfl
theorem kw5_74 : Cond.selects RX7 yX7_ease yX7_ease ∈ TB := TBo (tb5 _ (List.mem_of_getElem? (i := 74) rfl)) rfl
theorem kw5_75 : Cond.code yX7_ease cX7_ease 4 (some .int) ∈ TB := TBo (tb5 _ (List.mem_of_getElem? (i := 75) rfl)) rfl
theorem kw5_76 : Cond.methodLink RL 108 yX7_begin ∈ TB := TBo (tb5 _ (List.mem_of_getElem? (i := 76) rfl)) rfl
theorem kw5_77 : Cond.instanceMethod yX7_begin ∈ TB := TBo (tb5 _ (List.mem_of_getElem? (i := 77) rfl)) rfl
theorem kw5_78 : Cond.selects RX7 yX7_begin yX7_begin ∈ TB := TBo (tb5 _ (List.mem_of_getElem? (i := 78) rfl)) rfl
theorem kw5_79 : Cond.code yX7_begin cX7_begin 5 (some .int) ∈ TB := TBo (tb5 _ (List.mem_of_getElem? (i := 79) rfl)) rfl
theorem kw5_80 : Cond.methodLink RL 113 yX7_luck ∈ TB := TBo (tb5 _ (List.mem_of_getElem? (i := 80) rfl)) rfl
theorem kw5_81 : Cond.instanceMethod yX7_luck ∈ TB := TBo (tb5 _ (List.mem_of_getElem? (i := 81) rfl)) rfl
theorem kw5_82 : Cond.selects RX7 yX7_luck yX7_luck ∈ TB := TBo (tb5 _ (List.mem_of_getElem? (i := 82) rfl)) rfl
theorem kw5_83 : Cond.code yX7_luck cX7_luck 5 (some .long) ∈ TB := TBo (tb5 _ (List.mem_of_getElem? (i := 83) rfl)) rfl
theorem kw5_84 : Cond.constantLong RX7 254 (10 : Int64) ∈ TB := TBo (tb5 _ (List.mem_of_getElem? (i := 84) rfl)) rfl
theorem kw5_85 : Cond.constantLong RX7 256 (8 : Int64) ∈ TB := TBo (tb5 _ (List.mem_of_getElem? (i := 85) rfl)) rfl
theorem kw5_86 : Cond.constantLong RX7 258 (-1 : Int64) ∈ TB := TBo (tb5 _ (List.mem_of_getElem? (i := 86) rfl)) rfl
theorem kw5_87 : Cond.methodLink RX7 260 yX7_findOdds ∈ TB := TBo (tb5 _ (List.mem_of_getElem? (i := 87) rfl)) rfl
theorem kw5_89 : Cond.instanceMethod yX7_findOdds ∈ TB := TBo (tb5 _ (List.mem_of_getElem? (i := 89) rfl)) rfl
theorem kw5_90 : Cond.code yX7_findOdds cX7_findOdds 9 none ∈ TB := TBo (tb5 _ (List.mem_of_getElem? (i := 90) rfl)) rfl
theorem kw5_91 : Cond.methodLink RX7 263 yX7_lowest ∈ TB := TBo (tb5 _ (List.mem_of_getElem? (i := 91) rfl)) rfl
theorem kw5_92 : Cond.static yX7_lowest ∈ TB := TBo (tb5 _ (List.mem_of_getElem? (i := 92) rfl)) rfl
theorem kw5_93 : Cond.code yX7_lowest cX7_lowest 7 (some .long) ∈ TB := TBo (tb5 _ (List.mem_of_getElem? (i := 93) rfl)) rfl
theorem kw5_94 : Cond.methodLink RX7 240 yX7_common ∈ TB := TBo (tb5 _ (List.mem_of_getElem? (i := 94) rfl)) rfl
theorem kw5_95 : Cond.static yX7_common ∈ TB := TBo (tb5 _ (List.mem_of_getElem? (i := 95) rfl)) rfl
theorem kw5_96 : Cond.code yX7_common cX7_common 10 (some .long) ∈ TB := TBo (tb5 _ (List.mem_of_getElem? (i := 96) rfl)) rfl
theorem kw5_97 : Cond.methodLink RL 118 yX7_mean ∈ TB := TBo (tb5 _ (List.mem_of_getElem? (i := 97) rfl)) rfl
theorem kw5_98 : Cond.instanceMethod yX7_mean ∈ TB := TBo (tb5 _ (List.mem_of_getElem? (i := 98) rfl)) rfl
theorem kw5_99 : Cond.selects RX7 yX7_mean yX7_mean ∈ TB := TBo (tb5 _ (List.mem_of_getElem? (i := 99) rfl)) rfl
theorem kw5_100 : Cond.code yX7_mean cX7_mean 4 (some .long) ∈ TB := TBo (tb5 _ (List.mem_of_getElem? (i := 100) rfl)) rfl
theorem kw5_101 : Cond.methodLink RL 122 yX7_see ∈ TB := TBo (tb5 _ (List.mem_of_getElem? (i := 101) rfl)) rfl
theorem kw5_102 : Cond.instanceMethod yX7_see ∈ TB := TBo (tb5 _ (List.mem_of_getElem? (i := 102) rfl)) rfl
theorem kw5_103 : Cond.selects RX7 yX7_see yX7_see ∈ TB := TBo (tb5 _ (List.mem_of_getElem? (i := 103) rfl)) rfl
theorem kw5_104 : Cond.code yX7_see cX7_see 5 (some .int) ∈ TB := TBo (tb5 _ (List.mem_of_getElem? (i := 104) rfl)) rfl
theorem kw5_105 : Cond.constantLong RX7 267 (40 : Int64) ∈ TB := TBo (tb5 _ (List.mem_of_getElem? (i := 105) rfl)) rfl
theorem kw5_106 : Cond.constantLong RX7 269 (7 : Int64) ∈ TB := TBo (tb5 _ (List.mem_of_getElem? (i := 106) rfl)) rfl
theorem kw5_107 : Cond.methodLink RL 126 yX7_forget ∈ TB := TBo (tb5 _ (List.mem_of_getElem? (i := 107) rfl)) rfl
theorem kw5_108 : Cond.instanceMethod yX7_forget ∈ TB := TBo (tb5 _ (List.mem_of_getElem? (i := 108) rfl)) rfl
theorem kw5_109 : Cond.selects RX7 yX7_forget yX7_forget ∈ TB := TBo (tb5 _ (List.mem_of_getElem? (i := 109) rfl)) rfl
theorem kw5_110 : Cond.code yX7_forget cX7_forget 2 (some .int) ∈ TB := TBo (tb5 _ (List.mem_of_getElem? (i := 110) rfl)) rfl
theorem kw5_111 : Cond.methodLink RL 130 yX7_kinds ∈ TB := TBo (tb5 _ (List.mem_of_getElem? (i := 111) rfl)) rfl
theorem kw5_112 : Cond.instanceMethod yX7_kinds ∈ TB := TBo (tb5 _ (List.mem_of_getElem? (i := 112) rfl)) rfl
theorem kw5_113 : Cond.selects RX7 yX7_kinds yX7_kinds ∈ TB := TBo (tb5 _ (List.mem_of_getElem? (i := 113) rfl)) rfl
theorem kw5_114 : Cond.code yX7_kinds cX7_kinds 2 (some .int) ∈ TB := TBo (tb5 _ (List.mem_of_getElem? (i := 114) rfl)) rfl
theorem kw5_115 : Cond.methodLink RX7 275 yX7_which ∈ TB := TBo (tb5 _ (List.mem_of_getElem? (i := 115) rfl)) rfl
theorem kw5_117 : Cond.instanceMethod yX7_which ∈ TB := TBo (tb5 _ (List.mem_of_getElem? (i := 117) rfl)) rfl
theorem kw5_118 : Cond.code yX7_which cX7_which 6 (some .int) ∈ TB := TBo (tb5 _ (List.mem_of_getElem? (i := 118) rfl)) rfl
theorem kw5_119 : Cond.methodLink RX7 271 yX7_isSoWith ∈ TB := TBo (tb5 _ (List.mem_of_getElem? (i := 119) rfl)) rfl
theorem kw5_121 : Cond.instanceMethod yX7_isSoWith ∈ TB := TBo (tb5 _ (List.mem_of_getElem? (i := 121) rfl)) rfl
theorem kw5_122 : Cond.code yX7_isSoWith cX7_isSoWith 6 (some .boolean) ∈ TB := TBo (tb5 _ (List.mem_of_getElem? (i := 122) rfl)) rfl
theorem kw5_123 : Cond.methodLink RL 134 yX7_grips ∈ TB := TBo (tb5 _ (List.mem_of_getElem? (i := 123) rfl)) rfl
theorem kw5_124 : Cond.instanceMethod yX7_grips ∈ TB := TBo (tb5 _ (List.mem_of_getElem? (i := 124) rfl)) rfl
theorem kw5_125 : Cond.selects RX7 yX7_grips yX7_grips ∈ TB := TBo (tb5 _ (List.mem_of_getElem? (i := 125) rfl)) rfl
theorem kw5_126 : Cond.code yX7_grips cX7_grips 2 (some .int) ∈ TB := TBo (tb5 _ (List.mem_of_getElem? (i := 126) rfl)) rfl
theorem kw5_127 : Cond.methodLink RL 138 yX7_starts ∈ TB := TBo (tb5 _ (List.mem_of_getElem? (i := 127) rfl)) rfl
theorem kw5_128 : Cond.instanceMethod yX7_starts ∈ TB := TBo (tb5 _ (List.mem_of_getElem? (i := 128) rfl)) rfl
theorem kw5_129 : Cond.selects RX7 yX7_starts yX7_starts ∈ TB := TBo (tb5 _ (List.mem_of_getElem? (i := 129) rfl)) rfl
theorem kw5_130 : Cond.code yX7_starts cX7_starts 3 (some .int) ∈ TB := TBo (tb5 _ (List.mem_of_getElem? (i := 130) rfl)) rfl
theorem kw5_131 : Cond.methodLink RL 142 yX7_ask ∈ TB := TBo (tb5 _ (List.mem_of_getElem? (i := 131) rfl)) rfl
theorem kw5_132 : Cond.instanceMethod yX7_ask ∈ TB := TBo (tb5 _ (List.mem_of_getElem? (i := 132) rfl)) rfl
theorem kw5_133 : Cond.selects RX7 yX7_ask yX7_ask ∈ TB := TBo (tb5 _ (List.mem_of_getElem? (i := 133) rfl)) rfl
theorem kw5_134 : Cond.code yX7_ask cX7_ask 8 (some .int) ∈ TB := TBo (tb5 _ (List.mem_of_getElem? (i := 134) rfl)) rfl
theorem kw5_135 : Cond.methodLink RL 146 yX7_drift ∈ TB := TBo (tb5 _ (List.mem_of_getElem? (i := 135) rfl)) rfl
theorem kw5_136 : Cond.instanceMethod yX7_drift ∈ TB := TBo (tb5 _ (List.mem_of_getElem? (i := 136) rfl)) rfl
theorem kw5_137 : Cond.selects RX7 yX7_drift yX7_drift ∈ TB := TBo (tb5 _ (List.mem_of_getElem? (i := 137) rfl)) rfl
theorem kw5_138 : Cond.code yX7_drift cX7_drift 7 (some .int) ∈ TB := TBo (tb5 _ (List.mem_of_getElem? (i := 138) rfl)) rfl
theorem kw5_139 : Cond.constant RX7 279 (1103515245 : Int32) ∈ TB := TBo (tb5 _ (List.mem_of_getElem? (i := 139) rfl)) rfl
theorem kw5_140 : Cond.methodLink RL 150 yX7_keep ∈ TB := TBo (tb5 _ (List.mem_of_getElem? (i := 140) rfl)) rfl
theorem kw5_141 : Cond.instanceMethod yX7_keep ∈ TB := TBo (tb5 _ (List.mem_of_getElem? (i := 141) rfl)) rfl
theorem kw5_142 : Cond.selects RX7 yX7_keep yX7_keep ∈ TB := TBo (tb5 _ (List.mem_of_getElem? (i := 142) rfl)) rfl
theorem kw5_143 : Cond.code yX7_keep cX7_keep 3 (some .int) ∈ TB := TBo (tb5 _ (List.mem_of_getElem? (i := 143) rfl)) rfl
theorem kw5_144 : Cond.methodLink RX7 280 yX7_copies ∈ TB := TBo (tb5 _ (List.mem_of_getElem? (i := 144) rfl)) rfl
theorem kw5_146 : Cond.instanceMethod yX7_copies ∈ TB := TBo (tb5 _ (List.mem_of_getElem? (i := 146) rfl)) rfl
theorem kw5_147 : Cond.code yX7_copies cX7_copies 4 none ∈ TB := TBo (tb5 _ (List.mem_of_getElem? (i := 147) rfl)) rfl
theorem kw5_148 : Cond.methodLink RL 154 yX7_back ∈ TB := TBo (tb5 _ (List.mem_of_getElem? (i := 148) rfl)) rfl
theorem kw5_149 : Cond.instanceMethod yX7_back ∈ TB := TBo (tb5 _ (List.mem_of_getElem? (i := 149) rfl)) rfl
theorem kw5_150 : Cond.selects RX7 yX7_back yX7_back ∈ TB := TBo (tb5 _ (List.mem_of_getElem? (i := 150) rfl)) rfl
theorem kw5_151 : Cond.code yX7_back cX7_back 2 (some .int) ∈ TB := TBo (tb5 _ (List.mem_of_getElem? (i := 151) rfl)) rfl
theorem kw5_152 : Cond.methodLink RL 158 yX7_sheet ∈ TB := TBo (tb5 _ (List.mem_of_getElem? (i := 152) rfl)) rfl
theorem kw5_153 : Cond.instanceMethod yX7_sheet ∈ TB := TBo (tb5 _ (List.mem_of_getElem? (i := 153) rfl)) rfl
theorem kw5_154 : Cond.selects RX7 yX7_sheet yX7_sheet ∈ TB := TBo (tb5 _ (List.mem_of_getElem? (i := 154) rfl)) rfl
theorem kw5_155 : Cond.code yX7_sheet cX7_sheet 5 (some .int) ∈ TB := TBo (tb5 _ (List.mem_of_getElem? (i := 155) rfl)) rfl
theorem kw5_156 : Cond.methodLink RX7 285 yX7_isSheet ∈ TB := TBo (tb5 _ (List.mem_of_getElem? (i := 156) rfl)) rfl
theorem kw5_157 : Cond.static yX7_isSheet ∈ TB := TBo (tb5 _ (List.mem_of_getElem? (i := 157) rfl)) rfl
theorem kw5_158 : Cond.code yX7_isSheet cX7_isSheet 2 (some .boolean) ∈ TB := TBo (tb5 _ (List.mem_of_getElem? (i := 158) rfl)) rfl
theorem kw5_159 : Cond.constantLong RX7 283 (2 : Int64) ∈ TB := TBo (tb5 _ (List.mem_of_getElem? (i := 159) rfl)) rfl
theorem kw5_160 : Cond.methodLink RL 162 yX7_lay ∈ TB := TBo (tb5 _ (List.mem_of_getElem? (i := 160) rfl)) rfl
theorem kw5_161 : Cond.instanceMethod yX7_lay ∈ TB := TBo (tb5 _ (List.mem_of_getElem? (i := 161) rfl)) rfl
theorem kw5_162 : Cond.selects RX7 yX7_lay yX7_lay ∈ TB := TBo (tb5 _ (List.mem_of_getElem? (i := 162) rfl)) rfl
theorem kw5_163 : Cond.code yX7_lay cX7_lay 4 (some .int) ∈ TB := TBo (tb5 _ (List.mem_of_getElem? (i := 163) rfl)) rfl
theorem kw5_164 : Cond.methodLink RL 167 yX7_read ∈ TB := TBo (tb5 _ (List.mem_of_getElem? (i := 164) rfl)) rfl
theorem kw5_165 : Cond.instanceMethod yX7_read ∈ TB := TBo (tb5 _ (List.mem_of_getElem? (i := 165) rfl)) rfl
theorem kw5_166 : Cond.selects RX7 yX7_read yX7_read ∈ TB := TBo (tb5 _ (List.mem_of_getElem? (i := 166) rfl)) rfl
theorem kw5_167 : Cond.code yX7_read cX7_read 11 (some .int) ∈ TB := TBo (tb5 _ (List.mem_of_getElem? (i := 167) rfl)) rfl
theorem kw5_168 : Cond.constantLong RX7 288 (20 : Int64) ∈ TB := TBo (tb5 _ (List.mem_of_getElem? (i := 168) rfl)) rfl
theorem kw5_169 : Cond.methodLink RX7 290 yX7_set ∈ TB := TBo (tb5 _ (List.mem_of_getElem? (i := 169) rfl)) rfl
theorem kw5_170 : Cond.methodLink RL 171 yX7_torn ∈ TB := TBo (tb5 _ (List.mem_of_getElem? (i := 170) rfl)) rfl
theorem kw5_171 : Cond.instanceMethod yX7_torn ∈ TB := TBo (tb5 _ (List.mem_of_getElem? (i := 171) rfl)) rfl
theorem kw5_172 : Cond.selects RX7 yX7_torn yX7_torn ∈ TB := TBo (tb5 _ (List.mem_of_getElem? (i := 172) rfl)) rfl
theorem kw5_173 : Cond.code yX7_torn cX7_torn 1 (some .int) ∈ TB := TBo (tb5 _ (List.mem_of_getElem? (i := 173) rfl)) rfl
theorem kw5_174 : Cond.methodLink RL 175 yX7_count ∈ TB := TBo (tb5 _ (List.mem_of_getElem? (i := 174) rfl)) rfl
theorem kw5_175 : Cond.instanceMethod yX7_count ∈ TB := TBo (tb5 _ (List.mem_of_getElem? (i := 175) rfl)) rfl
theorem kw5_176 : Cond.selects RX7 yX7_count yX7_count ∈ TB := TBo (tb5 _ (List.mem_of_getElem? (i := 176) rfl)) rfl
theorem kw5_177 : Cond.code yX7_count cX7_count 5 (some .int) ∈ TB := TBo (tb5 _ (List.mem_of_getElem? (i := 177) rfl)) rfl
theorem kw5_178 : Cond.fieldLink RJ0 9 "java/lang/String" "value" "[B" ∈ TB := TBo (tb5 _ (List.mem_of_getElem? (i := 178) rfl)) rfl
theorem kw5_179 : Cond.fieldLink RJ0 15 "java/lang/String" "coder" "B" ∈ TB := TBo (tb5 _ (List.mem_of_getElem? (i := 179) rfl)) rfl
theorem kwp_0 : Cond.selects RX5 yX5_readToken yX5_readToken ∈ TB := TBo (tb0 _ (List.mem_map.mpr ⟨(⟨"CoilWheels$Tape", "readToken", "()Z"⟩, 11), List.mem_of_getElem? (i := 0) rfl, rfl⟩)) rfl
theorem kwp_1 : Cond.selects RX5 yX5_endOfRun yX5_endOfRun ∈ TB := TBo (tb0 _ (List.mem_map.mpr ⟨(⟨"CoilWheels$Tape", "endOfRun", "(ICC)I"⟩, 11), List.mem_of_getElem? (i := 1) rfl, rfl⟩)) rfl
theorem kwp_2 : Cond.selects RX5 yX5_readValue yX5_readValue ∈ TB := TBo (tb0 _ (List.mem_map.mpr ⟨(⟨"CoilWheels$Tape", "readValue", "()Z"⟩, 11), List.mem_of_getElem? (i := 2) rfl, rfl⟩)) rfl
theorem kwp_3 : Cond.selects RX5 yX5_refuse yX5_refuse ∈ TB := TBo (tb0 _ (List.mem_map.mpr ⟨(⟨"CoilWheels$Tape", "refuse", "(I)Z"⟩, 11), List.mem_of_getElem? (i := 3) rfl, rfl⟩)) rfl
theorem kwp_4 : Cond.selects RX5 yX5_takeLine yX5_takeLine ∈ TB := TBo (tb0 _ (List.mem_map.mpr ⟨(⟨"CoilWheels$Tape", "takeLine", "()Z"⟩, 11), List.mem_of_getElem? (i := 4) rfl, rfl⟩)) rfl
theorem kwp_5 : Cond.selects RX5 yX5_sortNamed yX5_sortNamed ∈ TB := TBo (tb0 _ (List.mem_map.mpr ⟨(⟨"CoilWheels$Tape", "sortNamed", "()I"⟩, 11), List.mem_of_getElem? (i := 5) rfl, rfl⟩)) rfl
theorem kwp_6 : Cond.selects RX5 yX5_isNamed yX5_isNamed ∈ TB := TBo (tb0 _ (List.mem_map.mpr ⟨(⟨"CoilWheels$Tape", "isNamed", "(Ljava/lang/String;)Z"⟩, 11), List.mem_of_getElem? (i := 6) rfl, rfl⟩)) rfl
theorem kwp_7 : Cond.selects RX5 yX5_takeRotor yX5_takeRotor ∈ TB := TBo (tb0 _ (List.mem_map.mpr ⟨(⟨"CoilWheels$Tape", "takeRotor", "(I)Z"⟩, 11), List.mem_of_getElem? (i := 7) rfl, rfl⟩)) rfl
theorem kwp_8 : Cond.selects RX5 yX5_takeNumber yX5_takeNumber ∈ TB := TBo (tb0 _ (List.mem_map.mpr ⟨(⟨"CoilWheels$Tape", "takeNumber", "(II)Z"⟩, 11), List.mem_of_getElem? (i := 8) rfl, rfl⟩)) rfl
theorem kwp_9 : Cond.selects RX5 yX5_isNumber yX5_isNumber ∈ TB := TBo (tb0 _ (List.mem_map.mpr ⟨(⟨"CoilWheels$Tape", "isNumber", "(II)Z"⟩, 11), List.mem_of_getElem? (i := 9) rfl, rfl⟩)) rfl
theorem kwp_10 : Cond.selects RX5 yX5_takeStop yX5_takeStop ∈ TB := TBo (tb0 _ (List.mem_map.mpr ⟨(⟨"CoilWheels$Tape", "takeStop", "()Z"⟩, 11), List.mem_of_getElem? (i := 10) rfl, rfl⟩)) rfl
theorem kwp_11 : Cond.selects RX5 yX5_takeSigns yX5_takeSigns ∈ TB := TBo (tb0 _ (List.mem_map.mpr ⟨(⟨"CoilWheels$Tape", "takeSigns", "()Z"⟩, 11), List.mem_of_getElem? (i := 11) rfl, rfl⟩)) rfl
theorem kwp_12 : Cond.selects RX5 yX5_takeEvery yX5_takeEvery ∈ TB := TBo (tb0 _ (List.mem_map.mpr ⟨(⟨"CoilWheels$Tape", "takeEvery", "()Z"⟩, 11), List.mem_of_getElem? (i := 12) rfl, rfl⟩)) rfl
theorem kwp_13 : Cond.selects RX6 yX6_hasRotor yX6_hasRotor ∈ TB := TBo (tb0 _ (List.mem_map.mpr ⟨(⟨"CoilWheels", "hasRotor", "(I)Z"⟩, 7), List.mem_of_getElem? (i := 13) rfl, rfl⟩)) rfl
theorem kwp_14 : Cond.selects RX6 yX6_hasSign yX6_hasSign ∈ TB := TBo (tb0 _ (List.mem_map.mpr ⟨(⟨"CoilWheels", "hasSign", "(I)Z"⟩, 7), List.mem_of_getElem? (i := 14) rfl, rfl⟩)) rfl
theorem kwp_15 : Cond.selects RX6 yX6_canSet yX6_canSet ∈ TB := TBo (tb0 _ (List.mem_map.mpr ⟨(⟨"CoilWheels", "canSet", "(II)Z"⟩, 7), List.mem_of_getElem? (i := 15) rfl, rfl⟩)) rfl
theorem kwp_16 : Cond.selects RX2 yX2_steps yX2_steps ∈ TB := TBo (tb0 _ (List.mem_map.mpr ⟨(⟨"CoilWheels$Rotor", "steps", "(II)I"⟩, 4), List.mem_of_getElem? (i := 16) rfl, rfl⟩)) rfl
theorem kwp_17 : Cond.selects RX6 yX6_losesNothingMore yX6_losesNothingMore ∈ TB := TBo (tb0 _ (List.mem_map.mpr ⟨(⟨"CoilWheels", "losesNothingMore", "(II)Z"⟩, 7), List.mem_of_getElem? (i := 17) rfl, rfl⟩)) rfl
theorem kwp_18 : Cond.selects RX6 yX6_tryWith yX6_tryWith ∈ TB := TBo (tb0 _ (List.mem_map.mpr ⟨(⟨"CoilWheels", "tryWith", "(III)V"⟩, 7), List.mem_of_getElem? (i := 18) rfl, rfl⟩)) rfl
theorem kwp_19 : Cond.selects RX6 yX6_leastLostBy yX6_leastLostBy ∈ TB := TBo (tb0 _ (List.mem_map.mpr ⟨(⟨"CoilWheels", "leastLostBy", "(IIIII)I"⟩, 7), List.mem_of_getElem? (i := 19) rfl, rfl⟩)) rfl
theorem kwp_20 : Cond.selects RX6 yX6_allLostBehind yX6_allLostBehind ∈ TB := TBo (tb0 _ (List.mem_map.mpr ⟨(⟨"CoilWheels", "allLostBehind", "(I)I"⟩, 7), List.mem_of_getElem? (i := 20) rfl, rfl⟩)) rfl
theorem kwp_21 : Cond.selects RX0 yX0_leaveRotors yX0_leaveRotors ∈ TB := TBo (tb0 _ (List.mem_map.mpr ⟨(⟨"CoilWheels$Drive", "leaveRotors", "()V"⟩, 7), List.mem_of_getElem? (i := 21) rfl, rfl⟩)) rfl
theorem kwp_22 : Cond.selects RX6 yX6_asSeenBy yX6_asSeenBy ∈ TB := TBo (tb0 _ (List.mem_map.mpr ⟨(⟨"CoilWheels", "asSeenBy", "(III)I"⟩, 7), List.mem_of_getElem? (i := 22) rfl, rfl⟩)) rfl
theorem kwp_23 : Cond.selects RX6 yX6_goesAsSeen yX6_goesAsSeen ∈ TB := TBo (tb0 _ (List.mem_map.mpr ⟨(⟨"CoilWheels", "goesAsSeen", "()Z"⟩, 7), List.mem_of_getElem? (i := 23) rfl, rfl⟩)) rfl
theorem kwp_24 : Cond.selects RX7 yX7_firstDraft yX7_firstDraft ∈ TB := TBo (tb0 _ (List.mem_map.mpr ⟨(⟨"CoilWheelsModel", "firstDraft", "()V"⟩, 28), List.mem_of_getElem? (i := 24) rfl, rfl⟩)) rfl
theorem kwp_25 : Cond.selects RX7 yX7_keepDraft yX7_keepDraft ∈ TB := TBo (tb0 _ (List.mem_map.mpr ⟨(⟨"CoilWheelsModel", "keepDraft", "()V"⟩, 28), List.mem_of_getElem? (i := 25) rfl, rfl⟩)) rfl
theorem kwp_26 : Cond.selects RX7 yX7_reads yX7_reads ∈ TB := TBo (tb0 _ (List.mem_map.mpr ⟨(⟨"CoilWheelsModel", "reads", "()V"⟩, 28), List.mem_of_getElem? (i := 26) rfl, rfl⟩)) rfl
theorem kwp_27 : Cond.selects RX7 yX7_byteAt yX7_byteAt ∈ TB := TBo (tb0 _ (List.mem_map.mpr ⟨(⟨"CoilWheelsModel", "byteAt", "(I)I"⟩, 28), List.mem_of_getElem? (i := 27) rfl, rfl⟩)) rfl
theorem kwp_28 : Cond.selects RX7 yX7_requires yX7_requires ∈ TB := TBo (tb0 _ (List.mem_map.mpr ⟨(⟨"CoilWheelsModel", "requires", "(ZI)V"⟩, 28), List.mem_of_getElem? (i := 28) rfl, rfl⟩)) rfl
theorem kwp_29 : Cond.selects RX7 yX7_readLine yX7_readLine ∈ TB := TBo (tb0 _ (List.mem_map.mpr ⟨(⟨"CoilWheelsModel", "readLine", "()V"⟩, 28), List.mem_of_getElem? (i := 29) rfl, rfl⟩)) rfl
theorem kwp_30 : Cond.selects RX7 yX7_lineNow yX7_lineNow ∈ TB := TBo (tb0 _ (List.mem_map.mpr ⟨(⟨"CoilWheelsModel", "lineNow", "()I"⟩, 28), List.mem_of_getElem? (i := 30) rfl, rfl⟩)) rfl
theorem kwp_31 : Cond.selects RX7 yX7_is yX7_is ∈ TB := TBo (tb0 _ (List.mem_map.mpr ⟨(⟨"CoilWheelsModel", "is", "(IIIII)Z"⟩, 28), List.mem_of_getElem? (i := 31) rfl, rfl⟩)) rfl
theorem kwp_32 : Cond.selects RX7 yX7_readLineOf yX7_readLineOf ∈ TB := TBo (tb0 _ (List.mem_map.mpr ⟨(⟨"CoilWheelsModel", "readLineOf", "(I)V"⟩, 28), List.mem_of_getElem? (i := 32) rfl, rfl⟩)) rfl
theorem kwp_33 : Cond.selects RX7 yX7_readSigns yX7_readSigns ∈ TB := TBo (tb0 _ (List.mem_map.mpr ⟨(⟨"CoilWheelsModel", "readSigns", "()V"⟩, 28), List.mem_of_getElem? (i := 33) rfl, rfl⟩)) rfl
theorem kwp_34 : Cond.selects RX7 yX7_readNumber yX7_readNumber ∈ TB := TBo (tb0 _ (List.mem_map.mpr ⟨(⟨"CoilWheelsModel", "readNumber", "(II)I"⟩, 28), List.mem_of_getElem? (i := 34) rfl, rfl⟩)) rfl
theorem kwp_35 : Cond.selects RX7 yX7_takesAll yX7_takesAll ∈ TB := TBo (tb0 _ (List.mem_map.mpr ⟨(⟨"CoilWheelsModel", "takesAll", "()V"⟩, 28), List.mem_of_getElem? (i := 35) rfl, rfl⟩)) rfl
theorem kwp_36 : Cond.selects RX7 yX7_slipping yX7_slipping ∈ TB := TBo (tb0 _ (List.mem_map.mpr ⟨(⟨"CoilWheelsModel", "slipping", "()I"⟩, 28), List.mem_of_getElem? (i := 36) rfl, rfl⟩)) rfl
theorem kwp_37 : Cond.selects RX7 yX7_slipsNow yX7_slipsNow ∈ TB := TBo (tb0 _ (List.mem_map.mpr ⟨(⟨"CoilWheelsModel", "slipsNow", "(I)Z"⟩, 28), List.mem_of_getElem? (i := 37) rfl, rfl⟩)) rfl
theorem kwp_38 : Cond.selects RX7 yX7_off yX7_off ∈ TB := TBo (tb0 _ (List.mem_map.mpr ⟨(⟨"CoilWheelsModel", "off", "(I)I"⟩, 28), List.mem_of_getElem? (i := 38) rfl, rfl⟩)) rfl
theorem kwp_39 : Cond.selects RX7 yX7_of yX7_of ∈ TB := TBo (tb0 _ (List.mem_map.mpr ⟨(⟨"CoilWheelsModel", "of", "(II)I"⟩, 28), List.mem_of_getElem? (i := 39) rfl, rfl⟩)) rfl
theorem kwp_40 : Cond.selects RX7 yX7_allLost yX7_allLost ∈ TB := TBo (tb0 _ (List.mem_map.mpr ⟨(⟨"CoilWheelsModel", "allLost", "()I"⟩, 28), List.mem_of_getElem? (i := 40) rfl, rfl⟩)) rfl
theorem kwp_41 : Cond.selects RX7 yX7_lostBy yX7_lostBy ∈ TB := TBo (tb0 _ (List.mem_map.mpr ⟨(⟨"CoilWheelsModel", "lostBy", "(I)I"⟩, 28), List.mem_of_getElem? (i := 41) rfl, rfl⟩)) rfl
theorem kwp_42 : Cond.selects RX7 yX7_isRotor yX7_isRotor ∈ TB := TBo (tb0 _ (List.mem_map.mpr ⟨(⟨"CoilWheelsModel", "isRotor", "(I)Z"⟩, 28), List.mem_of_getElem? (i := 42) rfl, rfl⟩)) rfl
theorem kwp_43 : Cond.selects RX7 yX7_isSign yX7_isSign ∈ TB := TBo (tb0 _ (List.mem_map.mpr ⟨(⟨"CoilWheelsModel", "isSign", "(I)Z"⟩, 28), List.mem_of_getElem? (i := 43) rfl, rfl⟩)) rfl
theorem kwp_44 : Cond.selects RX7 yX7_becomes yX7_becomes ∈ TB := TBo (tb0 _ (List.mem_map.mpr ⟨(⟨"CoilWheelsModel", "becomes", "(II)I"⟩, 28), List.mem_of_getElem? (i := 44) rfl, rfl⟩)) rfl
theorem kwp_45 : Cond.selects RX7 yX7_ticksGo yX7_ticksGo ∈ TB := TBo (tb0 _ (List.mem_map.mpr ⟨(⟨"CoilWheelsModel", "ticksGo", "(I)V"⟩, 28), List.mem_of_getElem? (i := 45) rfl, rfl⟩)) rfl
theorem kwp_46 : Cond.selects RX7 yX7_fieldGoes yX7_fieldGoes ∈ TB := TBo (tb0 _ (List.mem_map.mpr ⟨(⟨"CoilWheelsModel", "fieldGoes", "()V"⟩, 28), List.mem_of_getElem? (i := 46) rfl, rfl⟩)) rfl
theorem kwp_47 : Cond.selects RX7 yX7_rotorsGo yX7_rotorsGo ∈ TB := TBo (tb0 _ (List.mem_map.mpr ⟨(⟨"CoilWheelsModel", "rotorsGo", "(Z)V"⟩, 28), List.mem_of_getElem? (i := 47) rfl, rfl⟩)) rfl
theorem kwp_48 : Cond.selects RX7 yX7_becomesOf yX7_becomesOf ∈ TB := TBo (tb0 _ (List.mem_map.mpr ⟨(⟨"CoilWheelsModel", "becomesOf", "(III)V"⟩, 28), List.mem_of_getElem? (i := 48) rfl, rfl⟩)) rfl
theorem kwp_49 : Cond.selects RX7 yX7_rotorGoes yX7_rotorGoes ∈ TB := TBo (tb0 _ (List.mem_map.mpr ⟨(⟨"CoilWheelsModel", "rotorGoes", "(I)V"⟩, 28), List.mem_of_getElem? (i := 49) rfl, rfl⟩)) rfl
theorem kwp_50 : Cond.selects RX7 yX7_movesBy yX7_movesBy ∈ TB := TBo (tb0 _ (List.mem_map.mpr ⟨(⟨"CoilWheelsModel", "movesBy", "(II)I"⟩, 28), List.mem_of_getElem? (i := 50) rfl, rfl⟩)) rfl
theorem kwp_51 : Cond.selects RX7 yX7_settles yX7_settles ∈ TB := TBo (tb0 _ (List.mem_map.mpr ⟨(⟨"CoilWheelsModel", "settles", "()V"⟩, 28), List.mem_of_getElem? (i := 51) rfl, rfl⟩)) rfl
theorem kwp_52 : Cond.selects RX7 yX7_leastOf yX7_leastOf ∈ TB := TBo (tb0 _ (List.mem_map.mpr ⟨(⟨"CoilWheelsModel", "leastOf", "(IIIII)I"⟩, 28), List.mem_of_getElem? (i := 52) rfl, rfl⟩)) rfl
theorem kwp_53 : Cond.selects RX7 yX7_startsJudging yX7_startsJudging ∈ TB := TBo (tb0 _ (List.mem_map.mpr ⟨(⟨"CoilWheelsModel", "startsJudging", "(I)V"⟩, 28), List.mem_of_getElem? (i := 53) rfl, rfl⟩)) rfl
theorem kwp_54 : Cond.selects RX7 yX7_lostBehind yX7_lostBehind ∈ TB := TBo (tb0 _ (List.mem_map.mpr ⟨(⟨"CoilWheelsModel", "lostBehind", "(I)I"⟩, 28), List.mem_of_getElem? (i := 54) rfl, rfl⟩)) rfl
theorem kwp_55 : Cond.selects RX7 yX7_judges yX7_judges ∈ TB := TBo (tb0 _ (List.mem_map.mpr ⟨(⟨"CoilWheelsModel", "judges", "(II)V"⟩, 28), List.mem_of_getElem? (i := 55) rfl, rfl⟩)) rfl
theorem kwp_56 : Cond.selects RX7 yX7_judged yX7_judged ∈ TB := TBo (tb0 _ (List.mem_map.mpr ⟨(⟨"CoilWheelsModel", "judged", "(I)I"⟩, 28), List.mem_of_getElem? (i := 56) rfl, rfl⟩)) rfl
theorem kwp_57 : Cond.selects RX7 yX7_findOdds yX7_findOdds ∈ TB := TBo (tb0 _ (List.mem_map.mpr ⟨(⟨"CoilWheelsModel", "findOdds", "(III)V"⟩, 28), List.mem_of_getElem? (i := 57) rfl, rfl⟩)) rfl
theorem kwp_58 : Cond.selects RX7 yX7_which yX7_which ∈ TB := TBo (tb0 _ (List.mem_map.mpr ⟨(⟨"CoilWheelsModel", "which", "(III)I"⟩, 28), List.mem_of_getElem? (i := 58) rfl, rfl⟩)) rfl
theorem kwp_59 : Cond.selects RX7 yX7_isSoWith yX7_isSoWith ∈ TB := TBo (tb0 _ (List.mem_map.mpr ⟨(⟨"CoilWheelsModel", "isSoWith", "(II)Z"⟩, 28), List.mem_of_getElem? (i := 59) rfl, rfl⟩)) rfl
theorem kwp_60 : Cond.selects RX7 yX7_copies yX7_copies ∈ TB := TBo (tb0 _ (List.mem_map.mpr ⟨(⟨"CoilWheelsModel", "copies", "(II)V"⟩, 28), List.mem_of_getElem? (i := 60) rfl, rfl⟩)) rfl
theorem lay0 : ∀ w ∈ u_ws RX0 TX0 7, w ∈ TB := List.forall_mem_cons.mpr ⟨kw1_82, List.forall_mem_cons.mpr ⟨kw1_84, List.forall_mem_cons.mpr ⟨kw1_86, List.forall_mem_cons.mpr ⟨kw1_88, List.forall_mem_cons.mpr ⟨kw1_90, List.forall_mem_cons.mpr ⟨kw1_92, List.forall_mem_cons.mpr ⟨kw1_94, fun _ h => absurd h List.not_mem_nil⟩⟩⟩⟩⟩⟩⟩
theorem lay1 : ∀ w ∈ u_ws RX1 TX1 3, w ∈ TB := List.forall_mem_cons.mpr ⟨kw1_174, List.forall_mem_cons.mpr ⟨kw1_176, List.forall_mem_cons.mpr ⟨kw1_178, fun _ h => absurd h List.not_mem_nil⟩⟩⟩
theorem lay2 : ∀ w ∈ u_ws RX2 TX2 4, w ∈ TB := List.forall_mem_cons.mpr ⟨kw1_54, List.forall_mem_cons.mpr ⟨kw1_56, List.forall_mem_cons.mpr ⟨kw1_58, List.forall_mem_cons.mpr ⟨kw1_60, fun _ h => absurd h List.not_mem_nil⟩⟩⟩⟩
theorem lay3 : ∀ w ∈ u_ws RX3 TX3 3, w ∈ TB := List.forall_mem_cons.mpr ⟨kw1_194, List.forall_mem_cons.mpr ⟨kw1_196, List.forall_mem_cons.mpr ⟨kw1_198, fun _ h => absurd h List.not_mem_nil⟩⟩⟩
theorem lay4 : ∀ w ∈ u_ws RX4 TX4 4, w ∈ TB := List.forall_mem_cons.mpr ⟨kw1_149, List.forall_mem_cons.mpr ⟨kw1_151, List.forall_mem_cons.mpr ⟨kw1_153, List.forall_mem_cons.mpr ⟨kw1_155, fun _ h => absurd h List.not_mem_nil⟩⟩⟩⟩
theorem lay5 : ∀ w ∈ u_ws RX5 TX5 11, w ∈ TB := List.forall_mem_cons.mpr ⟨kw1_113, List.forall_mem_cons.mpr ⟨kw1_115, List.forall_mem_cons.mpr ⟨kw1_117, List.forall_mem_cons.mpr ⟨kw1_119, List.forall_mem_cons.mpr ⟨kw1_121, List.forall_mem_cons.mpr ⟨kw1_123, List.forall_mem_cons.mpr ⟨kw1_125, List.forall_mem_cons.mpr ⟨kw1_127, List.forall_mem_cons.mpr ⟨kw1_129, List.forall_mem_cons.mpr ⟨kw1_131, List.forall_mem_cons.mpr ⟨kw1_133, fun _ h => absurd h List.not_mem_nil⟩⟩⟩⟩⟩⟩⟩⟩⟩⟩⟩
theorem lay6 : ∀ w ∈ u_ws RX6 TX6 7, w ∈ TB := List.forall_mem_cons.mpr ⟨kw1_208, List.forall_mem_cons.mpr ⟨kw1_210, List.forall_mem_cons.mpr ⟨kw1_212, List.forall_mem_cons.mpr ⟨kw1_214, List.forall_mem_cons.mpr ⟨kw1_216, List.forall_mem_cons.mpr ⟨kw1_218, List.forall_mem_cons.mpr ⟨kw1_220, fun _ h => absurd h List.not_mem_nil⟩⟩⟩⟩⟩⟩⟩
theorem lay7 : ∀ w ∈ u_ws RX7 TX7 28, w ∈ TB := List.forall_mem_cons.mpr ⟨kw4_13, List.forall_mem_cons.mpr ⟨kw4_15, List.forall_mem_cons.mpr ⟨kw4_17, List.forall_mem_cons.mpr ⟨kw4_19, List.forall_mem_cons.mpr ⟨kw4_21, List.forall_mem_cons.mpr ⟨kw4_23, List.forall_mem_cons.mpr ⟨kw4_25, List.forall_mem_cons.mpr ⟨kw4_27, List.forall_mem_cons.mpr ⟨kw4_29, List.forall_mem_cons.mpr ⟨kw4_31, List.forall_mem_cons.mpr ⟨kw4_33, List.forall_mem_cons.mpr ⟨kw4_35, List.forall_mem_cons.mpr ⟨kw4_37, List.forall_mem_cons.mpr ⟨kw4_39, List.forall_mem_cons.mpr ⟨kw4_41, List.forall_mem_cons.mpr ⟨kw4_43, List.forall_mem_cons.mpr ⟨kw4_45, List.forall_mem_cons.mpr ⟨kw4_47, List.forall_mem_cons.mpr ⟨kw4_49, List.forall_mem_cons.mpr ⟨kw4_51, List.forall_mem_cons.mpr ⟨kw4_53, List.forall_mem_cons.mpr ⟨kw4_55, List.forall_mem_cons.mpr ⟨kw4_57, List.forall_mem_cons.mpr ⟨kw4_59, List.forall_mem_cons.mpr ⟨kw4_61, List.forall_mem_cons.mpr ⟨kw4_63, List.forall_mem_cons.mpr ⟨kw4_65, List.forall_mem_cons.mpr ⟨kw4_67, fun _ h => absurd h List.not_mem_nil⟩⟩⟩⟩⟩⟩⟩⟩⟩⟩⟩⟩⟩⟩⟩⟩⟩⟩⟩⟩⟩⟩⟩⟩⟩⟩⟩⟩
