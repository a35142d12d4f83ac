def wU : List Cond := lw_tbl.filter goodWord
theorem wU1 {w : Cond} (h : w ∈ tables_1_1) (hg : goodWord w = true) : w ∈ wU := List.mem_filter.mpr ⟨List.mem_append_right _ (show w ∈ tables_1 from List.mem_append_left _ h), hg⟩
theorem wU2 {w : Cond} (h : w ∈ tables_1_2) (hg : goodWord w = true) : w ∈ wU := List.mem_filter.mpr ⟨List.mem_append_right _ (show w ∈ tables_1 from List.mem_append_right _ (List.mem_append_left _ h)), hg⟩
theorem wU3 {w : Cond} (h : w ∈ tables_1_3) (hg : goodWord w = true) : w ∈ wU := List.mem_filter.mpr ⟨List.mem_append_right _ (show w ∈ tables_1 from List.mem_append_right _ (List.mem_append_right _ (List.mem_append_left _ h))), hg⟩
theorem wU4 {w : Cond} (h : w ∈ tables_1_4) (hg : goodWord w = true) : w ∈ wU := List.mem_filter.mpr ⟨List.mem_append_right _ (show w ∈ tables_1 from List.mem_append_right _ (List.mem_append_right _ (List.mem_append_right _ (List.mem_append_left _ h)))), hg⟩
theorem wU5 {w : Cond} (h : w ∈ tables_1_5) (hg : goodWord w = true) : w ∈ wU := List.mem_filter.mpr ⟨List.mem_append_right _ (show w ∈ tables_1 from List.mem_append_right _ (List.mem_append_right _ (List.mem_append_right _ (List.mem_append_right _ (h))))), hg⟩
theorem wUs {w : Cond} (h : w ∈ k2_sels lw_privs) (hg : goodWord w = true) : w ∈ wU := List.mem_filter.mpr ⟨List.mem_append_left _ h, hg⟩
theorem wd_0 : Cond.initialized RL ∈ wU := wU1 (List.mem_of_getElem? (i := 0) rfl) rfl
theorem wd_1 : Cond.initialized RX9 ∈ wU := wU1 (List.mem_of_getElem? (i := 1) rfl) rfl
theorem wd_2 : Cond.initialized RX1 ∈ wU := wU1 (List.mem_of_getElem? (i := 2) rfl) rfl
theorem wd_3 : Cond.initialized RX8 ∈ wU := wU1 (List.mem_of_getElem? (i := 3) rfl) rfl
theorem wd_4 : Cond.initialized RX2 ∈ wU := wU1 (List.mem_of_getElem? (i := 4) rfl) rfl
theorem wd_5 : Cond.initialized RX0 ∈ wU := wU1 (List.mem_of_getElem? (i := 5) rfl) rfl
theorem wd_6 : Cond.initialized RX3 ∈ wU := wU1 (List.mem_of_getElem? (i := 6) rfl) rfl
theorem wd_7 : Cond.initialized RX7 ∈ wU := wU1 (List.mem_of_getElem? (i := 7) rfl) rfl
theorem wd_8 : Cond.initialized RX6 ∈ wU := wU1 (List.mem_of_getElem? (i := 8) rfl) rfl
theorem wd_9 : Cond.initialized RX5 ∈ wU := wU1 (List.mem_of_getElem? (i := 9) rfl) rfl
theorem wd_10 : Cond.initialized RX10 ∈ wU := wU1 (List.mem_of_getElem? (i := 10) rfl) rfl
theorem wd_11 : Cond.initialized "java/lang/Math" ∈ wU := wU1 (List.mem_of_getElem? (i := 11) rfl) rfl
theorem wd_12 : Cond.initialized RX4 ∈ wU := wU1 (List.mem_of_getElem? (i := 12) rfl) rfl
theorem wd_13 : Cond.classLink RL 7 RX9 ∈ wU := wU1 (List.mem_of_getElem? (i := 13) rfl) rfl
theorem wd_14 : Cond.instantiable RX9 9 ∈ wU := wU1 (List.mem_of_getElem? (i := 14) rfl) rfl
theorem wd_15 : Cond.methodLink RL 9 yX9_init ∈ wU := wU1 (List.mem_of_getElem? (i := 15) rfl) rfl
theorem wd_16 : Cond.instanceMethod yX9_init ∈ wU := wU1 (List.mem_of_getElem? (i := 16) rfl) rfl
theorem wd_17 : Cond.code yX9_init prog_1_method_1_code 1 none ∈ wU := wU1 (List.mem_of_getElem? (i := 17) rfl) rfl
theorem wd_18 : Cond.methodLink RX9 3 objectInit ∈ wU := wU1 (List.mem_of_getElem? (i := 18) rfl) rfl
theorem wd_19 : Cond.instanceMethod objectInit ∈ wU := wU1 (List.mem_of_getElem? (i := 19) rfl) rfl
theorem wd_20 : Cond.code objectInit ⟨#[0xb1]⟩ 1 none ∈ wU := wU1 (List.mem_of_getElem? (i := 20) rfl) rfl
theorem wd_21 : Cond.classLink RX9 9 RX1 ∈ wU := wU1 (List.mem_of_getElem? (i := 21) rfl) rfl
theorem wd_22 : Cond.instantiable RX1 4 ∈ wU := wU1 (List.mem_of_getElem? (i := 22) rfl) rfl
theorem wd_23 : Cond.instanceMethod yX1_init ∈ wU := wU1 (List.mem_of_getElem? (i := 24) rfl) rfl
theorem wd_24 : Cond.code yX1_init prog_3_method_1_code 1 none ∈ wU := wU1 (List.mem_of_getElem? (i := 25) rfl) rfl
theorem wd_25 : Cond.methodLink RX1 3 objectInit ∈ wU := wU1 (List.mem_of_getElem? (i := 26) rfl) rfl
theorem wd_26 : Cond.fieldLink RX1 9 RX1 "openPitches" "[I" ∈ wU := wU1 (List.mem_of_getElem? (i := 27) rfl) rfl
theorem wd_27 : Cond.fieldLink RX1 15 RX1 "strings" "I" ∈ wU := wU1 (List.mem_of_getElem? (i := 28) rfl) rfl
theorem wd_28 : Cond.fieldLink RX6 46 RX1 "strings" "I" ∈ wU := wU1 (List.mem_of_getElem? (i := 29) rfl) rfl
theorem wd_29 : Cond.fieldLink RX9 88 RX1 "strings" "I" ∈ wU := wU1 (List.mem_of_getElem? (i := 30) rfl) rfl
theorem wd_30 : Cond.fieldLink RX5 69 RX1 "strings" "I" ∈ wU := wU1 (List.mem_of_getElem? (i := 31) rfl) rfl
theorem wd_31 : Cond.fieldLink RX0 107 RX1 "strings" "I" ∈ wU := wU1 (List.mem_of_getElem? (i := 32) rfl) rfl
theorem wd_32 : Cond.fieldLink RX1 19 RX1 "lastFret" "I" ∈ wU := wU1 (List.mem_of_getElem? (i := 33) rfl) rfl
theorem wd_33 : Cond.fieldLink RX9 94 RX1 "lastFret" "I" ∈ wU := wU1 (List.mem_of_getElem? (i := 34) rfl) rfl
theorem wd_34 : Cond.fieldLink RX3 90 RX1 "lastFret" "I" ∈ wU := wU1 (List.mem_of_getElem? (i := 35) rfl) rfl
theorem wd_35 : Cond.fieldLink RX0 91 RX1 "lastFret" "I" ∈ wU := wU1 (List.mem_of_getElem? (i := 36) rfl) rfl
theorem wd_36 : Cond.fieldLink RX5 119 RX1 "lastFret" "I" ∈ wU := wU1 (List.mem_of_getElem? (i := 37) rfl) rfl
theorem wd_37 : Cond.fieldLink RX1 22 RX1 "capoFret" "I" ∈ wU := wU1 (List.mem_of_getElem? (i := 38) rfl) rfl
theorem wd_38 : Cond.fieldLink RX9 91 RX1 "capoFret" "I" ∈ wU := wU1 (List.mem_of_getElem? (i := 39) rfl) rfl
theorem wd_39 : Cond.fieldLink RX3 85 RX1 "capoFret" "I" ∈ wU := wU1 (List.mem_of_getElem? (i := 40) rfl) rfl
theorem wd_40 : Cond.fieldLink RX0 96 RX1 "capoFret" "I" ∈ wU := wU1 (List.mem_of_getElem? (i := 41) rfl) rfl
theorem wd_41 : Cond.fieldLink RX6 95 RX1 "capoFret" "I" ∈ wU := wU1 (List.mem_of_getElem? (i := 42) rfl) rfl
theorem wd_42 : Cond.fieldLink RX5 113 RX1 "capoFret" "I" ∈ wU := wU1 (List.mem_of_getElem? (i := 43) rfl) rfl
theorem wd_43 : Cond.laysFinal RX1 RX1 "openPitches" "[I" ∈ wU := wU1 (List.mem_of_getElem? (i := 44) rfl) rfl
theorem wd_44 : Cond.lays RX1 RX1 "strings" "I" ∈ wU := wU1 (List.mem_of_getElem? (i := 46) rfl) rfl
theorem wd_45 : Cond.lays RX1 RX1 "lastFret" "I" ∈ wU := wU1 (List.mem_of_getElem? (i := 48) rfl) rfl
theorem wd_46 : Cond.lays RX1 RX1 "capoFret" "I" ∈ wU := wU1 (List.mem_of_getElem? (i := 50) rfl) rfl
theorem wd_47 : Cond.arrayClass .int ∈ wU := wU1 (List.mem_of_getElem? (i := 53) rfl) rfl
theorem wd_48 : Cond.classLink RX9 20 RX8 ∈ wU := wU1 (List.mem_of_getElem? (i := 54) rfl) rfl
theorem wd_49 : Cond.instantiable RX8 4 ∈ wU := wU1 (List.mem_of_getElem? (i := 55) rfl) rfl
theorem wd_50 : Cond.instanceMethod yX8_init ∈ wU := wU1 (List.mem_of_getElem? (i := 57) rfl) rfl
theorem wd_51 : Cond.code yX8_init prog_10_method_1_code 1 none ∈ wU := wU1 (List.mem_of_getElem? (i := 58) rfl) rfl
theorem wd_52 : Cond.methodLink RX8 3 objectInit ∈ wU := wU1 (List.mem_of_getElem? (i := 59) rfl) rfl
theorem wd_53 : Cond.fieldLink RX8 9 RX8 "sizes" "[I" ∈ wU := wU1 (List.mem_of_getElem? (i := 60) rfl) rfl
theorem wd_54 : Cond.fieldLink RX8 15 RX8 "pitches" "[I" ∈ wU := wU1 (List.mem_of_getElem? (i := 61) rfl) rfl
theorem wd_55 : Cond.fieldLink RX8 18 RX8 "bonds" "[I" ∈ wU := wU1 (List.mem_of_getElem? (i := 62) rfl) rfl
theorem wd_56 : Cond.fieldLink RX8 21 RX8 "events" "I" ∈ wU := wU1 (List.mem_of_getElem? (i := 63) rfl) rfl
theorem wd_57 : Cond.fieldLink RX3 40 RX8 "events" "I" ∈ wU := wU1 (List.mem_of_getElem? (i := 64) rfl) rfl
theorem wd_58 : Cond.fieldLink RX6 37 RX8 "events" "I" ∈ wU := wU1 (List.mem_of_getElem? (i := 65) rfl) rfl
theorem wd_59 : Cond.fieldLink RX9 77 RX8 "events" "I" ∈ wU := wU1 (List.mem_of_getElem? (i := 66) rfl) rfl
theorem wd_60 : Cond.fieldLink RX5 50 RX8 "events" "I" ∈ wU := wU1 (List.mem_of_getElem? (i := 67) rfl) rfl
theorem wd_61 : Cond.laysFinal RX8 RX8 "sizes" "[I" ∈ wU := wU1 (List.mem_of_getElem? (i := 68) rfl) rfl
theorem wd_62 : Cond.laysFinal RX8 RX8 "pitches" "[I" ∈ wU := wU1 (List.mem_of_getElem? (i := 70) rfl) rfl
theorem wd_63 : Cond.laysFinal RX8 RX8 "bonds" "[I" ∈ wU := wU1 (List.mem_of_getElem? (i := 72) rfl) rfl
theorem wd_64 : Cond.lays RX8 RX8 "events" "I" ∈ wU := wU1 (List.mem_of_getElem? (i := 74) rfl) rfl
theorem wd_65 : Cond.classLink RX9 27 RX2 ∈ wU := wU1 (List.mem_of_getElem? (i := 77) rfl) rfl
theorem wd_66 : Cond.instantiable RX2 5 ∈ wU := wU1 (List.mem_of_getElem? (i := 78) rfl) rfl
theorem wd_67 : Cond.instanceMethod yX2_init ∈ wU := wU1 (List.mem_of_getElem? (i := 80) rfl) rfl
theorem wd_68 : Cond.code yX2_init prog_4_method_1_code 1 none ∈ wU := wU1 (List.mem_of_getElem? (i := 81) rfl) rfl
theorem wd_69 : Cond.methodLink RX2 3 objectInit ∈ wU := wU1 (List.mem_of_getElem? (i := 82) rfl) rfl
theorem wd_70 : Cond.fieldLink RX2 9 RX2 "positions" "[I" ∈ wU := wU1 (List.mem_of_getElem? (i := 83) rfl) rfl
theorem wd_71 : Cond.fieldLink RX9 178 RX2 "positions" "[I" ∈ wU := wU1 (List.mem_of_getElem? (i := 84) rfl) rfl
theorem wd_72 : Cond.fieldLink RX2 15 RX2 "strings" "[I" ∈ wU := wU1 (List.mem_of_getElem? (i := 85) rfl) rfl
theorem wd_73 : Cond.fieldLink RX6 82 RX2 "strings" "[I" ∈ wU := wU1 (List.mem_of_getElem? (i := 86) rfl) rfl
theorem wd_74 : Cond.fieldLink RX9 181 RX2 "strings" "[I" ∈ wU := wU1 (List.mem_of_getElem? (i := 87) rfl) rfl
theorem wd_75 : Cond.fieldLink RX2 18 RX2 "costs" "[I" ∈ wU := wU1 (List.mem_of_getElem? (i := 88) rfl) rfl
theorem wd_76 : Cond.fieldLink RX9 183 RX2 "costs" "[I" ∈ wU := wU1 (List.mem_of_getElem? (i := 89) rfl) rfl
theorem wd_77 : Cond.fieldLink RX2 21 RX2 "numbers" "[I" ∈ wU := wU1 (List.mem_of_getElem? (i := 90) rfl) rfl
theorem wd_78 : Cond.fieldLink RX9 175 RX2 "numbers" "[I" ∈ wU := wU1 (List.mem_of_getElem? (i := 91) rfl) rfl
theorem wd_79 : Cond.fieldLink RX2 24 RX2 "events" "I" ∈ wU := wU1 (List.mem_of_getElem? (i := 92) rfl) rfl
theorem wd_80 : Cond.laysFinal RX2 RX2 "positions" "[I" ∈ wU := wU1 (List.mem_of_getElem? (i := 93) rfl) rfl
theorem wd_81 : Cond.laysFinal RX2 RX2 "strings" "[I" ∈ wU := wU1 (List.mem_of_getElem? (i := 95) rfl) rfl
theorem wd_82 : Cond.laysFinal RX2 RX2 "costs" "[I" ∈ wU := wU1 (List.mem_of_getElem? (i := 97) rfl) rfl
theorem wd_83 : Cond.laysFinal RX2 RX2 "numbers" "[I" ∈ wU := wU1 (List.mem_of_getElem? (i := 99) rfl) rfl
theorem wd_84 : Cond.lays RX2 RX2 "events" "I" ∈ wU := wU1 (List.mem_of_getElem? (i := 101) rfl) rfl
theorem wd_85 : Cond.classLink RX9 34 RX0 ∈ wU := wU1 (List.mem_of_getElem? (i := 104) rfl) rfl
theorem wd_86 : Cond.instantiable RX0 16 ∈ wU := wU1 (List.mem_of_getElem? (i := 105) rfl) rfl
theorem wd_87 : Cond.methodLink RX9 36 yX0_init ∈ wU := wU1 (List.mem_of_getElem? (i := 106) rfl) rfl
theorem wd_88 : Cond.instanceMethod yX0_init ∈ wU := wU1 (List.mem_of_getElem? (i := 107) rfl) rfl
theorem wd_89 : Cond.code yX0_init prog_2_method_1_code 4 none ∈ wU := wU1 (List.mem_of_getElem? (i := 108) rfl) rfl
theorem wd_90 : Cond.methodLink RX0 3 objectInit ∈ wU := wU1 (List.mem_of_getElem? (i := 109) rfl) rfl
theorem wd_91 : Cond.fieldLink RX0 52 RX0 "instrument" "LFretHands$Instrument;" ∈ wU := wU1 (List.mem_of_getElem? (i := 110) rfl) rfl
theorem wd_92 : Cond.fieldLink RX0 56 RX0 "weights" "[I" ∈ wU := wU1 (List.mem_of_getElem? (i := 111) rfl) rfl
theorem wd_93 : Cond.fieldLink RX0 59 RX0 "tune" "LFretHands$Tune;" ∈ wU := wU1 (List.mem_of_getElem? (i := 112) rfl) rfl
theorem wd_94 : Cond.fieldLink RX0 9 RX0 "counts" "[I" ∈ wU := wU1 (List.mem_of_getElem? (i := 113) rfl) rfl
theorem wd_95 : Cond.fieldLink RX3 72 RX0 "counts" "[I" ∈ wU := wU1 (List.mem_of_getElem? (i := 114) rfl) rfl
theorem wd_96 : Cond.fieldLink RX0 15 RX0 "leastCosts" "[I" ∈ wU := wU1 (List.mem_of_getElem? (i := 115) rfl) rfl
theorem wd_97 : Cond.fieldLink RX3 75 RX0 "leastCosts" "[I" ∈ wU := wU1 (List.mem_of_getElem? (i := 116) rfl) rfl
theorem wd_98 : Cond.fieldLink RX2 33 RX0 "leastCosts" "[I" ∈ wU := wU1 (List.mem_of_getElem? (i := 117) rfl) rfl
theorem wd_99 : Cond.fieldLink RX0 18 RX0 "leastCounts" "[I" ∈ wU := wU1 (List.mem_of_getElem? (i := 118) rfl) rfl
theorem wd_100 : Cond.fieldLink RX3 78 RX0 "leastCounts" "[I" ∈ wU := wU1 (List.mem_of_getElem? (i := 119) rfl) rfl
theorem wd_101 : Cond.fieldLink RX0 21 RX0 "firstStrings" "[I" ∈ wU := wU1 (List.mem_of_getElem? (i := 120) rfl) rfl
theorem wd_102 : Cond.fieldLink RX2 28 RX0 "firstStrings" "[I" ∈ wU := wU1 (List.mem_of_getElem? (i := 121) rfl) rfl
theorem wd_103 : Cond.fieldLink RX0 24 RX0 "firstPlaces" "[I" ∈ wU := wU1 (List.mem_of_getElem? (i := 122) rfl) rfl
theorem wd_104 : Cond.fieldLink RX0 27 RX0 "pitches" "[I" ∈ wU := wU1 (List.mem_of_getElem? (i := 123) rfl) rfl
theorem wd_105 : Cond.fieldLink RX0 30 RX0 "bonds" "[I" ∈ wU := wU1 (List.mem_of_getElem? (i := 124) rfl) rfl
theorem wd_106 : Cond.fieldLink RX0 33 RX0 "frets" "[I" ∈ wU := wU1 (List.mem_of_getElem? (i := 125) rfl) rfl
theorem wd_107 : Cond.fieldLink RX0 36 RX0 "size" "I" ∈ wU := wU1 (List.mem_of_getElem? (i := 126) rfl) rfl
theorem wd_108 : Cond.fieldLink RX0 40 RX0 "wantedPosition" "I" ∈ wU := wU1 (List.mem_of_getElem? (i := 127) rfl) rfl
theorem wd_109 : Cond.fieldLink RX9 151 RX0 "wantedPosition" "I" ∈ wU := wU1 (List.mem_of_getElem? (i := 128) rfl) rfl
theorem wd_110 : Cond.fieldLink RX0 43 RX0 "wantedPlace" "I" ∈ wU := wU1 (List.mem_of_getElem? (i := 129) rfl) rfl
theorem wd_111 : Cond.fieldLink RX0 46 RX0 "wantedStrings" "I" ∈ wU := wU1 (List.mem_of_getElem? (i := 130) rfl) rfl
theorem wd_112 : Cond.fieldLink RX9 154 RX0 "wantedStrings" "I" ∈ wU := wU1 (List.mem_of_getElem? (i := 131) rfl) rfl
theorem wd_113 : Cond.fieldLink RX0 49 RX0 "wantedCost" "I" ∈ wU := wU1 (List.mem_of_getElem? (i := 132) rfl) rfl
theorem wd_114 : Cond.fieldLink RX9 157 RX0 "wantedCost" "I" ∈ wU := wU1 (List.mem_of_getElem? (i := 133) rfl) rfl
theorem wd_115 : Cond.laysFinal RX0 RX0 "instrument" "LFretHands$Instrument;" ∈ wU := wU1 (List.mem_of_getElem? (i := 134) rfl) rfl
theorem wd_116 : Cond.laysFinal RX0 RX0 "weights" "[I" ∈ wU := wU1 (List.mem_of_getElem? (i := 136) rfl) rfl
theorem wd_117 : Cond.laysFinal RX0 RX0 "tune" "LFretHands$Tune;" ∈ wU := wU1 (List.mem_of_getElem? (i := 138) rfl) rfl
theorem wd_118 : Cond.laysFinal RX0 RX0 "counts" "[I" ∈ wU := wU1 (List.mem_of_getElem? (i := 140) rfl) rfl
theorem wd_119 : Cond.laysFinal RX0 RX0 "leastCosts" "[I" ∈ wU := wU1 (List.mem_of_getElem? (i := 142) rfl) rfl
theorem wd_120 : Cond.laysFinal RX0 RX0 "leastCounts" "[I" ∈ wU := wU1 (List.mem_of_getElem? (i := 144) rfl) rfl
theorem wd_121 : Cond.laysFinal RX0 RX0 "firstStrings" "[I" ∈ wU := wU1 (List.mem_of_getElem? (i := 146) rfl) rfl
theorem wd_122 : Cond.laysFinal RX0 RX0 "firstPlaces" "[I" ∈ wU := wU1 (List.mem_of_getElem? (i := 148) rfl) rfl
theorem wd_123 : Cond.laysFinal RX0 RX0 "pitches" "[I" ∈ wU := wU1 (List.mem_of_getElem? (i := 150) rfl) rfl
theorem wd_124 : Cond.laysFinal RX0 RX0 "bonds" "[I" ∈ wU := wU1 (List.mem_of_getElem? (i := 152) rfl) rfl
theorem wd_125 : Cond.laysFinal RX0 RX0 "frets" "[I" ∈ wU := wU1 (List.mem_of_getElem? (i := 154) rfl) rfl
theorem wd_126 : Cond.lays RX0 RX0 "size" "I" ∈ wU := wU1 (List.mem_of_getElem? (i := 156) rfl) rfl
theorem wd_127 : Cond.lays RX0 RX0 "wantedPosition" "I" ∈ wU := wU1 (List.mem_of_getElem? (i := 158) rfl) rfl
theorem wd_128 : Cond.lays RX0 RX0 "wantedPlace" "I" ∈ wU := wU1 (List.mem_of_getElem? (i := 160) rfl) rfl
theorem wd_129 : Cond.lays RX0 RX0 "wantedStrings" "I" ∈ wU := wU1 (List.mem_of_getElem? (i := 162) rfl) rfl
theorem wd_130 : Cond.lays RX0 RX0 "wantedCost" "I" ∈ wU := wU1 (List.mem_of_getElem? (i := 164) rfl) rfl
theorem wd_131 : Cond.classLink RX9 43 RX3 ∈ wU := wU1 (List.mem_of_getElem? (i := 167) rfl) rfl
theorem wd_132 : Cond.instantiable RX3 8 ∈ wU := wU1 (List.mem_of_getElem? (i := 168) rfl) rfl
theorem wd_133 : Cond.methodLink RX9 45 yX3_init ∈ wU := wU1 (List.mem_of_getElem? (i := 169) rfl) rfl
theorem wd_134 : Cond.instanceMethod yX3_init ∈ wU := wU1 (List.mem_of_getElem? (i := 170) rfl) rfl
theorem wd_135 : Cond.code yX3_init prog_5_method_1_code 5 none ∈ wU := wU1 (List.mem_of_getElem? (i := 171) rfl) rfl
theorem wd_136 : Cond.methodLink RX3 3 objectInit ∈ wU := wU1 (List.mem_of_getElem? (i := 172) rfl) rfl
theorem wd_137 : Cond.fieldLink RX3 25 RX3 "instrument" "LFretHands$Instrument;" ∈ wU := wU1 (List.mem_of_getElem? (i := 173) rfl) rfl
theorem wd_138 : Cond.fieldLink RX3 29 RX3 "weights" "[I" ∈ wU := wU1 (List.mem_of_getElem? (i := 174) rfl) rfl
theorem wd_139 : Cond.fieldLink RX3 32 RX3 "tune" "LFretHands$Tune;" ∈ wU := wU1 (List.mem_of_getElem? (i := 175) rfl) rfl
theorem wd_140 : Cond.fieldLink RX3 36 RX3 "finder" "LFretHands$GripFinder;" ∈ wU := wU1 (List.mem_of_getElem? (i := 176) rfl) rfl
theorem wd_141 : Cond.fieldLink RX3 9 RX3 "sums" "[I" ∈ wU := wU1 (List.mem_of_getElem? (i := 177) rfl) rfl
theorem wd_142 : Cond.fieldLink RX3 15 RX3 "ways" "[I" ∈ wU := wU1 (List.mem_of_getElem? (i := 178) rfl) rfl
theorem wd_143 : Cond.fieldLink RX3 18 RX3 "leastSum" "I" ∈ wU := wU1 (List.mem_of_getElem? (i := 179) rfl) rfl
theorem wd_144 : Cond.fieldLink RX9 167 RX3 "leastSum" "I" ∈ wU := wU1 (List.mem_of_getElem? (i := 180) rfl) rfl
theorem wd_145 : Cond.fieldLink RX3 22 RX3 "leastWays" "I" ∈ wU := wU1 (List.mem_of_getElem? (i := 181) rfl) rfl
theorem wd_146 : Cond.fieldLink RX9 186 RX3 "leastWays" "I" ∈ wU := wU1 (List.mem_of_getElem? (i := 182) rfl) rfl
theorem wd_147 : Cond.laysFinal RX3 RX3 "instrument" "LFretHands$Instrument;" ∈ wU := wU1 (List.mem_of_getElem? (i := 183) rfl) rfl
theorem wd_148 : Cond.laysFinal RX3 RX3 "weights" "[I" ∈ wU := wU1 (List.mem_of_getElem? (i := 185) rfl) rfl
theorem wd_149 : Cond.laysFinal RX3 RX3 "tune" "LFretHands$Tune;" ∈ wU := wU1 (List.mem_of_getElem? (i := 187) rfl) rfl
theorem wd_150 : Cond.laysFinal RX3 RX3 "finder" "LFretHands$GripFinder;" ∈ wU := wU1 (List.mem_of_getElem? (i := 189) rfl) rfl
theorem wd_151 : Cond.laysFinal RX3 RX3 "sums" "[I" ∈ wU := wU1 (List.mem_of_getElem? (i := 191) rfl) rfl
theorem wd_152 : Cond.laysFinal RX3 RX3 "ways" "[I" ∈ wU := wU1 (List.mem_of_getElem? (i := 193) rfl) rfl
theorem wd_153 : Cond.lays RX3 RX3 "leastSum" "I" ∈ wU := wU1 (List.mem_of_getElem? (i := 195) rfl) rfl
theorem wd_154 : Cond.lays RX3 RX3 "leastWays" "I" ∈ wU := wU1 (List.mem_of_getElem? (i := 197) rfl) rfl
theorem wd_155 : Cond.classLink RX9 52 RX7 ∈ wU := wU1 (List.mem_of_getElem? (i := 200) rfl) rfl
theorem wd_156 : Cond.instantiable RX7 2 ∈ wU := wU1 (List.mem_of_getElem? (i := 201) rfl) rfl
theorem wd_157 : Cond.instanceMethod yX7_init ∈ wU := wU1 (List.mem_of_getElem? (i := 203) rfl) rfl
theorem wd_158 : Cond.code yX7_init prog_9_method_1_code 1 none ∈ wU := wU1 (List.mem_of_getElem? (i := 204) rfl) rfl
theorem wd_159 : Cond.methodLink RX7 3 objectInit ∈ wU := wU1 (List.mem_of_getElem? (i := 205) rfl) rfl
theorem wd_160 : Cond.fieldLink RX7 9 RX7 "row" "[I" ∈ wU := wU1 (List.mem_of_getElem? (i := 206) rfl) rfl
theorem wd_161 : Cond.fieldLink RX7 15 RX7 "size" "I" ∈ wU := wU1 (List.mem_of_getElem? (i := 207) rfl) rfl
theorem wd_162 : Cond.fieldLink RX6 31 RX7 "size" "I" ∈ wU := wU1 (List.mem_of_getElem? (i := 208) rfl) rfl
theorem wd_163 : Cond.fieldLink RX5 91 RX7 "size" "I" ∈ wU := wU1 (List.mem_of_getElem? (i := 209) rfl) rfl
theorem wd_164 : Cond.fieldLink RX9 132 RX7 "size" "I" ∈ wU := wU1 (List.mem_of_getElem? (i := 210) rfl) rfl
theorem wd_165 : Cond.laysFinal RX7 RX7 "row" "[I" ∈ wU := wU1 (List.mem_of_getElem? (i := 211) rfl) rfl
theorem wd_166 : Cond.lays RX7 RX7 "size" "I" ∈ wU := wU1 (List.mem_of_getElem? (i := 213) rfl) rfl
theorem wd_167 : Cond.classLink RX9 59 RX6 ∈ wU := wU1 (List.mem_of_getElem? (i := 216) rfl) rfl
theorem wd_168 : Cond.instantiable RX6 5 ∈ wU := wU1 (List.mem_of_getElem? (i := 217) rfl) rfl
theorem wd_169 : Cond.methodLink RX9 61 yX6_init ∈ wU := wU1 (List.mem_of_getElem? (i := 218) rfl) rfl
theorem wd_170 : Cond.instanceMethod yX6_init ∈ wU := wU1 (List.mem_of_getElem? (i := 219) rfl) rfl
theorem wd_171 : Cond.code yX6_init prog_8_method_1_code 5 none ∈ wU := wU1 (List.mem_of_getElem? (i := 220) rfl) rfl
theorem wd_172 : Cond.methodLink RX6 3 objectInit ∈ wU := wU1 (List.mem_of_getElem? (i := 221) rfl) rfl
theorem wd_173 : Cond.fieldLink RX6 15 RX6 "instrument" "LFretHands$Instrument;" ∈ wU := wU1 (List.mem_of_getElem? (i := 222) rfl) rfl
theorem wd_174 : Cond.fieldLink RX6 19 RX6 "tune" "LFretHands$Tune;" ∈ wU := wU1 (List.mem_of_getElem? (i := 223) rfl) rfl
theorem wd_175 : Cond.fieldLink RX6 23 RX6 "plan" "LFretHands$Plan;" ∈ wU := wU1 (List.mem_of_getElem? (i := 224) rfl) rfl
theorem wd_176 : Cond.fieldLink RX6 27 RX6 "tape" "LFretHands$Tape;" ∈ wU := wU1 (List.mem_of_getElem? (i := 225) rfl) rfl
theorem wd_177 : Cond.fieldLink RX6 9 RX6 "widths" "[I" ∈ wU := wU1 (List.mem_of_getElem? (i := 226) rfl) rfl
theorem wd_178 : Cond.laysFinal RX6 RX6 "instrument" "LFretHands$Instrument;" ∈ wU := wU1 (List.mem_of_getElem? (i := 227) rfl) rfl
theorem wd_179 : Cond.laysFinal RX6 RX6 "tune" "LFretHands$Tune;" ∈ wU := wU1 (List.mem_of_getElem? (i := 229) rfl) rfl
theorem wd_180 : Cond.laysFinal RX6 RX6 "plan" "LFretHands$Plan;" ∈ wU := wU1 (List.mem_of_getElem? (i := 231) rfl) rfl
theorem wd_181 : Cond.laysFinal RX6 RX6 "tape" "LFretHands$Tape;" ∈ wU := wU1 (List.mem_of_getElem? (i := 233) rfl) rfl
theorem wd_182 : Cond.laysFinal RX6 RX6 "widths" "[I" ∈ wU := wU1 (List.mem_of_getElem? (i := 235) rfl) rfl
theorem wd_183 : Cond.classLink RX9 68 RX5 ∈ wU := wU1 (List.mem_of_getElem? (i := 238) rfl) rfl
theorem wd_184 : Cond.instantiable RX5 6 ∈ wU := wU1 (List.mem_of_getElem? (i := 239) rfl) rfl
theorem wd_185 : Cond.methodLink RX9 70 yX5_init ∈ wU := wU2 (List.mem_of_getElem? (i := 0) rfl) rfl
theorem wd_186 : Cond.instanceMethod yX5_init ∈ wU := wU2 (List.mem_of_getElem? (i := 1) rfl) rfl
theorem wd_187 : Cond.code yX5_init prog_7_method_1_code 4 none ∈ wU := wU2 (List.mem_of_getElem? (i := 2) rfl) rfl
theorem wd_188 : Cond.methodLink RX5 3 objectInit ∈ wU := wU2 (List.mem_of_getElem? (i := 3) rfl) rfl
theorem wd_189 : Cond.fieldLink RX5 22 RX5 "instrument" "LFretHands$Instrument;" ∈ wU := wU2 (List.mem_of_getElem? (i := 4) rfl) rfl
theorem wd_190 : Cond.fieldLink RX5 26 RX5 "tune" "LFretHands$Tune;" ∈ wU := wU2 (List.mem_of_getElem? (i := 5) rfl) rfl
theorem wd_191 : Cond.fieldLink RX5 30 RX5 "tape" "LFretHands$Tape;" ∈ wU := wU2 (List.mem_of_getElem? (i := 6) rfl) rfl
theorem wd_192 : Cond.fieldLink RX5 9 RX5 "lineLength" "I" ∈ wU := wU2 (List.mem_of_getElem? (i := 7) rfl) rfl
theorem wd_193 : Cond.fieldLink RX5 15 RX5 "columnPitches" "[I" ∈ wU := wU2 (List.mem_of_getElem? (i := 8) rfl) rfl
theorem wd_194 : Cond.fieldLink RX5 19 RX5 "faultPlace" "I" ∈ wU := wU2 (List.mem_of_getElem? (i := 9) rfl) rfl
theorem wd_195 : Cond.fieldLink RX9 208 RX5 "faultPlace" "I" ∈ wU := wU2 (List.mem_of_getElem? (i := 10) rfl) rfl
theorem wd_196 : Cond.laysFinal RX5 RX5 "instrument" "LFretHands$Instrument;" ∈ wU := wU2 (List.mem_of_getElem? (i := 11) rfl) rfl
theorem wd_197 : Cond.laysFinal RX5 RX5 "tune" "LFretHands$Tune;" ∈ wU := wU2 (List.mem_of_getElem? (i := 13) rfl) rfl
theorem wd_198 : Cond.laysFinal RX5 RX5 "tape" "LFretHands$Tape;" ∈ wU := wU2 (List.mem_of_getElem? (i := 15) rfl) rfl
theorem wd_199 : Cond.lays RX5 RX5 "lineLength" "I" ∈ wU := wU2 (List.mem_of_getElem? (i := 17) rfl) rfl
theorem wd_200 : Cond.laysFinal RX5 RX5 "columnPitches" "[I" ∈ wU := wU2 (List.mem_of_getElem? (i := 19) rfl) rfl
theorem wd_201 : Cond.lays RX5 RX5 "faultPlace" "I" ∈ wU := wU2 (List.mem_of_getElem? (i := 21) rfl) rfl
theorem wd_202 : Cond.fieldLink RX9 12 RX9 "instrument" "LFretHands$Instrument;" ∈ wU := wU2 (List.mem_of_getElem? (i := 24) rfl) rfl
theorem wd_203 : Cond.fieldLink RX9 16 RX9 "weights" "[I" ∈ wU := wU2 (List.mem_of_getElem? (i := 25) rfl) rfl
theorem wd_204 : Cond.fieldLink RX9 23 RX9 "tune" "LFretHands$Tune;" ∈ wU := wU2 (List.mem_of_getElem? (i := 26) rfl) rfl
theorem wd_205 : Cond.fieldLink RX9 30 RX9 "latest" "LFretHands$Plan;" ∈ wU := wU2 (List.mem_of_getElem? (i := 27) rfl) rfl
theorem wd_206 : Cond.fieldLink RX9 39 RX9 "finder" "LFretHands$GripFinder;" ∈ wU := wU2 (List.mem_of_getElem? (i := 28) rfl) rfl
theorem wd_207 : Cond.fieldLink RX9 48 RX9 "planner" "LFretHands$Planner;" ∈ wU := wU2 (List.mem_of_getElem? (i := 29) rfl) rfl
theorem wd_208 : Cond.fieldLink RX9 55 RX9 "signs" "LFretHands$Tape;" ∈ wU := wU2 (List.mem_of_getElem? (i := 30) rfl) rfl
theorem wd_209 : Cond.fieldLink RX9 64 RX9 "writer" "LFretHands$TabWriter;" ∈ wU := wU2 (List.mem_of_getElem? (i := 31) rfl) rfl
theorem wd_210 : Cond.fieldLink RX9 73 RX9 "reader" "LFretHands$TabReader;" ∈ wU := wU2 (List.mem_of_getElem? (i := 32) rfl) rfl
theorem wd_211 : Cond.laysFinal RX9 RX9 "instrument" "LFretHands$Instrument;" ∈ wU := wU2 (List.mem_of_getElem? (i := 33) rfl) rfl
theorem wd_212 : Cond.laysFinal RX9 RX9 "weights" "[I" ∈ wU := wU2 (List.mem_of_getElem? (i := 35) rfl) rfl
theorem wd_213 : Cond.laysFinal RX9 RX9 "tune" "LFretHands$Tune;" ∈ wU := wU2 (List.mem_of_getElem? (i := 37) rfl) rfl
theorem wd_214 : Cond.laysFinal RX9 RX9 "latest" "LFretHands$Plan;" ∈ wU := wU2 (List.mem_of_getElem? (i := 39) rfl) rfl
theorem wd_215 : Cond.laysFinal RX9 RX9 "finder" "LFretHands$GripFinder;" ∈ wU := wU2 (List.mem_of_getElem? (i := 41) rfl) rfl
theorem wd_216 : Cond.laysFinal RX9 RX9 "planner" "LFretHands$Planner;" ∈ wU := wU2 (List.mem_of_getElem? (i := 43) rfl) rfl
theorem wd_217 : Cond.laysFinal RX9 RX9 "signs" "LFretHands$Tape;" ∈ wU := wU2 (List.mem_of_getElem? (i := 45) rfl) rfl
theorem wd_218 : Cond.laysFinal RX9 RX9 "writer" "LFretHands$TabWriter;" ∈ wU := wU2 (List.mem_of_getElem? (i := 47) rfl) rfl
theorem wd_219 : Cond.laysFinal RX9 RX9 "reader" "LFretHands$TabReader;" ∈ wU := wU2 (List.mem_of_getElem? (i := 49) rfl) rfl
theorem wd_220 : Cond.methodLink RL 13 yX9_string ∈ wU := wU2 (List.mem_of_getElem? (i := 52) rfl) rfl
theorem wd_221 : Cond.instanceMethod yX9_string ∈ wU := wU2 (List.mem_of_getElem? (i := 53) rfl) rfl
theorem wd_222 : Cond.selects RX9 yX9_string yX9_string ∈ wU := wU2 (List.mem_of_getElem? (i := 54) rfl) rfl
theorem wd_223 : Cond.code yX9_string prog_1_method_2_code 2 (some .int) ∈ wU := wU2 (List.mem_of_getElem? (i := 55) rfl) rfl
theorem wd_224 : Cond.methodLink RX9 81 yX1_addString ∈ wU := wU2 (List.mem_of_getElem? (i := 56) rfl) rfl
theorem wd_225 : Cond.instanceMethod yX1_addString ∈ wU := wU2 (List.mem_of_getElem? (i := 57) rfl) rfl
theorem wd_226 : Cond.selects RX1 yX1_addString yX1_addString ∈ wU := wU2 (List.mem_of_getElem? (i := 58) rfl) rfl
theorem wd_227 : Cond.code yX1_addString prog_3_method_3_code 2 (some .boolean) ∈ wU := wU2 (List.mem_of_getElem? (i := 59) rfl) rfl
theorem wd_228 : Cond.methodLink RX9 85 yX2_forget ∈ wU := wU2 (List.mem_of_getElem? (i := 60) rfl) rfl
theorem wd_229 : Cond.instanceMethod yX2_forget ∈ wU := wU2 (List.mem_of_getElem? (i := 61) rfl) rfl
theorem wd_230 : Cond.selects RX2 yX2_forget yX2_forget ∈ wU := wU2 (List.mem_of_getElem? (i := 62) rfl) rfl
theorem wd_231 : Cond.code yX2_forget prog_4_method_2_code 1 none ∈ wU := wU2 (List.mem_of_getElem? (i := 63) rfl) rfl
theorem wd_232 : Cond.methodLink RL 18 yX9_clear ∈ wU := wU2 (List.mem_of_getElem? (i := 64) rfl) rfl
theorem wd_233 : Cond.instanceMethod yX9_clear ∈ wU := wU2 (List.mem_of_getElem? (i := 65) rfl) rfl
theorem wd_234 : Cond.selects RX9 yX9_clear yX9_clear ∈ wU := wU2 (List.mem_of_getElem? (i := 66) rfl) rfl
theorem wd_235 : Cond.code yX9_clear prog_1_method_3_code 2 (some .int) ∈ wU := wU2 (List.mem_of_getElem? (i := 67) rfl) rfl
theorem wd_236 : Cond.methodLink RL 23 yX9_neck ∈ wU := wU2 (List.mem_of_getElem? (i := 68) rfl) rfl
theorem wd_237 : Cond.instanceMethod yX9_neck ∈ wU := wU2 (List.mem_of_getElem? (i := 69) rfl) rfl
theorem wd_238 : Cond.selects RX9 yX9_neck yX9_neck ∈ wU := wU2 (List.mem_of_getElem? (i := 70) rfl) rfl
theorem wd_239 : Cond.code yX9_neck prog_1_method_4_code 3 (some .int) ∈ wU := wU2 (List.mem_of_getElem? (i := 71) rfl) rfl
theorem wd_240 : Cond.methodLink RL 27 yX9_capo ∈ wU := wU2 (List.mem_of_getElem? (i := 72) rfl) rfl
theorem wd_241 : Cond.instanceMethod yX9_capo ∈ wU := wU2 (List.mem_of_getElem? (i := 73) rfl) rfl
theorem wd_242 : Cond.selects RX9 yX9_capo yX9_capo ∈ wU := wU2 (List.mem_of_getElem? (i := 74) rfl) rfl
theorem wd_243 : Cond.code yX9_capo prog_1_method_5_code 3 (some .int) ∈ wU := wU2 (List.mem_of_getElem? (i := 75) rfl) rfl
theorem wd_244 : Cond.methodLink RL 31 yX9_weight ∈ wU := wU2 (List.mem_of_getElem? (i := 76) rfl) rfl
theorem wd_245 : Cond.instanceMethod yX9_weight ∈ wU := wU2 (List.mem_of_getElem? (i := 77) rfl) rfl
theorem wd_246 : Cond.selects RX9 yX9_weight yX9_weight ∈ wU := wU2 (List.mem_of_getElem? (i := 78) rfl) rfl
theorem wd_247 : Cond.code yX9_weight prog_1_method_6_code 4 (some .int) ∈ wU := wU2 (List.mem_of_getElem? (i := 79) rfl) rfl
theorem wd_248 : Cond.methodLink RL 36 yX9_event ∈ wU := wU2 (List.mem_of_getElem? (i := 80) rfl) rfl
theorem wd_249 : Cond.instanceMethod yX9_event ∈ wU := wU2 (List.mem_of_getElem? (i := 81) rfl) rfl
theorem wd_250 : Cond.selects RX9 yX9_event yX9_event ∈ wU := wU2 (List.mem_of_getElem? (i := 82) rfl) rfl
theorem wd_251 : Cond.code yX9_event prog_1_method_7_code 2 (some .int) ∈ wU := wU2 (List.mem_of_getElem? (i := 83) rfl) rfl
theorem wd_252 : Cond.methodLink RX9 97 yX9_isPitch ∈ wU := wU2 (List.mem_of_getElem? (i := 84) rfl) rfl
theorem wd_253 : Cond.static yX9_isPitch ∈ wU := wU2 (List.mem_of_getElem? (i := 85) rfl) rfl
theorem wd_254 : Cond.code yX9_isPitch prog_1_method_26_code 1 (some .boolean) ∈ wU := wU2 (List.mem_of_getElem? (i := 86) rfl) rfl
theorem wd_255 : Cond.methodLink RX9 100 yX8_addEvent ∈ wU := wU2 (List.mem_of_getElem? (i := 87) rfl) rfl
theorem wd_256 : Cond.instanceMethod yX8_addEvent ∈ wU := wU2 (List.mem_of_getElem? (i := 88) rfl) rfl
theorem wd_257 : Cond.selects RX8 yX8_addEvent yX8_addEvent ∈ wU := wU2 (List.mem_of_getElem? (i := 89) rfl) rfl
theorem wd_258 : Cond.code yX8_addEvent prog_10_method_9_code 1 (some .boolean) ∈ wU := wU2 (List.mem_of_getElem? (i := 90) rfl) rfl
theorem wd_259 : Cond.methodLink RX9 104 yX8_addPitch ∈ wU := wU2 (List.mem_of_getElem? (i := 91) rfl) rfl
theorem wd_260 : Cond.instanceMethod yX8_addPitch ∈ wU := wU2 (List.mem_of_getElem? (i := 92) rfl) rfl
theorem wd_261 : Cond.selects RX8 yX8_addPitch yX8_addPitch ∈ wU := wU2 (List.mem_of_getElem? (i := 93) rfl) rfl
theorem wd_262 : Cond.code yX8_addPitch prog_10_method_10_code 5 (some .boolean) ∈ wU := wU2 (List.mem_of_getElem? (i := 94) rfl) rfl
theorem wd_263 : Cond.methodLink RL 40 yX9_pitch ∈ wU := wU2 (List.mem_of_getElem? (i := 95) rfl) rfl
theorem wd_264 : Cond.instanceMethod yX9_pitch ∈ wU := wU2 (List.mem_of_getElem? (i := 96) rfl) rfl
theorem wd_265 : Cond.selects RX9 yX9_pitch yX9_pitch ∈ wU := wU2 (List.mem_of_getElem? (i := 97) rfl) rfl
theorem wd_266 : Cond.code yX9_pitch prog_1_method_8_code 3 (some .int) ∈ wU := wU2 (List.mem_of_getElem? (i := 98) rfl) rfl
theorem wd_267 : Cond.methodLink RX9 108 yX8_contains ∈ wU := wU2 (List.mem_of_getElem? (i := 99) rfl) rfl
theorem wd_268 : Cond.instanceMethod yX8_contains ∈ wU := wU2 (List.mem_of_getElem? (i := 100) rfl) rfl
theorem wd_269 : Cond.selects RX8 yX8_contains yX8_contains ∈ wU := wU2 (List.mem_of_getElem? (i := 101) rfl) rfl
theorem wd_270 : Cond.code yX8_contains prog_10_method_8_code 5 (some .boolean) ∈ wU := wU2 (List.mem_of_getElem? (i := 102) rfl) rfl
theorem wd_271 : Cond.methodLink RX8 33 yX8_sizeOf ∈ wU := wU2 (List.mem_of_getElem? (i := 103) rfl) rfl
theorem wd_272 : Cond.instanceMethod yX8_sizeOf ∈ wU := wU2 (List.mem_of_getElem? (i := 104) rfl) rfl
theorem wd_273 : Cond.selects RX8 yX8_sizeOf yX8_sizeOf ∈ wU := wU2 (List.mem_of_getElem? (i := 105) rfl) rfl
theorem wd_274 : Cond.code yX8_sizeOf prog_10_method_3_code 2 (some .int) ∈ wU := wU2 (List.mem_of_getElem? (i := 106) rfl) rfl
theorem wd_275 : Cond.methodLink RX8 25 yX8_hasEvent ∈ wU := wU2 (List.mem_of_getElem? (i := 107) rfl) rfl
theorem wd_276 : Cond.instanceMethod yX8_hasEvent ∈ wU := wU2 (List.mem_of_getElem? (i := 108) rfl) rfl
theorem wd_277 : Cond.selects RX8 yX8_hasEvent yX8_hasEvent ∈ wU := wU2 (List.mem_of_getElem? (i := 109) rfl) rfl
theorem wd_278 : Cond.code yX8_hasEvent prog_10_method_2_code 2 (some .boolean) ∈ wU := wU2 (List.mem_of_getElem? (i := 110) rfl) rfl
theorem wd_279 : Cond.methodLink RX8 37 yX8_pitchOf ∈ wU := wU2 (List.mem_of_getElem? (i := 111) rfl) rfl
theorem wd_280 : Cond.instanceMethod yX8_pitchOf ∈ wU := wU2 (List.mem_of_getElem? (i := 112) rfl) rfl
theorem wd_281 : Cond.selects RX8 yX8_pitchOf yX8_pitchOf ∈ wU := wU2 (List.mem_of_getElem? (i := 113) rfl) rfl
theorem wd_282 : Cond.code yX8_pitchOf prog_10_method_5_code 3 (some .int) ∈ wU := wU2 (List.mem_of_getElem? (i := 114) rfl) rfl
theorem wd_283 : Cond.methodLink RX8 29 yX8_hasPitch ∈ wU := wU2 (List.mem_of_getElem? (i := 115) rfl) rfl
theorem wd_284 : Cond.instanceMethod yX8_hasPitch ∈ wU := wU2 (List.mem_of_getElem? (i := 116) rfl) rfl
theorem wd_285 : Cond.selects RX8 yX8_hasPitch yX8_hasPitch ∈ wU := wU2 (List.mem_of_getElem? (i := 117) rfl) rfl
theorem wd_286 : Cond.code yX8_hasPitch prog_10_method_4_code 3 (some .boolean) ∈ wU := wU2 (List.mem_of_getElem? (i := 118) rfl) rfl
theorem wd_287 : Cond.methodLink RX9 111 yX8_sizeOf ∈ wU := wU2 (List.mem_of_getElem? (i := 119) rfl) rfl
theorem wd_288 : Cond.methodLink RL 44 yX9_bind ∈ wU := wU2 (List.mem_of_getElem? (i := 120) rfl) rfl
theorem wd_289 : Cond.instanceMethod yX9_bind ∈ wU := wU2 (List.mem_of_getElem? (i := 121) rfl) rfl
theorem wd_290 : Cond.selects RX9 yX9_bind yX9_bind ∈ wU := wU2 (List.mem_of_getElem? (i := 122) rfl) rfl
theorem wd_291 : Cond.code yX9_bind prog_1_method_9_code 5 (some .int) ∈ wU := wU2 (List.mem_of_getElem? (i := 123) rfl) rfl
theorem wd_292 : Cond.methodLink RX9 115 yX8_hasEvent ∈ wU := wU2 (List.mem_of_getElem? (i := 124) rfl) rfl
theorem wd_293 : Cond.methodLink RX9 118 yX8_hasPitch ∈ wU := wU2 (List.mem_of_getElem? (i := 125) rfl) rfl
theorem wd_294 : Cond.methodLink RX9 121 yX1_hasString ∈ wU := wU2 (List.mem_of_getElem? (i := 126) rfl) rfl
theorem wd_295 : Cond.instanceMethod yX1_hasString ∈ wU := wU2 (List.mem_of_getElem? (i := 127) rfl) rfl
theorem wd_296 : Cond.selects RX1 yX1_hasString yX1_hasString ∈ wU := wU2 (List.mem_of_getElem? (i := 128) rfl) rfl
theorem wd_297 : Cond.code yX1_hasString prog_3_method_2_code 2 (some .boolean) ∈ wU := wU2 (List.mem_of_getElem? (i := 129) rfl) rfl
theorem wd_298 : Cond.methodLink RX9 124 yX8_stringOf ∈ wU := wU2 (List.mem_of_getElem? (i := 130) rfl) rfl
theorem wd_299 : Cond.instanceMethod yX8_stringOf ∈ wU := wU2 (List.mem_of_getElem? (i := 131) rfl) rfl
theorem wd_300 : Cond.selects RX8 yX8_stringOf yX8_stringOf ∈ wU := wU2 (List.mem_of_getElem? (i := 132) rfl) rfl
theorem wd_301 : Cond.code yX8_stringOf prog_10_method_6_code 3 (some .int) ∈ wU := wU2 (List.mem_of_getElem? (i := 133) rfl) rfl
theorem wd_302 : Cond.methodLink RX9 128 yX8_bindPitch ∈ wU := wU2 (List.mem_of_getElem? (i := 134) rfl) rfl
theorem wd_303 : Cond.instanceMethod yX8_bindPitch ∈ wU := wU2 (List.mem_of_getElem? (i := 135) rfl) rfl
theorem wd_304 : Cond.selects RX8 yX8_bindPitch yX8_bindPitch ∈ wU := wU2 (List.mem_of_getElem? (i := 136) rfl) rfl
theorem wd_305 : Cond.code yX8_bindPitch prog_10_method_7_code 4 none ∈ wU := wU2 (List.mem_of_getElem? (i := 137) rfl) rfl
theorem wd_306 : Cond.methodLink RL 49 yX9_drop ∈ wU := wU2 (List.mem_of_getElem? (i := 138) rfl) rfl
theorem wd_307 : Cond.instanceMethod yX9_drop ∈ wU := wU2 (List.mem_of_getElem? (i := 139) rfl) rfl
theorem wd_308 : Cond.selects RX9 yX9_drop yX9_drop ∈ wU := wU2 (List.mem_of_getElem? (i := 140) rfl) rfl
theorem wd_309 : Cond.code yX9_drop prog_1_method_10_code 1 (some .int) ∈ wU := wU2 (List.mem_of_getElem? (i := 141) rfl) rfl
theorem wd_310 : Cond.methodLink RL 53 yX9_told ∈ wU := wU2 (List.mem_of_getElem? (i := 142) rfl) rfl
theorem wd_311 : Cond.instanceMethod yX9_told ∈ wU := wU2 (List.mem_of_getElem? (i := 143) rfl) rfl
theorem wd_312 : Cond.selects RX9 yX9_told yX9_told ∈ wU := wU2 (List.mem_of_getElem? (i := 144) rfl) rfl
theorem wd_313 : Cond.code yX9_told prog_1_method_11_code 2 (some .int) ∈ wU := wU2 (List.mem_of_getElem? (i := 145) rfl) rfl
theorem wd_314 : Cond.methodLink RL 57 yX9_at ∈ wU := wU2 (List.mem_of_getElem? (i := 146) rfl) rfl
theorem wd_315 : Cond.instanceMethod yX9_at ∈ wU := wU2 (List.mem_of_getElem? (i := 147) rfl) rfl
theorem wd_316 : Cond.selects RX9 yX9_at yX9_at ∈ wU := wU2 (List.mem_of_getElem? (i := 148) rfl) rfl
theorem wd_317 : Cond.code yX9_at prog_1_method_12_code 3 (some .int) ∈ wU := wU2 (List.mem_of_getElem? (i := 149) rfl) rfl
theorem wd_318 : Cond.methodLink RX9 135 yX8_pitchOf ∈ wU := wU2 (List.mem_of_getElem? (i := 150) rfl) rfl
theorem wd_319 : Cond.methodLink RL 61 yX9_bound ∈ wU := wU2 (List.mem_of_getElem? (i := 151) rfl) rfl
theorem wd_320 : Cond.instanceMethod yX9_bound ∈ wU := wU2 (List.mem_of_getElem? (i := 152) rfl) rfl
theorem wd_321 : Cond.selects RX9 yX9_bound yX9_bound ∈ wU := wU2 (List.mem_of_getElem? (i := 153) rfl) rfl
theorem wd_322 : Cond.code yX9_bound prog_1_method_13_code 3 (some .int) ∈ wU := wU2 (List.mem_of_getElem? (i := 154) rfl) rfl
theorem wd_323 : Cond.methodLink RL 65 yX9_fret ∈ wU := wU2 (List.mem_of_getElem? (i := 155) rfl) rfl
theorem wd_324 : Cond.instanceMethod yX9_fret ∈ wU := wU2 (List.mem_of_getElem? (i := 156) rfl) rfl
theorem wd_325 : Cond.selects RX9 yX9_fret yX9_fret ∈ wU := wU2 (List.mem_of_getElem? (i := 157) rfl) rfl
theorem wd_326 : Cond.code yX9_fret prog_1_method_14_code 3 (some .int) ∈ wU := wU2 (List.mem_of_getElem? (i := 158) rfl) rfl
theorem wd_327 : Cond.methodLink RX9 138 yX1_fretOf ∈ wU := wU2 (List.mem_of_getElem? (i := 159) rfl) rfl
theorem wd_328 : Cond.instanceMethod yX1_fretOf ∈ wU := wU2 (List.mem_of_getElem? (i := 160) rfl) rfl
theorem wd_329 : Cond.selects RX1 yX1_fretOf yX1_fretOf ∈ wU := wU2 (List.mem_of_getElem? (i := 161) rfl) rfl
theorem wd_330 : Cond.code yX1_fretOf prog_3_method_4_code 4 (some .int) ∈ wU := wU2 (List.mem_of_getElem? (i := 162) rfl) rfl
theorem wd_331 : Cond.methodLink RX1 25 yX1_hasString ∈ wU := wU2 (List.mem_of_getElem? (i := 163) rfl) rfl
theorem wd_332 : Cond.methodLink RL 69 yX9_grips ∈ wU := wU2 (List.mem_of_getElem? (i := 164) rfl) rfl
theorem wd_333 : Cond.instanceMethod yX9_grips ∈ wU := wU2 (List.mem_of_getElem? (i := 165) rfl) rfl
theorem wd_334 : Cond.selects RX9 yX9_grips yX9_grips ∈ wU := wU2 (List.mem_of_getElem? (i := 166) rfl) rfl
theorem wd_335 : Cond.code yX9_grips prog_1_method_15_code 2 (some .int) ∈ wU := wU2 (List.mem_of_getElem? (i := 167) rfl) rfl
theorem wd_336 : Cond.methodLink RX9 141 yX0_survey ∈ wU := wU2 (List.mem_of_getElem? (i := 168) rfl) rfl
theorem wd_337 : Cond.instanceMethod yX0_survey ∈ wU := wU2 (List.mem_of_getElem? (i := 169) rfl) rfl
theorem wd_338 : Cond.selects RX0 yX0_survey yX0_survey ∈ wU := wU2 (List.mem_of_getElem? (i := 170) rfl) rfl
theorem wd_339 : Cond.code yX0_survey prog_2_method_2_code 2 none ∈ wU := wU2 (List.mem_of_getElem? (i := 171) rfl) rfl
theorem wd_340 : Cond.methodLink RX0 63 yX0_goThrough ∈ wU := wU2 (List.mem_of_getElem? (i := 172) rfl) rfl
theorem wd_341 : Cond.instanceMethod yX0_goThrough ∈ wU := wU2 (List.mem_of_getElem? (i := 174) rfl) rfl
theorem wd_342 : Cond.code yX0_goThrough prog_2_method_6_code 3 none ∈ wU := wU2 (List.mem_of_getElem? (i := 175) rfl) rfl
theorem wd_343 : Cond.methodLink RX0 74 yX8_sizeOf ∈ wU := wU2 (List.mem_of_getElem? (i := 176) rfl) rfl
theorem wd_344 : Cond.methodLink RX0 79 Lib.Math.min.name ∈ wU := wU2 (List.mem_of_getElem? (i := 177) rfl) rfl
theorem wd_345 : Cond.static Lib.Math.min.name ∈ wU := wU2 (List.mem_of_getElem? (i := 178) rfl) rfl
theorem wd_346 : Cond.code Lib.Math.min.name Lib.Math.min.code 2 (some .int) ∈ wU := wU2 (List.mem_of_getElem? (i := 179) rfl) rfl
theorem wd_347 : Cond.methodLink RX0 85 yX8_pitchOf ∈ wU := wU2 (List.mem_of_getElem? (i := 180) rfl) rfl
theorem wd_348 : Cond.methodLink RX0 88 yX8_stringOf ∈ wU := wU2 (List.mem_of_getElem? (i := 181) rfl) rfl
theorem wd_349 : Cond.methodLink RX0 99 yX0_layFrom ∈ wU := wU2 (List.mem_of_getElem? (i := 182) rfl) rfl
theorem wd_350 : Cond.instanceMethod yX0_layFrom ∈ wU := wU2 (List.mem_of_getElem? (i := 184) rfl) rfl
theorem wd_351 : Cond.code yX0_layFrom prog_2_method_7_code 15 none ∈ wU := wU2 (List.mem_of_getElem? (i := 185) rfl) rfl
theorem wd_352 : Cond.methodLink RX0 103 yX0_tellPositions ∈ wU := wU2 (List.mem_of_getElem? (i := 186) rfl) rfl
theorem wd_353 : Cond.instanceMethod yX0_tellPositions ∈ wU := wU2 (List.mem_of_getElem? (i := 188) rfl) rfl
theorem wd_354 : Cond.code yX0_tellPositions prog_2_method_8_code 7 none ∈ wU := wU2 (List.mem_of_getElem? (i := 189) rfl) rfl
theorem wd_355 : Cond.methodLink RX0 119 Lib.Math.max.name ∈ wU := wU2 (List.mem_of_getElem? (i := 190) rfl) rfl
theorem wd_356 : Cond.static Lib.Math.max.name ∈ wU := wU2 (List.mem_of_getElem? (i := 191) rfl) rfl
theorem wd_357 : Cond.code Lib.Math.max.name Lib.Math.max.code 2 (some .int) ∈ wU := wU2 (List.mem_of_getElem? (i := 192) rfl) rfl
theorem wd_358 : Cond.methodLink RX0 122 yX0_pitchesAt ∈ wU := wU2 (List.mem_of_getElem? (i := 193) rfl) rfl
theorem wd_359 : Cond.instanceMethod yX0_pitchesAt ∈ wU := wU2 (List.mem_of_getElem? (i := 195) rfl) rfl
theorem wd_360 : Cond.code yX0_pitchesAt prog_2_method_9_code 4 (some .int) ∈ wU := wU2 (List.mem_of_getElem? (i := 196) rfl) rfl
theorem wd_361 : Cond.methodLink RX0 125 yX0_tell ∈ wU := wU2 (List.mem_of_getElem? (i := 197) rfl) rfl
theorem wd_362 : Cond.instanceMethod yX0_tell ∈ wU := wU2 (List.mem_of_getElem? (i := 199) rfl) rfl
theorem wd_363 : Cond.code yX0_tell prog_2_method_10_code 5 none ∈ wU := wU2 (List.mem_of_getElem? (i := 200) rfl) rfl
theorem wd_364 : Cond.methodLink RX0 110 yX1_fretOf ∈ wU := wU2 (List.mem_of_getElem? (i := 201) rfl) rfl
theorem wd_365 : Cond.methodLink RX0 113 yX4_with ∈ wU := wU2 (List.mem_of_getElem? (i := 202) rfl) rfl
theorem wd_366 : Cond.static yX4_with ∈ wU := wU2 (List.mem_of_getElem? (i := 203) rfl) rfl
theorem wd_367 : Cond.code yX4_with prog_6_method_2_code 3 (some .int) ∈ wU := wU2 (List.mem_of_getElem? (i := 204) rfl) rfl
theorem wd_368 : Cond.methodLink RX9 145 yX0_countBelow ∈ wU := wU2 (List.mem_of_getElem? (i := 205) rfl) rfl
theorem wd_369 : Cond.instanceMethod yX0_countBelow ∈ wU := wU2 (List.mem_of_getElem? (i := 206) rfl) rfl
theorem wd_370 : Cond.selects RX0 yX0_countBelow yX0_countBelow ∈ wU := wU2 (List.mem_of_getElem? (i := 207) rfl) rfl
theorem wd_371 : Cond.code yX0_countBelow prog_2_method_3_code 4 (some .int) ∈ wU := wU2 (List.mem_of_getElem? (i := 208) rfl) rfl
theorem wd_372 : Cond.methodLink RL 73 yX9_grip ∈ wU := wU2 (List.mem_of_getElem? (i := 209) rfl) rfl
theorem wd_373 : Cond.instanceMethod yX9_grip ∈ wU := wU2 (List.mem_of_getElem? (i := 210) rfl) rfl
theorem wd_374 : Cond.selects RX9 yX9_grip yX9_grip ∈ wU := wU2 (List.mem_of_getElem? (i := 211) rfl) rfl
theorem wd_375 : Cond.code yX9_grip prog_1_method_16_code 4 (some .int) ∈ wU := wU2 (List.mem_of_getElem? (i := 212) rfl) rfl
theorem wd_376 : Cond.methodLink RX9 148 yX0_findNumber ∈ wU := wU2 (List.mem_of_getElem? (i := 213) rfl) rfl
theorem wd_377 : Cond.instanceMethod yX0_findNumber ∈ wU := wU2 (List.mem_of_getElem? (i := 214) rfl) rfl
theorem wd_378 : Cond.selects RX0 yX0_findNumber yX0_findNumber ∈ wU := wU2 (List.mem_of_getElem? (i := 215) rfl) rfl
theorem wd_379 : Cond.code yX0_findNumber prog_2_method_5_code 5 (some .boolean) ∈ wU := wU2 (List.mem_of_getElem? (i := 216) rfl) rfl
theorem wd_380 : Cond.methodLink RX0 71 yX0_survey ∈ wU := wU2 (List.mem_of_getElem? (i := 217) rfl) rfl
theorem wd_381 : Cond.methodLink RX9 160 yX9_partOf ∈ wU := wU2 (List.mem_of_getElem? (i := 218) rfl) rfl
theorem wd_382 : Cond.instanceMethod yX9_partOf ∈ wU := wU2 (List.mem_of_getElem? (i := 220) rfl) rfl
theorem wd_383 : Cond.code yX9_partOf prog_1_method_27_code 6 (some .int) ∈ wU := wU2 (List.mem_of_getElem? (i := 221) rfl) rfl
theorem wd_384 : Cond.methodLink RX9 211 yX4_stringIn ∈ wU := wU2 (List.mem_of_getElem? (i := 222) rfl) rfl
theorem wd_385 : Cond.static yX4_stringIn ∈ wU := wU2 (List.mem_of_getElem? (i := 223) rfl) rfl
theorem wd_386 : Cond.code yX4_stringIn prog_6_method_3_code 2 (some .int) ∈ wU := wU2 (List.mem_of_getElem? (i := 224) rfl) rfl
theorem wd_387 : Cond.methodLink RL 77 yX9_plan ∈ wU := wU2 (List.mem_of_getElem? (i := 225) rfl) rfl
theorem wd_388 : Cond.instanceMethod yX9_plan ∈ wU := wU2 (List.mem_of_getElem? (i := 226) rfl) rfl
theorem wd_389 : Cond.selects RX9 yX9_plan yX9_plan ∈ wU := wU2 (List.mem_of_getElem? (i := 227) rfl) rfl
theorem wd_390 : Cond.code yX9_plan prog_1_method_17_code 1 (some .int) ∈ wU := wU2 (List.mem_of_getElem? (i := 228) rfl) rfl
theorem wd_391 : Cond.methodLink RX9 164 yX3_search ∈ wU := wU2 (List.mem_of_getElem? (i := 229) rfl) rfl
theorem wd_392 : Cond.instanceMethod yX3_search ∈ wU := wU2 (List.mem_of_getElem? (i := 230) rfl) rfl
theorem wd_393 : Cond.selects RX3 yX3_search yX3_search ∈ wU := wU2 (List.mem_of_getElem? (i := 231) rfl) rfl
theorem wd_394 : Cond.code yX3_search prog_5_method_2_code 3 none ∈ wU := wU2 (List.mem_of_getElem? (i := 232) rfl) rfl
theorem wd_395 : Cond.methodLink RX3 45 yX0_survey ∈ wU := wU2 (List.mem_of_getElem? (i := 233) rfl) rfl
theorem wd_396 : Cond.methodLink RX3 51 yX3_fillCell ∈ wU := wU2 (List.mem_of_getElem? (i := 234) rfl) rfl
theorem wd_397 : Cond.instanceMethod yX3_fillCell ∈ wU := wU2 (List.mem_of_getElem? (i := 236) rfl) rfl
theorem wd_398 : Cond.code yX3_fillCell prog_5_method_4_code 4 none ∈ wU := wU2 (List.mem_of_getElem? (i := 237) rfl) rfl
theorem wd_399 : Cond.methodLink RX3 68 yX3_isCell ∈ wU := wU2 (List.mem_of_getElem? (i := 238) rfl) rfl
theorem wd_400 : Cond.static yX3_isCell ∈ wU := wU2 (List.mem_of_getElem? (i := 239) rfl) rfl
theorem wd_401 : Cond.code yX3_isCell prog_5_method_9_code 2 (some .boolean) ∈ wU := wU3 (List.mem_of_getElem? (i := 0) rfl) rfl
theorem wd_402 : Cond.methodLink RX3 55 yX3_weighRest ∈ wU := wU3 (List.mem_of_getElem? (i := 1) rfl) rfl
theorem wd_403 : Cond.instanceMethod yX3_weighRest ∈ wU := wU3 (List.mem_of_getElem? (i := 3) rfl) rfl
theorem wd_404 : Cond.code yX3_weighRest prog_5_method_5_code 5 none ∈ wU := wU3 (List.mem_of_getElem? (i := 4) rfl) rfl
theorem wd_405 : Cond.methodLink RX3 93 yX3_sumFrom ∈ wU := wU3 (List.mem_of_getElem? (i := 5) rfl) rfl
theorem wd_406 : Cond.instanceMethod yX3_sumFrom ∈ wU := wU3 (List.mem_of_getElem? (i := 7) rfl) rfl
theorem wd_407 : Cond.code yX3_sumFrom prog_5_method_7_code 5 (some .int) ∈ wU := wU3 (List.mem_of_getElem? (i := 8) rfl) rfl
theorem wd_408 : Cond.methodLink RX3 100 Lib.Math.abs.name ∈ wU := wU3 (List.mem_of_getElem? (i := 9) rfl) rfl
theorem wd_409 : Cond.static Lib.Math.abs.name ∈ wU := wU3 (List.mem_of_getElem? (i := 10) rfl) rfl
theorem wd_410 : Cond.code Lib.Math.abs.name Lib.Math.abs.code 1 (some .int) ∈ wU := wU3 (List.mem_of_getElem? (i := 11) rfl) rfl
theorem wd_411 : Cond.methodLink RX3 97 yX3_waysAt ∈ wU := wU3 (List.mem_of_getElem? (i := 12) rfl) rfl
theorem wd_412 : Cond.instanceMethod yX3_waysAt ∈ wU := wU3 (List.mem_of_getElem? (i := 14) rfl) rfl
theorem wd_413 : Cond.code yX3_waysAt prog_5_method_8_code 3 (some .int) ∈ wU := wU3 (List.mem_of_getElem? (i := 15) rfl) rfl
theorem wd_414 : Cond.methodLink RX3 81 yX3_atMostTies ∈ wU := wU3 (List.mem_of_getElem? (i := 16) rfl) rfl
theorem wd_415 : Cond.static yX3_atMostTies ∈ wU := wU3 (List.mem_of_getElem? (i := 17) rfl) rfl
theorem wd_416 : Cond.code yX3_atMostTies prog_5_method_10_code 2 (some .int) ∈ wU := wU3 (List.mem_of_getElem? (i := 18) rfl) rfl
theorem wd_417 : Cond.constantLong RX3 106 999999 ∈ wU := wU3 (List.mem_of_getElem? (i := 19) rfl) rfl
theorem wd_418 : Cond.constant RX3 108 999999 ∈ wU := wU3 (List.mem_of_getElem? (i := 20) rfl) rfl
theorem wd_419 : Cond.methodLink RX9 170 yX3_choose ∈ wU := wU3 (List.mem_of_getElem? (i := 21) rfl) rfl
theorem wd_420 : Cond.instanceMethod yX3_choose ∈ wU := wU3 (List.mem_of_getElem? (i := 22) rfl) rfl
theorem wd_421 : Cond.selects RX3 yX3_choose yX3_choose ∈ wU := wU3 (List.mem_of_getElem? (i := 23) rfl) rfl
theorem wd_422 : Cond.code yX3_choose prog_5_method_3_code 5 none ∈ wU := wU3 (List.mem_of_getElem? (i := 24) rfl) rfl
theorem wd_423 : Cond.methodLink RX3 58 yX3_firstBest ∈ wU := wU3 (List.mem_of_getElem? (i := 25) rfl) rfl
theorem wd_424 : Cond.instanceMethod yX3_firstBest ∈ wU := wU3 (List.mem_of_getElem? (i := 27) rfl) rfl
theorem wd_425 : Cond.code yX3_firstBest prog_5_method_6_code 7 (some .int) ∈ wU := wU3 (List.mem_of_getElem? (i := 28) rfl) rfl
theorem wd_426 : Cond.methodLink RX3 62 yX2_addFirstLeast ∈ wU := wU3 (List.mem_of_getElem? (i := 29) rfl) rfl
theorem wd_427 : Cond.instanceMethod yX2_addFirstLeast ∈ wU := wU3 (List.mem_of_getElem? (i := 30) rfl) rfl
theorem wd_428 : Cond.selects RX2 yX2_addFirstLeast yX2_addFirstLeast ∈ wU := wU3 (List.mem_of_getElem? (i := 31) rfl) rfl
theorem wd_429 : Cond.code yX2_addFirstLeast prog_4_method_5_code 3 none ∈ wU := wU3 (List.mem_of_getElem? (i := 32) rfl) rfl
theorem wd_430 : Cond.methodLink RX2 36 yX0_numberOfFirstLeast ∈ wU := wU3 (List.mem_of_getElem? (i := 33) rfl) rfl
theorem wd_431 : Cond.instanceMethod yX0_numberOfFirstLeast ∈ wU := wU3 (List.mem_of_getElem? (i := 34) rfl) rfl
theorem wd_432 : Cond.selects RX0 yX0_numberOfFirstLeast yX0_numberOfFirstLeast ∈ wU := wU3 (List.mem_of_getElem? (i := 35) rfl) rfl
theorem wd_433 : Cond.code yX0_numberOfFirstLeast prog_2_method_4_code 2 (some .int) ∈ wU := wU3 (List.mem_of_getElem? (i := 36) rfl) rfl
theorem wd_434 : Cond.methodLink RX0 67 yX0_countBelow ∈ wU := wU3 (List.mem_of_getElem? (i := 37) rfl) rfl
theorem wd_435 : Cond.methodLink RL 81 yX9_planned ∈ wU := wU3 (List.mem_of_getElem? (i := 38) rfl) rfl
theorem wd_436 : Cond.instanceMethod yX9_planned ∈ wU := wU3 (List.mem_of_getElem? (i := 39) rfl) rfl
theorem wd_437 : Cond.selects RX9 yX9_planned yX9_planned ∈ wU := wU3 (List.mem_of_getElem? (i := 40) rfl) rfl
theorem wd_438 : Cond.code yX9_planned prog_1_method_18_code 3 (some .int) ∈ wU := wU3 (List.mem_of_getElem? (i := 41) rfl) rfl
theorem wd_439 : Cond.methodLink RX9 174 yX2_hasEvent ∈ wU := wU3 (List.mem_of_getElem? (i := 42) rfl) rfl
theorem wd_440 : Cond.instanceMethod yX2_hasEvent ∈ wU := wU3 (List.mem_of_getElem? (i := 43) rfl) rfl
theorem wd_441 : Cond.selects RX2 yX2_hasEvent yX2_hasEvent ∈ wU := wU3 (List.mem_of_getElem? (i := 44) rfl) rfl
theorem wd_442 : Cond.code yX2_hasEvent prog_4_method_4_code 2 (some .boolean) ∈ wU := wU3 (List.mem_of_getElem? (i := 45) rfl) rfl
theorem wd_443 : Cond.methodLink RL 85 yX9_ties ∈ wU := wU3 (List.mem_of_getElem? (i := 46) rfl) rfl
theorem wd_444 : Cond.instanceMethod yX9_ties ∈ wU := wU3 (List.mem_of_getElem? (i := 47) rfl) rfl
theorem wd_445 : Cond.selects RX9 yX9_ties yX9_ties ∈ wU := wU3 (List.mem_of_getElem? (i := 48) rfl) rfl
theorem wd_446 : Cond.code yX9_ties prog_1_method_19_code 1 (some .int) ∈ wU := wU3 (List.mem_of_getElem? (i := 49) rfl) rfl
theorem wd_447 : Cond.methodLink RL 89 yX9_sign ∈ wU := wU3 (List.mem_of_getElem? (i := 50) rfl) rfl
theorem wd_448 : Cond.instanceMethod yX9_sign ∈ wU := wU3 (List.mem_of_getElem? (i := 51) rfl) rfl
theorem wd_449 : Cond.selects RX9 yX9_sign yX9_sign ∈ wU := wU3 (List.mem_of_getElem? (i := 52) rfl) rfl
theorem wd_450 : Cond.code yX9_sign prog_1_method_20_code 2 (some .int) ∈ wU := wU3 (List.mem_of_getElem? (i := 53) rfl) rfl
theorem wd_451 : Cond.methodLink RX9 189 yX7_add ∈ wU := wU3 (List.mem_of_getElem? (i := 54) rfl) rfl
theorem wd_452 : Cond.instanceMethod yX7_add ∈ wU := wU3 (List.mem_of_getElem? (i := 55) rfl) rfl
theorem wd_453 : Cond.selects RX7 yX7_add yX7_add ∈ wU := wU3 (List.mem_of_getElem? (i := 56) rfl) rfl
theorem wd_454 : Cond.code yX7_add prog_9_method_2_code 2 (some .boolean) ∈ wU := wU3 (List.mem_of_getElem? (i := 57) rfl) rfl
theorem wd_455 : Cond.methodLink RL 93 yX9_tape ∈ wU := wU3 (List.mem_of_getElem? (i := 58) rfl) rfl
theorem wd_456 : Cond.instanceMethod yX9_tape ∈ wU := wU3 (List.mem_of_getElem? (i := 59) rfl) rfl
theorem wd_457 : Cond.selects RX9 yX9_tape yX9_tape ∈ wU := wU3 (List.mem_of_getElem? (i := 60) rfl) rfl
theorem wd_458 : Cond.code yX9_tape prog_1_method_21_code 2 (some .int) ∈ wU := wU3 (List.mem_of_getElem? (i := 61) rfl) rfl
theorem wd_459 : Cond.methodLink RX9 192 yX7_signAt ∈ wU := wU3 (List.mem_of_getElem? (i := 62) rfl) rfl
theorem wd_460 : Cond.instanceMethod yX7_signAt ∈ wU := wU3 (List.mem_of_getElem? (i := 63) rfl) rfl
theorem wd_461 : Cond.selects RX7 yX7_signAt yX7_signAt ∈ wU := wU3 (List.mem_of_getElem? (i := 64) rfl) rfl
theorem wd_462 : Cond.code yX7_signAt prog_9_method_3_code 2 (some .int) ∈ wU := wU3 (List.mem_of_getElem? (i := 65) rfl) rfl
theorem wd_463 : Cond.methodLink RL 97 yX9_empty ∈ wU := wU3 (List.mem_of_getElem? (i := 66) rfl) rfl
theorem wd_464 : Cond.instanceMethod yX9_empty ∈ wU := wU3 (List.mem_of_getElem? (i := 67) rfl) rfl
theorem wd_465 : Cond.selects RX9 yX9_empty yX9_empty ∈ wU := wU3 (List.mem_of_getElem? (i := 68) rfl) rfl
theorem wd_466 : Cond.code yX9_empty prog_1_method_22_code 2 (some .int) ∈ wU := wU3 (List.mem_of_getElem? (i := 69) rfl) rfl
theorem wd_467 : Cond.methodLink RL 101 yX9_write ∈ wU := wU3 (List.mem_of_getElem? (i := 70) rfl) rfl
theorem wd_468 : Cond.instanceMethod yX9_write ∈ wU := wU3 (List.mem_of_getElem? (i := 71) rfl) rfl
theorem wd_469 : Cond.selects RX9 yX9_write yX9_write ∈ wU := wU3 (List.mem_of_getElem? (i := 72) rfl) rfl
theorem wd_470 : Cond.code yX9_write prog_1_method_23_code 1 (some .int) ∈ wU := wU3 (List.mem_of_getElem? (i := 73) rfl) rfl
theorem wd_471 : Cond.methodLink RX9 195 yX2_isFound ∈ wU := wU3 (List.mem_of_getElem? (i := 74) rfl) rfl
theorem wd_472 : Cond.instanceMethod yX2_isFound ∈ wU := wU3 (List.mem_of_getElem? (i := 75) rfl) rfl
theorem wd_473 : Cond.selects RX2 yX2_isFound yX2_isFound ∈ wU := wU3 (List.mem_of_getElem? (i := 76) rfl) rfl
theorem wd_474 : Cond.code yX2_isFound prog_4_method_3_code 1 (some .boolean) ∈ wU := wU3 (List.mem_of_getElem? (i := 77) rfl) rfl
theorem wd_475 : Cond.methodLink RX9 198 yX6_writeTab ∈ wU := wU3 (List.mem_of_getElem? (i := 78) rfl) rfl
theorem wd_476 : Cond.instanceMethod yX6_writeTab ∈ wU := wU3 (List.mem_of_getElem? (i := 79) rfl) rfl
theorem wd_477 : Cond.selects RX6 yX6_writeTab yX6_writeTab ∈ wU := wU3 (List.mem_of_getElem? (i := 80) rfl) rfl
theorem wd_478 : Cond.code yX6_writeTab prog_8_method_2_code 2 none ∈ wU := wU3 (List.mem_of_getElem? (i := 81) rfl) rfl
theorem wd_479 : Cond.methodLink RX6 42 yX6_longestNumber ∈ wU := wU3 (List.mem_of_getElem? (i := 82) rfl) rfl
theorem wd_480 : Cond.instanceMethod yX6_longestNumber ∈ wU := wU3 (List.mem_of_getElem? (i := 84) rfl) rfl
theorem wd_481 : Cond.code yX6_longestNumber prog_8_method_5_code 4 (some .int) ∈ wU := wU3 (List.mem_of_getElem? (i := 85) rfl) rfl
theorem wd_482 : Cond.methodLink RX6 59 yX6_fretsBehindCapo ∈ wU := wU3 (List.mem_of_getElem? (i := 86) rfl) rfl
theorem wd_483 : Cond.instanceMethod yX6_fretsBehindCapo ∈ wU := wU3 (List.mem_of_getElem? (i := 88) rfl) rfl
theorem wd_484 : Cond.code yX6_fretsBehindCapo prog_8_method_7_code 5 (some .int) ∈ wU := wU3 (List.mem_of_getElem? (i := 89) rfl) rfl
theorem wd_485 : Cond.methodLink RX6 74 yX2_hasEvent ∈ wU := wU3 (List.mem_of_getElem? (i := 90) rfl) rfl
theorem wd_486 : Cond.methodLink RX6 79 yX8_sizeOf ∈ wU := wU3 (List.mem_of_getElem? (i := 91) rfl) rfl
theorem wd_487 : Cond.methodLink RX6 84 yX4_stringIn ∈ wU := wU3 (List.mem_of_getElem? (i := 92) rfl) rfl
theorem wd_488 : Cond.methodLink RX6 89 yX8_pitchOf ∈ wU := wU3 (List.mem_of_getElem? (i := 93) rfl) rfl
theorem wd_489 : Cond.methodLink RX6 92 yX1_fretOf ∈ wU := wU3 (List.mem_of_getElem? (i := 94) rfl) rfl
theorem wd_490 : Cond.methodLink RX6 66 yX6_lengthOf ∈ wU := wU3 (List.mem_of_getElem? (i := 95) rfl) rfl
theorem wd_491 : Cond.static yX6_lengthOf ∈ wU := wU3 (List.mem_of_getElem? (i := 96) rfl) rfl
theorem wd_492 : Cond.code yX6_lengthOf prog_8_method_6_code 1 (some .int) ∈ wU := wU3 (List.mem_of_getElem? (i := 97) rfl) rfl
theorem wd_493 : Cond.methodLink RX6 69 Lib.Math.max.name ∈ wU := wU3 (List.mem_of_getElem? (i := 98) rfl) rfl
theorem wd_494 : Cond.methodLink RX6 51 yX6_writeLine ∈ wU := wU3 (List.mem_of_getElem? (i := 99) rfl) rfl
theorem wd_495 : Cond.instanceMethod yX6_writeLine ∈ wU := wU3 (List.mem_of_getElem? (i := 101) rfl) rfl
theorem wd_496 : Cond.code yX6_writeLine prog_8_method_3_code 5 none ∈ wU := wU3 (List.mem_of_getElem? (i := 102) rfl) rfl
theorem wd_497 : Cond.methodLink RX6 55 yX7_add ∈ wU := wU3 (List.mem_of_getElem? (i := 103) rfl) rfl
theorem wd_498 : Cond.methodLink RX6 63 yX6_writeNumber ∈ wU := wU3 (List.mem_of_getElem? (i := 104) rfl) rfl
theorem wd_499 : Cond.instanceMethod yX6_writeNumber ∈ wU := wU3 (List.mem_of_getElem? (i := 106) rfl) rfl
theorem wd_500 : Cond.code yX6_writeNumber prog_8_method_4_code 3 (some .int) ∈ wU := wU3 (List.mem_of_getElem? (i := 107) rfl) rfl
theorem wd_501 : Cond.methodLink RL 105 yX9_read ∈ wU := wU3 (List.mem_of_getElem? (i := 108) rfl) rfl
theorem wd_502 : Cond.instanceMethod yX9_read ∈ wU := wU3 (List.mem_of_getElem? (i := 109) rfl) rfl
theorem wd_503 : Cond.selects RX9 yX9_read yX9_read ∈ wU := wU3 (List.mem_of_getElem? (i := 110) rfl) rfl
theorem wd_504 : Cond.code yX9_read prog_1_method_24_code 2 (some .int) ∈ wU := wU3 (List.mem_of_getElem? (i := 111) rfl) rfl
theorem wd_505 : Cond.methodLink RX9 201 yX5_findFault ∈ wU := wU3 (List.mem_of_getElem? (i := 112) rfl) rfl
theorem wd_506 : Cond.instanceMethod yX5_findFault ∈ wU := wU3 (List.mem_of_getElem? (i := 113) rfl) rfl
theorem wd_507 : Cond.selects RX5 yX5_findFault yX5_findFault ∈ wU := wU3 (List.mem_of_getElem? (i := 114) rfl) rfl
theorem wd_508 : Cond.code yX5_findFault prog_7_method_2_code 1 (some .int) ∈ wU := wU3 (List.mem_of_getElem? (i := 115) rfl) rfl
theorem wd_509 : Cond.methodLink RX5 34 yX5_wrongSign ∈ wU := wU3 (List.mem_of_getElem? (i := 116) rfl) rfl
theorem wd_510 : Cond.instanceMethod yX5_wrongSign ∈ wU := wU3 (List.mem_of_getElem? (i := 118) rfl) rfl
theorem wd_511 : Cond.code yX5_wrongSign prog_7_method_5_code 4 (some .int) ∈ wU := wU3 (List.mem_of_getElem? (i := 119) rfl) rfl
theorem wd_512 : Cond.methodLink RX5 78 yX5_measureFirstLine ∈ wU := wU3 (List.mem_of_getElem? (i := 120) rfl) rfl
theorem wd_513 : Cond.instanceMethod yX5_measureFirstLine ∈ wU := wU3 (List.mem_of_getElem? (i := 122) rfl) rfl
theorem wd_514 : Cond.code yX5_measureFirstLine prog_7_method_6_code 2 (some .int) ∈ wU := wU3 (List.mem_of_getElem? (i := 123) rfl) rfl
theorem wd_515 : Cond.methodLink RX5 96 yX7_signAt ∈ wU := wU3 (List.mem_of_getElem? (i := 124) rfl) rfl
theorem wd_516 : Cond.methodLink RX5 100 yX5_isInner ∈ wU := wU3 (List.mem_of_getElem? (i := 125) rfl) rfl
theorem wd_517 : Cond.static yX5_isInner ∈ wU := wU3 (List.mem_of_getElem? (i := 126) rfl) rfl
theorem wd_518 : Cond.code yX5_isInner prog_7_method_22_code 1 (some .boolean) ∈ wU := wU3 (List.mem_of_getElem? (i := 127) rfl) rfl
theorem wd_519 : Cond.methodLink RX5 110 yX5_isDigit ∈ wU := wU3 (List.mem_of_getElem? (i := 128) rfl) rfl
theorem wd_520 : Cond.static yX5_isDigit ∈ wU := wU3 (List.mem_of_getElem? (i := 129) rfl) rfl
theorem wd_521 : Cond.code yX5_isDigit prog_7_method_23_code 1 (some .boolean) ∈ wU := wU3 (List.mem_of_getElem? (i := 130) rfl) rfl
theorem wd_522 : Cond.methodLink RX5 81 yX5_signIn ∈ wU := wU3 (List.mem_of_getElem? (i := 131) rfl) rfl
theorem wd_523 : Cond.instanceMethod yX5_signIn ∈ wU := wU3 (List.mem_of_getElem? (i := 133) rfl) rfl
theorem wd_524 : Cond.code yX5_signIn prog_7_method_20_code 3 (some .int) ∈ wU := wU3 (List.mem_of_getElem? (i := 134) rfl) rfl
theorem wd_525 : Cond.methodLink RX5 88 yX5_placeOf ∈ wU := wU3 (List.mem_of_getElem? (i := 135) rfl) rfl
theorem wd_526 : Cond.instanceMethod yX5_placeOf ∈ wU := wU3 (List.mem_of_getElem? (i := 137) rfl) rfl
theorem wd_527 : Cond.code yX5_placeOf prog_7_method_21_code 3 (some .int) ∈ wU := wU3 (List.mem_of_getElem? (i := 138) rfl) rfl
theorem wd_528 : Cond.methodLink RX5 85 yX5_fitsColumn ∈ wU := wU3 (List.mem_of_getElem? (i := 139) rfl) rfl
theorem wd_529 : Cond.instanceMethod yX5_fitsColumn ∈ wU := wU3 (List.mem_of_getElem? (i := 141) rfl) rfl
theorem wd_530 : Cond.code yX5_fitsColumn prog_7_method_7_code 3 (some .boolean) ∈ wU := wU3 (List.mem_of_getElem? (i := 142) rfl) rfl
theorem wd_531 : Cond.methodLink RX5 38 yX5_wrongNumber ∈ wU := wU3 (List.mem_of_getElem? (i := 143) rfl) rfl
theorem wd_532 : Cond.instanceMethod yX5_wrongNumber ∈ wU := wU3 (List.mem_of_getElem? (i := 145) rfl) rfl
theorem wd_533 : Cond.code yX5_wrongNumber prog_7_method_8_code 3 (some .int) ∈ wU := wU3 (List.mem_of_getElem? (i := 146) rfl) rfl
theorem wd_534 : Cond.methodLink RX5 104 yX5_beginsNumber ∈ wU := wU3 (List.mem_of_getElem? (i := 147) rfl) rfl
theorem wd_535 : Cond.instanceMethod yX5_beginsNumber ∈ wU := wU3 (List.mem_of_getElem? (i := 149) rfl) rfl
theorem wd_536 : Cond.code yX5_beginsNumber prog_7_method_19_code 3 (some .boolean) ∈ wU := wU3 (List.mem_of_getElem? (i := 150) rfl) rfl
theorem wd_537 : Cond.methodLink RX5 107 yX5_isFretNumber ∈ wU := wU3 (List.mem_of_getElem? (i := 151) rfl) rfl
theorem wd_538 : Cond.instanceMethod yX5_isFretNumber ∈ wU := wU3 (List.mem_of_getElem? (i := 153) rfl) rfl
theorem wd_539 : Cond.code yX5_isFretNumber prog_7_method_9_code 3 (some .boolean) ∈ wU := wU3 (List.mem_of_getElem? (i := 154) rfl) rfl
theorem wd_540 : Cond.methodLink RX5 116 yX5_numberIn ∈ wU := wU3 (List.mem_of_getElem? (i := 155) rfl) rfl
theorem wd_541 : Cond.instanceMethod yX5_numberIn ∈ wU := wU3 (List.mem_of_getElem? (i := 157) rfl) rfl
theorem wd_542 : Cond.code yX5_numberIn prog_7_method_18_code 5 (some .int) ∈ wU := wU3 (List.mem_of_getElem? (i := 158) rfl) rfl
theorem wd_543 : Cond.methodLink RX5 41 yX5_shiftedNumber ∈ wU := wU3 (List.mem_of_getElem? (i := 159) rfl) rfl
theorem wd_544 : Cond.instanceMethod yX5_shiftedNumber ∈ wU := wU3 (List.mem_of_getElem? (i := 161) rfl) rfl
theorem wd_545 : Cond.code yX5_shiftedNumber prog_7_method_10_code 3 (some .int) ∈ wU := wU3 (List.mem_of_getElem? (i := 162) rfl) rfl
theorem wd_546 : Cond.methodLink RX5 122 yX5_hasSecondDigit ∈ wU := wU3 (List.mem_of_getElem? (i := 163) rfl) rfl
theorem wd_547 : Cond.instanceMethod yX5_hasSecondDigit ∈ wU := wU3 (List.mem_of_getElem? (i := 165) rfl) rfl
theorem wd_548 : Cond.code yX5_hasSecondDigit prog_7_method_11_code 3 (some .boolean) ∈ wU := wU3 (List.mem_of_getElem? (i := 166) rfl) rfl
theorem wd_549 : Cond.methodLink RX5 44 yX5_wrongEvent ∈ wU := wU3 (List.mem_of_getElem? (i := 167) rfl) rfl
theorem wd_550 : Cond.instanceMethod yX5_wrongEvent ∈ wU := wU3 (List.mem_of_getElem? (i := 169) rfl) rfl
theorem wd_551 : Cond.code yX5_wrongEvent prog_7_method_12_code 4 (some .int) ∈ wU := wU3 (List.mem_of_getElem? (i := 170) rfl) rfl
theorem wd_552 : Cond.methodLink RX5 55 yX5_loadColumn ∈ wU := wU3 (List.mem_of_getElem? (i := 171) rfl) rfl
theorem wd_553 : Cond.instanceMethod yX5_loadColumn ∈ wU := wU3 (List.mem_of_getElem? (i := 173) rfl) rfl
theorem wd_554 : Cond.code yX5_loadColumn prog_7_method_14_code 3 none ∈ wU := wU3 (List.mem_of_getElem? (i := 174) rfl) rfl
theorem wd_555 : Cond.methodLink RX5 131 yX1_pitchBehindCapo ∈ wU := wU3 (List.mem_of_getElem? (i := 175) rfl) rfl
theorem wd_556 : Cond.instanceMethod yX1_pitchBehindCapo ∈ wU := wU3 (List.mem_of_getElem? (i := 176) rfl) rfl
theorem wd_557 : Cond.selects RX1 yX1_pitchBehindCapo yX1_pitchBehindCapo ∈ wU := wU3 (List.mem_of_getElem? (i := 177) rfl) rfl
theorem wd_558 : Cond.code yX1_pitchBehindCapo prog_3_method_5_code 3 (some .int) ∈ wU := wU3 (List.mem_of_getElem? (i := 178) rfl) rfl
theorem wd_559 : Cond.methodLink RX5 125 yX5_countPitches ∈ wU := wU3 (List.mem_of_getElem? (i := 179) rfl) rfl
theorem wd_560 : Cond.instanceMethod yX5_countPitches ∈ wU := wU3 (List.mem_of_getElem? (i := 181) rfl) rfl
theorem wd_561 : Cond.code yX5_countPitches prog_7_method_15_code 3 (some .int) ∈ wU := wU3 (List.mem_of_getElem? (i := 182) rfl) rfl
theorem wd_562 : Cond.methodLink RX5 128 yX5_hasPitchTwice ∈ wU := wU3 (List.mem_of_getElem? (i := 183) rfl) rfl
theorem wd_563 : Cond.instanceMethod yX5_hasPitchTwice ∈ wU := wU3 (List.mem_of_getElem? (i := 185) rfl) rfl
theorem wd_564 : Cond.code yX5_hasPitchTwice prog_7_method_16_code 3 (some .boolean) ∈ wU := wU3 (List.mem_of_getElem? (i := 186) rfl) rfl
theorem wd_565 : Cond.methodLink RX5 59 yX5_lowestString ∈ wU := wU3 (List.mem_of_getElem? (i := 187) rfl) rfl
theorem wd_566 : Cond.instanceMethod yX5_lowestString ∈ wU := wU3 (List.mem_of_getElem? (i := 189) rfl) rfl
theorem wd_567 : Cond.code yX5_lowestString prog_7_method_17_code 2 (some .int) ∈ wU := wU3 (List.mem_of_getElem? (i := 190) rfl) rfl
theorem wd_568 : Cond.methodLink RX5 47 yX5_surplusEvent ∈ wU := wU3 (List.mem_of_getElem? (i := 191) rfl) rfl
theorem wd_569 : Cond.instanceMethod yX5_surplusEvent ∈ wU := wU3 (List.mem_of_getElem? (i := 193) rfl) rfl
theorem wd_570 : Cond.code yX5_surplusEvent prog_7_method_13_code 3 (some .int) ∈ wU := wU3 (List.mem_of_getElem? (i := 194) rfl) rfl
theorem wd_571 : Cond.methodLink RX9 205 yX5_takeEvents ∈ wU := wU3 (List.mem_of_getElem? (i := 195) rfl) rfl
theorem wd_572 : Cond.instanceMethod yX5_takeEvents ∈ wU := wU3 (List.mem_of_getElem? (i := 196) rfl) rfl
theorem wd_573 : Cond.selects RX5 yX5_takeEvents yX5_takeEvents ∈ wU := wU3 (List.mem_of_getElem? (i := 197) rfl) rfl
theorem wd_574 : Cond.code yX5_takeEvents prog_7_method_3_code 2 none ∈ wU := wU3 (List.mem_of_getElem? (i := 198) rfl) rfl
theorem wd_575 : Cond.methodLink RX5 62 yX8_addEvent ∈ wU := wU3 (List.mem_of_getElem? (i := 199) rfl) rfl
theorem wd_576 : Cond.methodLink RX5 66 yX5_takePitches ∈ wU := wU3 (List.mem_of_getElem? (i := 200) rfl) rfl
theorem wd_577 : Cond.instanceMethod yX5_takePitches ∈ wU := wU3 (List.mem_of_getElem? (i := 202) rfl) rfl
theorem wd_578 : Cond.code yX5_takePitches prog_7_method_4_code 2 none ∈ wU := wU3 (List.mem_of_getElem? (i := 203) rfl) rfl
theorem wd_579 : Cond.methodLink RX5 74 yX8_addPitch ∈ wU := wU3 (List.mem_of_getElem? (i := 204) rfl) rfl
theorem wd_580 : Cond.methodLink RL 109 yX9_place ∈ wU := wU3 (List.mem_of_getElem? (i := 205) rfl) rfl
theorem wd_581 : Cond.instanceMethod yX9_place ∈ wU := wU3 (List.mem_of_getElem? (i := 206) rfl) rfl
theorem wd_582 : Cond.selects RX9 yX9_place yX9_place ∈ wU := wU3 (List.mem_of_getElem? (i := 207) rfl) rfl
theorem wd_583 : Cond.code yX9_place prog_1_method_25_code 1 (some .int) ∈ wU := wU3 (List.mem_of_getElem? (i := 208) rfl) rfl
theorem wd_584 : Cond.classLink RL 10 RX10 ∈ wU := wU3 (List.mem_of_getElem? (i := 209) rfl) rfl
theorem wd_585 : Cond.instantiable RX10 33 ∈ wU := wU3 (List.mem_of_getElem? (i := 210) rfl) rfl
theorem wd_586 : Cond.methodLink RL 12 yX10_init ∈ wU := wU3 (List.mem_of_getElem? (i := 211) rfl) rfl
theorem wd_587 : Cond.instanceMethod yX10_init ∈ wU := wU3 (List.mem_of_getElem? (i := 212) rfl) rfl
theorem wd_588 : Cond.code yX10_init prog_12_method_1_code 1 none ∈ wU := wU3 (List.mem_of_getElem? (i := 213) rfl) rfl
theorem wd_589 : Cond.methodLink RX10 1 objectInit ∈ wU := wU3 (List.mem_of_getElem? (i := 214) rfl) rfl
theorem wd_590 : Cond.fieldLink RX10 78 RX10 "strings" "I" ∈ wU := wU3 (List.mem_of_getElem? (i := 215) rfl) rfl
theorem wd_591 : Cond.fieldLink RX10 7 RX10 "tuned" "[I" ∈ wU := wU3 (List.mem_of_getElem? (i := 216) rfl) rfl
theorem wd_592 : Cond.fieldLink RX10 13 RX10 "neck" "I" ∈ wU := wU3 (List.mem_of_getElem? (i := 217) rfl) rfl
theorem wd_593 : Cond.fieldLink RX10 92 RX10 "capo" "I" ∈ wU := wU3 (List.mem_of_getElem? (i := 218) rfl) rfl
theorem wd_594 : Cond.fieldLink RX10 17 RX10 "weights" "[I" ∈ wU := wU3 (List.mem_of_getElem? (i := 219) rfl) rfl
theorem wd_595 : Cond.fieldLink RX10 81 RX10 "events" "I" ∈ wU := wU3 (List.mem_of_getElem? (i := 220) rfl) rfl
theorem wd_596 : Cond.fieldLink RX10 20 RX10 "pitchMany" "[I" ∈ wU := wU3 (List.mem_of_getElem? (i := 221) rfl) rfl
theorem wd_597 : Cond.fieldLink RX10 23 RX10 "pitches" "[I" ∈ wU := wU3 (List.mem_of_getElem? (i := 222) rfl) rfl
theorem wd_598 : Cond.fieldLink RX10 26 RX10 "bounds" "[I" ∈ wU := wU3 (List.mem_of_getElem? (i := 223) rfl) rfl
theorem wd_599 : Cond.fieldLink RX10 88 RX10 "isFound" "Z" ∈ wU := wU3 (List.mem_of_getElem? (i := 224) rfl) rfl
theorem wd_600 : Cond.fieldLink RX10 29 RX10 "foundAt" "[I" ∈ wU := wU3 (List.mem_of_getElem? (i := 225) rfl) rfl
theorem wd_601 : Cond.fieldLink RX10 32 RX10 "foundStrings" "[I" ∈ wU := wU3 (List.mem_of_getElem? (i := 226) rfl) rfl
theorem wd_602 : Cond.fieldLink RX10 35 RX10 "foundCost" "[I" ∈ wU := wU3 (List.mem_of_getElem? (i := 227) rfl) rfl
theorem wd_603 : Cond.fieldLink RX10 38 RX10 "foundNumber" "[I" ∈ wU := wU3 (List.mem_of_getElem? (i := 228) rfl) rfl
theorem wd_604 : Cond.fieldLink RX10 106 RX10 "signs" "I" ∈ wU := wU3 (List.mem_of_getElem? (i := 229) rfl) rfl
theorem wd_605 : Cond.fieldLink RX10 41 RX10 "tape" "[I" ∈ wU := wU3 (List.mem_of_getElem? (i := 230) rfl) rfl
theorem wd_606 : Cond.fieldLink RX10 44 RX10 "faultPlace" "I" ∈ wU := wU3 (List.mem_of_getElem? (i := 231) rfl) rfl
theorem wd_607 : Cond.fieldLink RX10 113 RX10 "ways" "I" ∈ wU := wU3 (List.mem_of_getElem? (i := 232) rfl) rfl
theorem wd_608 : Cond.fieldLink RX10 47 RX10 "wayStrings" "[I" ∈ wU := wU3 (List.mem_of_getElem? (i := 233) rfl) rfl
theorem wd_609 : Cond.fieldLink RX10 50 RX10 "wayFrets" "[I" ∈ wU := wU3 (List.mem_of_getElem? (i := 234) rfl) rfl
theorem wd_610 : Cond.fieldLink RX10 53 RX10 "least" "[I" ∈ wU := wU3 (List.mem_of_getElem? (i := 235) rfl) rfl
theorem wd_611 : Cond.fieldLink RX10 56 RX10 "manyLeast" "[I" ∈ wU := wU3 (List.mem_of_getElem? (i := 236) rfl) rfl
theorem wd_612 : Cond.fieldLink RX10 59 RX10 "sums" "[I" ∈ wU := wU3 (List.mem_of_getElem? (i := 237) rfl) rfl
theorem wd_613 : Cond.fieldLink RX10 62 RX10 "rows" "[I" ∈ wU := wU3 (List.mem_of_getElem? (i := 238) rfl) rfl
theorem wd_614 : Cond.fieldLink RX10 65 RX10 "isOn" "[Z" ∈ wU := wU3 (List.mem_of_getElem? (i := 239) rfl) rfl
theorem wd_615 : Cond.fieldLink RX10 169 RX10 "at" "I" ∈ wU := wU4 (List.mem_of_getElem? (i := 0) rfl) rfl
theorem wd_616 : Cond.fieldLink RX10 180 RX10 "columns" "I" ∈ wU := wU4 (List.mem_of_getElem? (i := 1) rfl) rfl
theorem wd_617 : Cond.fieldLink RX10 171 RX10 "fault" "I" ∈ wU := wU4 (List.mem_of_getElem? (i := 2) rfl) rfl
theorem wd_618 : Cond.fieldLink RX10 174 RX10 "faultAt" "I" ∈ wU := wU4 (List.mem_of_getElem? (i := 3) rfl) rfl
theorem wd_619 : Cond.fieldLink RX10 208 RX10 "newEvents" "I" ∈ wU := wU4 (List.mem_of_getElem? (i := 4) rfl) rfl
theorem wd_620 : Cond.fieldLink RX10 69 RX10 "newMany" "[I" ∈ wU := wU4 (List.mem_of_getElem? (i := 5) rfl) rfl
theorem wd_621 : Cond.fieldLink RX10 72 RX10 "newPitches" "[I" ∈ wU := wU4 (List.mem_of_getElem? (i := 6) rfl) rfl
theorem wd_622 : Cond.fieldLink RX10 75 RX10 "newBounds" "[I" ∈ wU := wU4 (List.mem_of_getElem? (i := 7) rfl) rfl
theorem wd_623 : Cond.lays RX10 RX10 "strings" "I" ∈ wU := wU4 (List.mem_of_getElem? (i := 8) rfl) rfl
theorem wd_624 : Cond.laysFinal RX10 RX10 "tuned" "[I" ∈ wU := wU4 (List.mem_of_getElem? (i := 10) rfl) rfl
theorem wd_625 : Cond.lays RX10 RX10 "neck" "I" ∈ wU := wU4 (List.mem_of_getElem? (i := 12) rfl) rfl
theorem wd_626 : Cond.lays RX10 RX10 "capo" "I" ∈ wU := wU4 (List.mem_of_getElem? (i := 14) rfl) rfl
theorem wd_627 : Cond.laysFinal RX10 RX10 "weights" "[I" ∈ wU := wU4 (List.mem_of_getElem? (i := 16) rfl) rfl
theorem wd_628 : Cond.lays RX10 RX10 "events" "I" ∈ wU := wU4 (List.mem_of_getElem? (i := 18) rfl) rfl
theorem wd_629 : Cond.laysFinal RX10 RX10 "pitchMany" "[I" ∈ wU := wU4 (List.mem_of_getElem? (i := 20) rfl) rfl
theorem wd_630 : Cond.laysFinal RX10 RX10 "pitches" "[I" ∈ wU := wU4 (List.mem_of_getElem? (i := 22) rfl) rfl
theorem wd_631 : Cond.laysFinal RX10 RX10 "bounds" "[I" ∈ wU := wU4 (List.mem_of_getElem? (i := 24) rfl) rfl
theorem wd_632 : Cond.lays RX10 RX10 "isFound" "Z" ∈ wU := wU4 (List.mem_of_getElem? (i := 26) rfl) rfl
theorem wd_633 : Cond.laysFinal RX10 RX10 "foundAt" "[I" ∈ wU := wU4 (List.mem_of_getElem? (i := 28) rfl) rfl
theorem wd_634 : Cond.laysFinal RX10 RX10 "foundStrings" "[I" ∈ wU := wU4 (List.mem_of_getElem? (i := 30) rfl) rfl
theorem wd_635 : Cond.laysFinal RX10 RX10 "foundCost" "[I" ∈ wU := wU4 (List.mem_of_getElem? (i := 32) rfl) rfl
theorem wd_636 : Cond.laysFinal RX10 RX10 "foundNumber" "[I" ∈ wU := wU4 (List.mem_of_getElem? (i := 34) rfl) rfl
theorem wd_637 : Cond.lays RX10 RX10 "signs" "I" ∈ wU := wU4 (List.mem_of_getElem? (i := 36) rfl) rfl
theorem wd_638 : Cond.laysFinal RX10 RX10 "tape" "[I" ∈ wU := wU4 (List.mem_of_getElem? (i := 38) rfl) rfl
theorem wd_639 : Cond.lays RX10 RX10 "faultPlace" "I" ∈ wU := wU4 (List.mem_of_getElem? (i := 40) rfl) rfl
theorem wd_640 : Cond.lays RX10 RX10 "ways" "I" ∈ wU := wU4 (List.mem_of_getElem? (i := 42) rfl) rfl
theorem wd_641 : Cond.laysFinal RX10 RX10 "wayStrings" "[I" ∈ wU := wU4 (List.mem_of_getElem? (i := 44) rfl) rfl
theorem wd_642 : Cond.laysFinal RX10 RX10 "wayFrets" "[I" ∈ wU := wU4 (List.mem_of_getElem? (i := 46) rfl) rfl
theorem wd_643 : Cond.laysFinal RX10 RX10 "least" "[I" ∈ wU := wU4 (List.mem_of_getElem? (i := 48) rfl) rfl
theorem wd_644 : Cond.laysFinal RX10 RX10 "manyLeast" "[I" ∈ wU := wU4 (List.mem_of_getElem? (i := 50) rfl) rfl
theorem wd_645 : Cond.laysFinal RX10 RX10 "sums" "[I" ∈ wU := wU4 (List.mem_of_getElem? (i := 52) rfl) rfl
theorem wd_646 : Cond.laysFinal RX10 RX10 "rows" "[I" ∈ wU := wU4 (List.mem_of_getElem? (i := 54) rfl) rfl
theorem wd_647 : Cond.laysFinal RX10 RX10 "isOn" "[Z" ∈ wU := wU4 (List.mem_of_getElem? (i := 56) rfl) rfl
theorem wd_648 : Cond.lays RX10 RX10 "at" "I" ∈ wU := wU4 (List.mem_of_getElem? (i := 58) rfl) rfl
theorem wd_649 : Cond.lays RX10 RX10 "columns" "I" ∈ wU := wU4 (List.mem_of_getElem? (i := 60) rfl) rfl
theorem wd_650 : Cond.lays RX10 RX10 "fault" "I" ∈ wU := wU4 (List.mem_of_getElem? (i := 62) rfl) rfl
theorem wd_651 : Cond.lays RX10 RX10 "faultAt" "I" ∈ wU := wU4 (List.mem_of_getElem? (i := 64) rfl) rfl
theorem wd_652 : Cond.lays RX10 RX10 "newEvents" "I" ∈ wU := wU4 (List.mem_of_getElem? (i := 66) rfl) rfl
theorem wd_653 : Cond.laysFinal RX10 RX10 "newMany" "[I" ∈ wU := wU4 (List.mem_of_getElem? (i := 68) rfl) rfl
theorem wd_654 : Cond.laysFinal RX10 RX10 "newPitches" "[I" ∈ wU := wU4 (List.mem_of_getElem? (i := 70) rfl) rfl
theorem wd_655 : Cond.laysFinal RX10 RX10 "newBounds" "[I" ∈ wU := wU4 (List.mem_of_getElem? (i := 72) rfl) rfl
theorem wd_656 : Cond.arrayClass .boolean ∈ wU := wU4 (List.mem_of_getElem? (i := 75) rfl) rfl
theorem wd_657 : Cond.methodLink RL 17 yX10_string ∈ wU := wU4 (List.mem_of_getElem? (i := 76) rfl) rfl
theorem wd_658 : Cond.instanceMethod yX10_string ∈ wU := wU4 (List.mem_of_getElem? (i := 77) rfl) rfl
theorem wd_659 : Cond.selects RX10 yX10_string yX10_string ∈ wU := wU4 (List.mem_of_getElem? (i := 78) rfl) rfl
theorem wd_660 : Cond.code yX10_string prog_12_method_6_code 2 (some .int) ∈ wU := wU4 (List.mem_of_getElem? (i := 79) rfl) rfl
theorem wd_661 : Cond.methodLink RX10 84 yX10_within ∈ wU := wU4 (List.mem_of_getElem? (i := 80) rfl) rfl
theorem wd_662 : Cond.static yX10_within ∈ wU := wU4 (List.mem_of_getElem? (i := 81) rfl) rfl
theorem wd_663 : Cond.code yX10_within prog_12_method_3_code 3 (some .boolean) ∈ wU := wU4 (List.mem_of_getElem? (i := 82) rfl) rfl
theorem wd_664 : Cond.methodLink RL 22 yX10_clear ∈ wU := wU4 (List.mem_of_getElem? (i := 83) rfl) rfl
theorem wd_665 : Cond.instanceMethod yX10_clear ∈ wU := wU4 (List.mem_of_getElem? (i := 84) rfl) rfl
theorem wd_666 : Cond.selects RX10 yX10_clear yX10_clear ∈ wU := wU4 (List.mem_of_getElem? (i := 85) rfl) rfl
theorem wd_667 : Cond.code yX10_clear prog_12_method_7_code 2 (some .int) ∈ wU := wU4 (List.mem_of_getElem? (i := 86) rfl) rfl
theorem wd_668 : Cond.methodLink RL 26 yX10_neck ∈ wU := wU4 (List.mem_of_getElem? (i := 87) rfl) rfl
theorem wd_669 : Cond.instanceMethod yX10_neck ∈ wU := wU4 (List.mem_of_getElem? (i := 88) rfl) rfl
theorem wd_670 : Cond.selects RX10 yX10_neck yX10_neck ∈ wU := wU4 (List.mem_of_getElem? (i := 89) rfl) rfl
theorem wd_671 : Cond.code yX10_neck prog_12_method_8_code 3 (some .int) ∈ wU := wU4 (List.mem_of_getElem? (i := 90) rfl) rfl
theorem wd_672 : Cond.methodLink RL 30 yX10_capo ∈ wU := wU4 (List.mem_of_getElem? (i := 91) rfl) rfl
theorem wd_673 : Cond.instanceMethod yX10_capo ∈ wU := wU4 (List.mem_of_getElem? (i := 92) rfl) rfl
theorem wd_674 : Cond.selects RX10 yX10_capo yX10_capo ∈ wU := wU4 (List.mem_of_getElem? (i := 93) rfl) rfl
theorem wd_675 : Cond.code yX10_capo prog_12_method_9_code 3 (some .int) ∈ wU := wU4 (List.mem_of_getElem? (i := 94) rfl) rfl
theorem wd_676 : Cond.methodLink RL 35 yX10_weight ∈ wU := wU4 (List.mem_of_getElem? (i := 95) rfl) rfl
theorem wd_677 : Cond.instanceMethod yX10_weight ∈ wU := wU4 (List.mem_of_getElem? (i := 96) rfl) rfl
theorem wd_678 : Cond.selects RX10 yX10_weight yX10_weight ∈ wU := wU4 (List.mem_of_getElem? (i := 97) rfl) rfl
theorem wd_679 : Cond.code yX10_weight prog_12_method_10_code 4 (some .int) ∈ wU := wU4 (List.mem_of_getElem? (i := 98) rfl) rfl
theorem wd_680 : Cond.methodLink RL 39 yX10_event ∈ wU := wU4 (List.mem_of_getElem? (i := 99) rfl) rfl
theorem wd_681 : Cond.instanceMethod yX10_event ∈ wU := wU4 (List.mem_of_getElem? (i := 100) rfl) rfl
theorem wd_682 : Cond.selects RX10 yX10_event yX10_event ∈ wU := wU4 (List.mem_of_getElem? (i := 101) rfl) rfl
theorem wd_683 : Cond.code yX10_event prog_12_method_11_code 2 (some .int) ∈ wU := wU4 (List.mem_of_getElem? (i := 102) rfl) rfl
theorem wd_684 : Cond.methodLink RL 43 yX10_pitch ∈ wU := wU4 (List.mem_of_getElem? (i := 103) rfl) rfl
theorem wd_685 : Cond.instanceMethod yX10_pitch ∈ wU := wU4 (List.mem_of_getElem? (i := 104) rfl) rfl
theorem wd_686 : Cond.selects RX10 yX10_pitch yX10_pitch ∈ wU := wU4 (List.mem_of_getElem? (i := 105) rfl) rfl
theorem wd_687 : Cond.code yX10_pitch prog_12_method_13_code 3 (some .int) ∈ wU := wU4 (List.mem_of_getElem? (i := 106) rfl) rfl
theorem wd_688 : Cond.methodLink RX10 95 yX10_hasPitch ∈ wU := wU4 (List.mem_of_getElem? (i := 107) rfl) rfl
theorem wd_689 : Cond.instanceMethod yX10_hasPitch ∈ wU := wU4 (List.mem_of_getElem? (i := 109) rfl) rfl
theorem wd_690 : Cond.code yX10_hasPitch prog_12_method_12_code 5 (some .boolean) ∈ wU := wU4 (List.mem_of_getElem? (i := 110) rfl) rfl
theorem wd_691 : Cond.methodLink RL 48 yX10_bind ∈ wU := wU4 (List.mem_of_getElem? (i := 111) rfl) rfl
theorem wd_692 : Cond.instanceMethod yX10_bind ∈ wU := wU4 (List.mem_of_getElem? (i := 112) rfl) rfl
theorem wd_693 : Cond.selects RX10 yX10_bind yX10_bind ∈ wU := wU4 (List.mem_of_getElem? (i := 113) rfl) rfl
theorem wd_694 : Cond.code yX10_bind prog_12_method_14_code 5 (some .int) ∈ wU := wU4 (List.mem_of_getElem? (i := 114) rfl) rfl
theorem wd_695 : Cond.methodLink RX10 99 yX10_isEvent ∈ wU := wU4 (List.mem_of_getElem? (i := 115) rfl) rfl
theorem wd_696 : Cond.instanceMethod yX10_isEvent ∈ wU := wU4 (List.mem_of_getElem? (i := 117) rfl) rfl
theorem wd_697 : Cond.code yX10_isEvent prog_12_method_4_code 2 (some .boolean) ∈ wU := wU4 (List.mem_of_getElem? (i := 118) rfl) rfl
theorem wd_698 : Cond.methodLink RX10 103 yX10_isString ∈ wU := wU4 (List.mem_of_getElem? (i := 119) rfl) rfl
theorem wd_699 : Cond.instanceMethod yX10_isString ∈ wU := wU4 (List.mem_of_getElem? (i := 121) rfl) rfl
theorem wd_700 : Cond.code yX10_isString prog_12_method_5_code 2 (some .boolean) ∈ wU := wU4 (List.mem_of_getElem? (i := 122) rfl) rfl
theorem wd_701 : Cond.methodLink RL 52 yX10_drop ∈ wU := wU4 (List.mem_of_getElem? (i := 123) rfl) rfl
theorem wd_702 : Cond.instanceMethod yX10_drop ∈ wU := wU4 (List.mem_of_getElem? (i := 124) rfl) rfl
theorem wd_703 : Cond.selects RX10 yX10_drop yX10_drop ∈ wU := wU4 (List.mem_of_getElem? (i := 125) rfl) rfl
theorem wd_704 : Cond.code yX10_drop prog_12_method_15_code 1 (some .int) ∈ wU := wU4 (List.mem_of_getElem? (i := 126) rfl) rfl
theorem wd_705 : Cond.methodLink RL 56 yX10_told ∈ wU := wU4 (List.mem_of_getElem? (i := 127) rfl) rfl
theorem wd_706 : Cond.instanceMethod yX10_told ∈ wU := wU4 (List.mem_of_getElem? (i := 128) rfl) rfl
theorem wd_707 : Cond.selects RX10 yX10_told yX10_told ∈ wU := wU4 (List.mem_of_getElem? (i := 129) rfl) rfl
theorem wd_708 : Cond.code yX10_told prog_12_method_16_code 2 (some .int) ∈ wU := wU4 (List.mem_of_getElem? (i := 130) rfl) rfl
theorem wd_709 : Cond.methodLink RL 60 yX10_at ∈ wU := wU4 (List.mem_of_getElem? (i := 131) rfl) rfl
theorem wd_710 : Cond.instanceMethod yX10_at ∈ wU := wU4 (List.mem_of_getElem? (i := 132) rfl) rfl
theorem wd_711 : Cond.selects RX10 yX10_at yX10_at ∈ wU := wU4 (List.mem_of_getElem? (i := 133) rfl) rfl
theorem wd_712 : Cond.code yX10_at prog_12_method_17_code 3 (some .int) ∈ wU := wU4 (List.mem_of_getElem? (i := 134) rfl) rfl
theorem wd_713 : Cond.methodLink RL 64 yX10_bound ∈ wU := wU4 (List.mem_of_getElem? (i := 135) rfl) rfl
theorem wd_714 : Cond.instanceMethod yX10_bound ∈ wU := wU4 (List.mem_of_getElem? (i := 136) rfl) rfl
theorem wd_715 : Cond.selects RX10 yX10_bound yX10_bound ∈ wU := wU4 (List.mem_of_getElem? (i := 137) rfl) rfl
theorem wd_716 : Cond.code yX10_bound prog_12_method_18_code 3 (some .int) ∈ wU := wU4 (List.mem_of_getElem? (i := 138) rfl) rfl
theorem wd_717 : Cond.methodLink RL 68 yX10_fret ∈ wU := wU4 (List.mem_of_getElem? (i := 139) rfl) rfl
theorem wd_718 : Cond.instanceMethod yX10_fret ∈ wU := wU4 (List.mem_of_getElem? (i := 140) rfl) rfl
theorem wd_719 : Cond.selects RX10 yX10_fret yX10_fret ∈ wU := wU4 (List.mem_of_getElem? (i := 141) rfl) rfl
theorem wd_720 : Cond.code yX10_fret prog_12_method_20_code 3 (some .int) ∈ wU := wU4 (List.mem_of_getElem? (i := 142) rfl) rfl
theorem wd_721 : Cond.methodLink RX10 109 yX10_fretOf ∈ wU := wU4 (List.mem_of_getElem? (i := 143) rfl) rfl
theorem wd_722 : Cond.instanceMethod yX10_fretOf ∈ wU := wU4 (List.mem_of_getElem? (i := 145) rfl) rfl
theorem wd_723 : Cond.code yX10_fretOf prog_12_method_19_code 5 (some .int) ∈ wU := wU4 (List.mem_of_getElem? (i := 146) rfl) rfl
theorem wd_724 : Cond.methodLink RL 72 yX10_grips ∈ wU := wU4 (List.mem_of_getElem? (i := 147) rfl) rfl
theorem wd_725 : Cond.instanceMethod yX10_grips ∈ wU := wU4 (List.mem_of_getElem? (i := 148) rfl) rfl
theorem wd_726 : Cond.selects RX10 yX10_grips yX10_grips ∈ wU := wU4 (List.mem_of_getElem? (i := 149) rfl) rfl
theorem wd_727 : Cond.code yX10_grips prog_12_method_24_code 5 (some .int) ∈ wU := wU4 (List.mem_of_getElem? (i := 150) rfl) rfl
theorem wd_728 : Cond.methodLink RX10 116 yX10_findWays ∈ wU := wU4 (List.mem_of_getElem? (i := 151) rfl) rfl
theorem wd_729 : Cond.instanceMethod yX10_findWays ∈ wU := wU4 (List.mem_of_getElem? (i := 153) rfl) rfl
theorem wd_730 : Cond.code yX10_findWays prog_12_method_21_code 12 none ∈ wU := wU4 (List.mem_of_getElem? (i := 154) rfl) rfl
theorem wd_731 : Cond.methodLink RX10 120 yX10_isGrip ∈ wU := wU4 (List.mem_of_getElem? (i := 155) rfl) rfl
theorem wd_732 : Cond.instanceMethod yX10_isGrip ∈ wU := wU4 (List.mem_of_getElem? (i := 157) rfl) rfl
theorem wd_733 : Cond.code yX10_isGrip prog_12_method_22_code 7 (some .boolean) ∈ wU := wU4 (List.mem_of_getElem? (i := 158) rfl) rfl
theorem wd_734 : Cond.methodLink RL 76 yX10_grip ∈ wU := wU4 (List.mem_of_getElem? (i := 159) rfl) rfl
theorem wd_735 : Cond.instanceMethod yX10_grip ∈ wU := wU4 (List.mem_of_getElem? (i := 160) rfl) rfl
theorem wd_736 : Cond.selects RX10 yX10_grip yX10_grip ∈ wU := wU4 (List.mem_of_getElem? (i := 161) rfl) rfl
theorem wd_737 : Cond.code yX10_grip prog_12_method_25_code 7 (some .int) ∈ wU := wU4 (List.mem_of_getElem? (i := 162) rfl) rfl
theorem wd_738 : Cond.methodLink RX10 123 yX10_told_ ∈ wU := wU4 (List.mem_of_getElem? (i := 163) rfl) rfl
theorem wd_739 : Cond.instanceMethod yX10_told_ ∈ wU := wU4 (List.mem_of_getElem? (i := 165) rfl) rfl
theorem wd_740 : Cond.code yX10_told_ prog_12_method_26_code 5 (some .int) ∈ wU := wU4 (List.mem_of_getElem? (i := 166) rfl) rfl
theorem wd_741 : Cond.methodLink RX10 127 yX10_costOf ∈ wU := wU4 (List.mem_of_getElem? (i := 167) rfl) rfl
theorem wd_742 : Cond.instanceMethod yX10_costOf ∈ wU := wU4 (List.mem_of_getElem? (i := 169) rfl) rfl
theorem wd_743 : Cond.code yX10_costOf prog_12_method_23_code 7 (some .int) ∈ wU := wU4 (List.mem_of_getElem? (i := 170) rfl) rfl
theorem wd_744 : Cond.methodLink RL 80 yX10_plan ∈ wU := wU4 (List.mem_of_getElem? (i := 171) rfl) rfl
theorem wd_745 : Cond.instanceMethod yX10_plan ∈ wU := wU4 (List.mem_of_getElem? (i := 172) rfl) rfl
theorem wd_746 : Cond.selects RX10 yX10_plan yX10_plan ∈ wU := wU4 (List.mem_of_getElem? (i := 173) rfl) rfl
theorem wd_747 : Cond.code yX10_plan prog_12_method_35_code 5 (some .int) ∈ wU := wU4 (List.mem_of_getElem? (i := 174) rfl) rfl
theorem wd_748 : Cond.methodLink RX10 152 yX10_findSums ∈ wU := wU4 (List.mem_of_getElem? (i := 175) rfl) rfl
theorem wd_749 : Cond.instanceMethod yX10_findSums ∈ wU := wU4 (List.mem_of_getElem? (i := 177) rfl) rfl
theorem wd_750 : Cond.code yX10_findSums prog_12_method_31_code 8 (some .int) ∈ wU := wU4 (List.mem_of_getElem? (i := 178) rfl) rfl
theorem wd_751 : Cond.methodLink RX10 139 yX10_findCosts ∈ wU := wU4 (List.mem_of_getElem? (i := 179) rfl) rfl
theorem wd_752 : Cond.instanceMethod yX10_findCosts ∈ wU := wU4 (List.mem_of_getElem? (i := 181) rfl) rfl
theorem wd_753 : Cond.code yX10_findCosts prog_12_method_28_code 7 none ∈ wU := wU4 (List.mem_of_getElem? (i := 182) rfl) rfl
theorem wd_754 : Cond.constant RX10 131 100000000 ∈ wU := wU4 (List.mem_of_getElem? (i := 183) rfl) rfl
theorem wd_755 : Cond.methodLink RX10 132 yX10_at_ ∈ wU := wU4 (List.mem_of_getElem? (i := 184) rfl) rfl
theorem wd_756 : Cond.static yX10_at_ ∈ wU := wU4 (List.mem_of_getElem? (i := 185) rfl) rfl
theorem wd_757 : Cond.code yX10_at_ prog_12_method_27_code 1 (some .int) ∈ wU := wU4 (List.mem_of_getElem? (i := 186) rfl) rfl
theorem wd_758 : Cond.methodLink RX10 142 yX10_move ∈ wU := wU4 (List.mem_of_getElem? (i := 187) rfl) rfl
theorem wd_759 : Cond.instanceMethod yX10_move ∈ wU := wU4 (List.mem_of_getElem? (i := 189) rfl) rfl
theorem wd_760 : Cond.code yX10_move prog_12_method_29_code 3 (some .int) ∈ wU := wU4 (List.mem_of_getElem? (i := 190) rfl) rfl
theorem wd_761 : Cond.methodLink RX10 145 yX10_few ∈ wU := wU4 (List.mem_of_getElem? (i := 191) rfl) rfl
theorem wd_762 : Cond.static yX10_few ∈ wU := wU4 (List.mem_of_getElem? (i := 192) rfl) rfl
theorem wd_763 : Cond.code yX10_few prog_12_method_30_code 2 (some .int) ∈ wU := wU4 (List.mem_of_getElem? (i := 193) rfl) rfl
theorem wd_764 : Cond.constantLong RX10 136 999999 ∈ wU := wU4 (List.mem_of_getElem? (i := 194) rfl) rfl
theorem wd_765 : Cond.constant RX10 138 999999 ∈ wU := wU4 (List.mem_of_getElem? (i := 195) rfl) rfl
theorem wd_766 : Cond.methodLink RX10 156 yX10_markBack ∈ wU := wU4 (List.mem_of_getElem? (i := 196) rfl) rfl
theorem wd_767 : Cond.instanceMethod yX10_markBack ∈ wU := wU4 (List.mem_of_getElem? (i := 198) rfl) rfl
theorem wd_768 : Cond.code yX10_markBack prog_12_method_33_code 6 none ∈ wU := wU4 (List.mem_of_getElem? (i := 199) rfl) rfl
theorem wd_769 : Cond.methodLink RX10 149 yX10_goesOn ∈ wU := wU4 (List.mem_of_getElem? (i := 200) rfl) rfl
theorem wd_770 : Cond.instanceMethod yX10_goesOn ∈ wU := wU4 (List.mem_of_getElem? (i := 202) rfl) rfl
theorem wd_771 : Cond.code yX10_goesOn prog_12_method_32_code 4 (some .boolean) ∈ wU := wU4 (List.mem_of_getElem? (i := 203) rfl) rfl
theorem wd_772 : Cond.methodLink RX10 159 yX10_takes ∈ wU := wU4 (List.mem_of_getElem? (i := 204) rfl) rfl
theorem wd_773 : Cond.instanceMethod yX10_takes ∈ wU := wU4 (List.mem_of_getElem? (i := 206) rfl) rfl
theorem wd_774 : Cond.code yX10_takes prog_12_method_34_code 8 none ∈ wU := wU4 (List.mem_of_getElem? (i := 207) rfl) rfl
theorem wd_775 : Cond.methodLink RL 84 yX10_planned ∈ wU := wU4 (List.mem_of_getElem? (i := 208) rfl) rfl
theorem wd_776 : Cond.instanceMethod yX10_planned ∈ wU := wU4 (List.mem_of_getElem? (i := 209) rfl) rfl
theorem wd_777 : Cond.selects RX10 yX10_planned yX10_planned ∈ wU := wU4 (List.mem_of_getElem? (i := 210) rfl) rfl
theorem wd_778 : Cond.code yX10_planned prog_12_method_36_code 3 (some .int) ∈ wU := wU4 (List.mem_of_getElem? (i := 211) rfl) rfl
theorem wd_779 : Cond.methodLink RL 88 yX10_ties ∈ wU := wU4 (List.mem_of_getElem? (i := 212) rfl) rfl
theorem wd_780 : Cond.instanceMethod yX10_ties ∈ wU := wU4 (List.mem_of_getElem? (i := 213) rfl) rfl
theorem wd_781 : Cond.selects RX10 yX10_ties yX10_ties ∈ wU := wU4 (List.mem_of_getElem? (i := 214) rfl) rfl
theorem wd_782 : Cond.code yX10_ties prog_12_method_37_code 5 (some .int) ∈ wU := wU4 (List.mem_of_getElem? (i := 215) rfl) rfl
theorem wd_783 : Cond.methodLink RL 92 yX10_sign ∈ wU := wU4 (List.mem_of_getElem? (i := 216) rfl) rfl
theorem wd_784 : Cond.instanceMethod yX10_sign ∈ wU := wU4 (List.mem_of_getElem? (i := 217) rfl) rfl
theorem wd_785 : Cond.selects RX10 yX10_sign yX10_sign ∈ wU := wU4 (List.mem_of_getElem? (i := 218) rfl) rfl
theorem wd_786 : Cond.code yX10_sign prog_12_method_38_code 2 (some .int) ∈ wU := wU4 (List.mem_of_getElem? (i := 219) rfl) rfl
theorem wd_787 : Cond.methodLink RX10 163 yX10_put ∈ wU := wU4 (List.mem_of_getElem? (i := 220) rfl) rfl
theorem wd_788 : Cond.instanceMethod yX10_put ∈ wU := wU4 (List.mem_of_getElem? (i := 222) rfl) rfl
theorem wd_789 : Cond.code yX10_put prog_12_method_39_code 2 none ∈ wU := wU4 (List.mem_of_getElem? (i := 223) rfl) rfl
theorem wd_790 : Cond.methodLink RL 96 yX10_tape ∈ wU := wU4 (List.mem_of_getElem? (i := 224) rfl) rfl
theorem wd_791 : Cond.instanceMethod yX10_tape ∈ wU := wU4 (List.mem_of_getElem? (i := 225) rfl) rfl
theorem wd_792 : Cond.selects RX10 yX10_tape yX10_tape ∈ wU := wU4 (List.mem_of_getElem? (i := 226) rfl) rfl
theorem wd_793 : Cond.code yX10_tape prog_12_method_40_code 2 (some .int) ∈ wU := wU4 (List.mem_of_getElem? (i := 227) rfl) rfl
theorem wd_794 : Cond.methodLink RL 100 yX10_empty ∈ wU := wU4 (List.mem_of_getElem? (i := 228) rfl) rfl
theorem wd_795 : Cond.instanceMethod yX10_empty ∈ wU := wU4 (List.mem_of_getElem? (i := 229) rfl) rfl
theorem wd_796 : Cond.selects RX10 yX10_empty yX10_empty ∈ wU := wU4 (List.mem_of_getElem? (i := 230) rfl) rfl
theorem wd_797 : Cond.code yX10_empty prog_12_method_41_code 2 (some .int) ∈ wU := wU4 (List.mem_of_getElem? (i := 231) rfl) rfl
theorem wd_798 : Cond.methodLink RL 104 yX10_write ∈ wU := wU4 (List.mem_of_getElem? (i := 232) rfl) rfl
theorem wd_799 : Cond.instanceMethod yX10_write ∈ wU := wU4 (List.mem_of_getElem? (i := 233) rfl) rfl
theorem wd_800 : Cond.selects RX10 yX10_write yX10_write ∈ wU := wU4 (List.mem_of_getElem? (i := 234) rfl) rfl
theorem wd_801 : Cond.code yX10_write prog_12_method_43_code 6 (some .int) ∈ wU := wU4 (List.mem_of_getElem? (i := 235) rfl) rfl
theorem wd_802 : Cond.methodLink RX10 166 yX10_numberOn ∈ wU := wU4 (List.mem_of_getElem? (i := 236) rfl) rfl
theorem wd_803 : Cond.instanceMethod yX10_numberOn ∈ wU := wU4 (List.mem_of_getElem? (i := 238) rfl) rfl
theorem wd_804 : Cond.code yX10_numberOn prog_12_method_42_code 4 (some .int) ∈ wU := wU4 (List.mem_of_getElem? (i := 239) rfl) rfl
theorem wd_805 : Cond.methodLink RL 108 yX10_read ∈ wU := wU5 (List.mem_of_getElem? (i := 0) rfl) rfl
theorem wd_806 : Cond.instanceMethod yX10_read ∈ wU := wU5 (List.mem_of_getElem? (i := 1) rfl) rfl
theorem wd_807 : Cond.selects RX10 yX10_read yX10_read ∈ wU := wU5 (List.mem_of_getElem? (i := 2) rfl) rfl
theorem wd_808 : Cond.code yX10_read prog_12_method_56_code 3 (some .int) ∈ wU := wU5 (List.mem_of_getElem? (i := 3) rfl) rfl
theorem wd_809 : Cond.methodLink RX10 211 yX10_readLines ∈ wU := wU5 (List.mem_of_getElem? (i := 4) rfl) rfl
theorem wd_810 : Cond.instanceMethod yX10_readLines ∈ wU := wU5 (List.mem_of_getElem? (i := 6) rfl) rfl
theorem wd_811 : Cond.code yX10_readLines prog_12_method_48_code 3 none ∈ wU := wU5 (List.mem_of_getElem? (i := 7) rfl) rfl
theorem wd_812 : Cond.methodLink RX10 183 yX10_look ∈ wU := wU5 (List.mem_of_getElem? (i := 8) rfl) rfl
theorem wd_813 : Cond.instanceMethod yX10_look ∈ wU := wU5 (List.mem_of_getElem? (i := 10) rfl) rfl
theorem wd_814 : Cond.code yX10_look prog_12_method_44_code 1 (some .int) ∈ wU := wU5 (List.mem_of_getElem? (i := 11) rfl) rfl
theorem wd_815 : Cond.methodLink RX10 186 yX10_wants ∈ wU := wU5 (List.mem_of_getElem? (i := 12) rfl) rfl
theorem wd_816 : Cond.instanceMethod yX10_wants ∈ wU := wU5 (List.mem_of_getElem? (i := 14) rfl) rfl
theorem wd_817 : Cond.code yX10_wants prog_12_method_47_code 2 none ∈ wU := wU5 (List.mem_of_getElem? (i := 15) rfl) rfl
theorem wd_818 : Cond.methodLink RX10 177 yX10_faults ∈ wU := wU5 (List.mem_of_getElem? (i := 16) rfl) rfl
theorem wd_819 : Cond.instanceMethod yX10_faults ∈ wU := wU5 (List.mem_of_getElem? (i := 18) rfl) rfl
theorem wd_820 : Cond.code yX10_faults prog_12_method_46_code 3 none ∈ wU := wU5 (List.mem_of_getElem? (i := 19) rfl) rfl
theorem wd_821 : Cond.methodLink RX10 190 yX10_isFigure ∈ wU := wU5 (List.mem_of_getElem? (i := 20) rfl) rfl
theorem wd_822 : Cond.static yX10_isFigure ∈ wU := wU5 (List.mem_of_getElem? (i := 21) rfl) rfl
theorem wd_823 : Cond.code yX10_isFigure prog_12_method_45_code 1 (some .boolean) ∈ wU := wU5 (List.mem_of_getElem? (i := 22) rfl) rfl
theorem wd_824 : Cond.methodLink RX10 214 yX10_lookNumbers ∈ wU := wU5 (List.mem_of_getElem? (i := 23) rfl) rfl
theorem wd_825 : Cond.instanceMethod yX10_lookNumbers ∈ wU := wU5 (List.mem_of_getElem? (i := 25) rfl) rfl
theorem wd_826 : Cond.code yX10_lookNumbers prog_12_method_54_code 6 none ∈ wU := wU5 (List.mem_of_getElem? (i := 26) rfl) rfl
theorem wd_827 : Cond.methodLink RX10 202 yX10_begins ∈ wU := wU5 (List.mem_of_getElem? (i := 27) rfl) rfl
theorem wd_828 : Cond.instanceMethod yX10_begins ∈ wU := wU5 (List.mem_of_getElem? (i := 29) rfl) rfl
theorem wd_829 : Cond.code yX10_begins prog_12_method_51_code 3 (some .boolean) ∈ wU := wU5 (List.mem_of_getElem? (i := 30) rfl) rfl
theorem wd_830 : Cond.methodLink RX10 196 yX10_isFigureAt ∈ wU := wU5 (List.mem_of_getElem? (i := 31) rfl) rfl
theorem wd_831 : Cond.instanceMethod yX10_isFigureAt ∈ wU := wU5 (List.mem_of_getElem? (i := 33) rfl) rfl
theorem wd_832 : Cond.code yX10_isFigureAt prog_12_method_50_code 3 (some .boolean) ∈ wU := wU5 (List.mem_of_getElem? (i := 34) rfl) rfl
theorem wd_833 : Cond.methodLink RX10 193 yX10_placeOf ∈ wU := wU5 (List.mem_of_getElem? (i := 35) rfl) rfl
theorem wd_834 : Cond.instanceMethod yX10_placeOf ∈ wU := wU5 (List.mem_of_getElem? (i := 37) rfl) rfl
theorem wd_835 : Cond.code yX10_placeOf prog_12_method_49_code 3 (some .int) ∈ wU := wU5 (List.mem_of_getElem? (i := 38) rfl) rfl
theorem wd_836 : Cond.methodLink RX10 199 yX10_lengthAt ∈ wU := wU5 (List.mem_of_getElem? (i := 39) rfl) rfl
theorem wd_837 : Cond.instanceMethod yX10_lengthAt ∈ wU := wU5 (List.mem_of_getElem? (i := 41) rfl) rfl
theorem wd_838 : Cond.code yX10_lengthAt prog_12_method_52_code 4 (some .int) ∈ wU := wU5 (List.mem_of_getElem? (i := 42) rfl) rfl
theorem wd_839 : Cond.methodLink RX10 205 yX10_valueAt ∈ wU := wU5 (List.mem_of_getElem? (i := 43) rfl) rfl
theorem wd_840 : Cond.instanceMethod yX10_valueAt ∈ wU := wU5 (List.mem_of_getElem? (i := 45) rfl) rfl
theorem wd_841 : Cond.code yX10_valueAt prog_12_method_53_code 4 (some .int) ∈ wU := wU5 (List.mem_of_getElem? (i := 46) rfl) rfl
theorem wd_842 : Cond.methodLink RX10 217 yX10_lookEvents ∈ wU := wU5 (List.mem_of_getElem? (i := 47) rfl) rfl
theorem wd_843 : Cond.instanceMethod yX10_lookEvents ∈ wU := wU5 (List.mem_of_getElem? (i := 49) rfl) rfl
theorem wd_844 : Cond.code yX10_lookEvents prog_12_method_55_code 9 none ∈ wU := wU5 (List.mem_of_getElem? (i := 50) rfl) rfl
theorem wd_845 : Cond.methodLink RL 112 yX10_place ∈ wU := wU5 (List.mem_of_getElem? (i := 51) rfl) rfl
theorem wd_846 : Cond.instanceMethod yX10_place ∈ wU := wU5 (List.mem_of_getElem? (i := 52) rfl) rfl
theorem wd_847 : Cond.selects RX10 yX10_place yX10_place ∈ wU := wU5 (List.mem_of_getElem? (i := 53) rfl) rfl
theorem wd_848 : Cond.code yX10_place prog_12_method_57_code 1 (some .int) ∈ wU := wU5 (List.mem_of_getElem? (i := 54) rfl) rfl
theorem wd_849 : Cond.selects RX0 yX0_goThrough yX0_goThrough ∈ wU := wUs (List.mem_of_getElem? (i := 0) rfl) rfl
theorem wd_850 : Cond.selects RX0 yX0_layFrom yX0_layFrom ∈ wU := wUs (List.mem_of_getElem? (i := 1) rfl) rfl
theorem wd_851 : Cond.selects RX0 yX0_tellPositions yX0_tellPositions ∈ wU := wUs (List.mem_of_getElem? (i := 2) rfl) rfl
theorem wd_852 : Cond.selects RX0 yX0_pitchesAt yX0_pitchesAt ∈ wU := wUs (List.mem_of_getElem? (i := 3) rfl) rfl
theorem wd_853 : Cond.selects RX0 yX0_tell yX0_tell ∈ wU := wUs (List.mem_of_getElem? (i := 4) rfl) rfl
theorem wd_854 : Cond.selects RX9 yX9_partOf yX9_partOf ∈ wU := wUs (List.mem_of_getElem? (i := 5) rfl) rfl
theorem wd_855 : Cond.selects RX3 yX3_fillCell yX3_fillCell ∈ wU := wUs (List.mem_of_getElem? (i := 6) rfl) rfl
theorem wd_856 : Cond.selects RX3 yX3_weighRest yX3_weighRest ∈ wU := wUs (List.mem_of_getElem? (i := 7) rfl) rfl
theorem wd_857 : Cond.selects RX3 yX3_sumFrom yX3_sumFrom ∈ wU := wUs (List.mem_of_getElem? (i := 8) rfl) rfl
theorem wd_858 : Cond.selects RX3 yX3_waysAt yX3_waysAt ∈ wU := wUs (List.mem_of_getElem? (i := 9) rfl) rfl
theorem wd_859 : Cond.selects RX3 yX3_firstBest yX3_firstBest ∈ wU := wUs (List.mem_of_getElem? (i := 10) rfl) rfl
theorem wd_860 : Cond.selects RX6 yX6_longestNumber yX6_longestNumber ∈ wU := wUs (List.mem_of_getElem? (i := 11) rfl) rfl
theorem wd_861 : Cond.selects RX6 yX6_fretsBehindCapo yX6_fretsBehindCapo ∈ wU := wUs (List.mem_of_getElem? (i := 12) rfl) rfl
theorem wd_862 : Cond.selects RX6 yX6_writeLine yX6_writeLine ∈ wU := wUs (List.mem_of_getElem? (i := 13) rfl) rfl
theorem wd_863 : Cond.selects RX6 yX6_writeNumber yX6_writeNumber ∈ wU := wUs (List.mem_of_getElem? (i := 14) rfl) rfl
theorem wd_864 : Cond.selects RX5 yX5_wrongSign yX5_wrongSign ∈ wU := wUs (List.mem_of_getElem? (i := 15) rfl) rfl
theorem wd_865 : Cond.selects RX5 yX5_measureFirstLine yX5_measureFirstLine ∈ wU := wUs (List.mem_of_getElem? (i := 16) rfl) rfl
theorem wd_866 : Cond.selects RX5 yX5_signIn yX5_signIn ∈ wU := wUs (List.mem_of_getElem? (i := 17) rfl) rfl
theorem wd_867 : Cond.selects RX5 yX5_placeOf yX5_placeOf ∈ wU := wUs (List.mem_of_getElem? (i := 18) rfl) rfl
theorem wd_868 : Cond.selects RX5 yX5_fitsColumn yX5_fitsColumn ∈ wU := wUs (List.mem_of_getElem? (i := 19) rfl) rfl
theorem wd_869 : Cond.selects RX5 yX5_wrongNumber yX5_wrongNumber ∈ wU := wUs (List.mem_of_getElem? (i := 20) rfl) rfl
theorem wd_870 : Cond.selects RX5 yX5_beginsNumber yX5_beginsNumber ∈ wU := wUs (List.mem_of_getElem? (i := 21) rfl) rfl
theorem wd_871 : Cond.selects RX5 yX5_isFretNumber yX5_isFretNumber ∈ wU := wUs (List.mem_of_getElem? (i := 22) rfl) rfl
theorem wd_872 : Cond.selects RX5 yX5_numberIn yX5_numberIn ∈ wU := wUs (List.mem_of_getElem? (i := 23) rfl) rfl
theorem wd_873 : Cond.selects RX5 yX5_shiftedNumber yX5_shiftedNumber ∈ wU := wUs (List.mem_of_getElem? (i := 24) rfl) rfl
theorem wd_874 : Cond.selects RX5 yX5_hasSecondDigit yX5_hasSecondDigit ∈ wU := wUs (List.mem_of_getElem? (i := 25) rfl) rfl
theorem wd_875 : Cond.selects RX5 yX5_wrongEvent yX5_wrongEvent ∈ wU := wUs (List.mem_of_getElem? (i := 26) rfl) rfl
theorem wd_876 : Cond.selects RX5 yX5_loadColumn yX5_loadColumn ∈ wU := wUs (List.mem_of_getElem? (i := 27) rfl) rfl
theorem wd_877 : Cond.selects RX5 yX5_countPitches yX5_countPitches ∈ wU := wUs (List.mem_of_getElem? (i := 28) rfl) rfl
theorem wd_878 : Cond.selects RX5 yX5_hasPitchTwice yX5_hasPitchTwice ∈ wU := wUs (List.mem_of_getElem? (i := 29) rfl) rfl
theorem wd_879 : Cond.selects RX5 yX5_lowestString yX5_lowestString ∈ wU := wUs (List.mem_of_getElem? (i := 30) rfl) rfl
theorem wd_880 : Cond.selects RX5 yX5_surplusEvent yX5_surplusEvent ∈ wU := wUs (List.mem_of_getElem? (i := 31) rfl) rfl
theorem wd_881 : Cond.selects RX5 yX5_takePitches yX5_takePitches ∈ wU := wUs (List.mem_of_getElem? (i := 32) rfl) rfl
theorem wd_882 : Cond.selects RX10 yX10_hasPitch yX10_hasPitch ∈ wU := wUs (List.mem_of_getElem? (i := 33) rfl) rfl
theorem wd_883 : Cond.selects RX10 yX10_isEvent yX10_isEvent ∈ wU := wUs (List.mem_of_getElem? (i := 34) rfl) rfl
theorem wd_884 : Cond.selects RX10 yX10_isString yX10_isString ∈ wU := wUs (List.mem_of_getElem? (i := 35) rfl) rfl
theorem wd_885 : Cond.selects RX10 yX10_fretOf yX10_fretOf ∈ wU := wUs (List.mem_of_getElem? (i := 36) rfl) rfl
theorem wd_886 : Cond.selects RX10 yX10_findWays yX10_findWays ∈ wU := wUs (List.mem_of_getElem? (i := 37) rfl) rfl
theorem wd_887 : Cond.selects RX10 yX10_isGrip yX10_isGrip ∈ wU := wUs (List.mem_of_getElem? (i := 38) rfl) rfl
theorem wd_888 : Cond.selects RX10 yX10_told_ yX10_told_ ∈ wU := wUs (List.mem_of_getElem? (i := 39) rfl) rfl
theorem wd_889 : Cond.selects RX10 yX10_costOf yX10_costOf ∈ wU := wUs (List.mem_of_getElem? (i := 40) rfl) rfl
theorem wd_890 : Cond.selects RX10 yX10_findSums yX10_findSums ∈ wU := wUs (List.mem_of_getElem? (i := 41) rfl) rfl
theorem wd_891 : Cond.selects RX10 yX10_findCosts yX10_findCosts ∈ wU := wUs (List.mem_of_getElem? (i := 42) rfl) rfl
theorem wd_892 : Cond.selects RX10 yX10_move yX10_move ∈ wU := wUs (List.mem_of_getElem? (i := 43) rfl) rfl
theorem wd_893 : Cond.selects RX10 yX10_markBack yX10_markBack ∈ wU := wUs (List.mem_of_getElem? (i := 44) rfl) rfl
theorem wd_894 : Cond.selects RX10 yX10_goesOn yX10_goesOn ∈ wU := wUs (List.mem_of_getElem? (i := 45) rfl) rfl
theorem wd_895 : Cond.selects RX10 yX10_takes yX10_takes ∈ wU := wUs (List.mem_of_getElem? (i := 46) rfl) rfl
theorem wd_896 : Cond.selects RX10 yX10_put yX10_put ∈ wU := wUs (List.mem_of_getElem? (i := 47) rfl) rfl
theorem wd_897 : Cond.selects RX10 yX10_numberOn yX10_numberOn ∈ wU := wUs (List.mem_of_getElem? (i := 48) rfl) rfl
theorem wd_898 : Cond.selects RX10 yX10_readLines yX10_readLines ∈ wU := wUs (List.mem_of_getElem? (i := 49) rfl) rfl
theorem wd_899 : Cond.selects RX10 yX10_look yX10_look ∈ wU := wUs (List.mem_of_getElem? (i := 50) rfl) rfl
theorem wd_900 : Cond.selects RX10 yX10_wants yX10_wants ∈ wU := wUs (List.mem_of_getElem? (i := 51) rfl) rfl
theorem wd_901 : Cond.selects RX10 yX10_faults yX10_faults ∈ wU := wUs (List.mem_of_getElem? (i := 52) rfl) rfl
theorem wd_902 : Cond.selects RX10 yX10_lookNumbers yX10_lookNumbers ∈ wU := wUs (List.mem_of_getElem? (i := 53) rfl) rfl
theorem wd_903 : Cond.selects RX10 yX10_begins yX10_begins ∈ wU := wUs (List.mem_of_getElem? (i := 54) rfl) rfl
theorem wd_904 : Cond.selects RX10 yX10_isFigureAt yX10_isFigureAt ∈ wU := wUs (List.mem_of_getElem? (i := 55) rfl) rfl
theorem wd_905 : Cond.selects RX10 yX10_placeOf yX10_placeOf ∈ wU := wUs (List.mem_of_getElem? (i := 56) rfl) rfl
theorem wd_906 : Cond.selects RX10 yX10_lengthAt yX10_lengthAt ∈ wU := wUs (List.mem_of_getElem? (i := 57) rfl) rfl
theorem wd_907 : Cond.selects RX10 yX10_valueAt yX10_valueAt ∈ wU := wUs (List.mem_of_getElem? (i := 58) rfl) rfl
theorem wd_908 : Cond.selects RX10 yX10_lookEvents yX10_lookEvents ∈ wU := wUs (List.mem_of_getElem? (i := 59) rfl) rfl
theorem ulX0 : ∀ k, k < 16 → u_lay RX0 TX0 k ∈ wU := fun k hk => match k, hk with
  | 0, _ => wd_115
  | 1, _ => wd_116
  | 2, _ => wd_117
  | 3, _ => wd_118
  | 4, _ => wd_119
  | 5, _ => wd_120
  | 6, _ => wd_121
  | 7, _ => wd_122
  | 8, _ => wd_123
  | 9, _ => wd_124
  | 10, _ => wd_125
  | 11, _ => wd_126
  | 12, _ => wd_127
  | 13, _ => wd_128
  | 14, _ => wd_129
  | 15, _ => wd_130
  | n + 16, h => absurd h (by omega)
theorem inX0 : ∀ w ∈ u_ws RX0 TX0 16, w ∈ wU := fun w h => by
  obtain ⟨k, hk, rfl⟩ := List.mem_map.mp h
  exact ulX0 k (List.mem_range.mp hk)
theorem ulX1 : ∀ k, k < 4 → u_lay RX1 TX1 k ∈ wU := fun k hk => match k, hk with
  | 0, _ => wd_43
  | 1, _ => wd_44
  | 2, _ => wd_45
  | 3, _ => wd_46
  | n + 4, h => absurd h (by omega)
theorem inX1 : ∀ w ∈ u_ws RX1 TX1 4, w ∈ wU := fun w h => by
  obtain ⟨k, hk, rfl⟩ := List.mem_map.mp h
  exact ulX1 k (List.mem_range.mp hk)
theorem ulX2 : ∀ k, k < 5 → u_lay RX2 TX2 k ∈ wU := fun k hk => match k, hk with
  | 0, _ => wd_80
  | 1, _ => wd_81
  | 2, _ => wd_82
  | 3, _ => wd_83
  | 4, _ => wd_84
  | n + 5, h => absurd h (by omega)
theorem inX2 : ∀ w ∈ u_ws RX2 TX2 5, w ∈ wU := fun w h => by
  obtain ⟨k, hk, rfl⟩ := List.mem_map.mp h
  exact ulX2 k (List.mem_range.mp hk)
theorem ulX3 : ∀ k, k < 8 → u_lay RX3 TX3 k ∈ wU := fun k hk => match k, hk with
  | 0, _ => wd_147
  | 1, _ => wd_148
  | 2, _ => wd_149
  | 3, _ => wd_150
  | 4, _ => wd_151
  | 5, _ => wd_152
  | 6, _ => wd_153
  | 7, _ => wd_154
  | n + 8, h => absurd h (by omega)
theorem inX3 : ∀ w ∈ u_ws RX3 TX3 8, w ∈ wU := fun w h => by
  obtain ⟨k, hk, rfl⟩ := List.mem_map.mp h
  exact ulX3 k (List.mem_range.mp hk)
theorem ulX5 : ∀ k, k < 6 → u_lay RX5 TX5 k ∈ wU := fun k hk => match k, hk with
  | 0, _ => wd_196
  | 1, _ => wd_197
  | 2, _ => wd_198
  | 3, _ => wd_199
  | 4, _ => wd_200
  | 5, _ => wd_201
  | n + 6, h => absurd h (by omega)
theorem inX5 : ∀ w ∈ u_ws RX5 TX5 6, w ∈ wU := fun w h => by
  obtain ⟨k, hk, rfl⟩ := List.mem_map.mp h
  exact ulX5 k (List.mem_range.mp hk)
theorem ulX6 : ∀ k, k < 5 → u_lay RX6 TX6 k ∈ wU := fun k hk => match k, hk with
  | 0, _ => wd_178
  | 1, _ => wd_179
  | 2, _ => wd_180
  | 3, _ => wd_181
  | 4, _ => wd_182
  | n + 5, h => absurd h (by omega)
theorem inX6 : ∀ w ∈ u_ws RX6 TX6 5, w ∈ wU := fun w h => by
  obtain ⟨k, hk, rfl⟩ := List.mem_map.mp h
  exact ulX6 k (List.mem_range.mp hk)
theorem ulX7 : ∀ k, k < 2 → u_lay RX7 TX7 k ∈ wU := fun k hk => match k, hk with
  | 0, _ => wd_165
  | 1, _ => wd_166
  | n + 2, h => absurd h (by omega)
theorem inX7 : ∀ w ∈ u_ws RX7 TX7 2, w ∈ wU := fun w h => by
  obtain ⟨k, hk, rfl⟩ := List.mem_map.mp h
  exact ulX7 k (List.mem_range.mp hk)
theorem ulX8 : ∀ k, k < 4 → u_lay RX8 TX8 k ∈ wU := fun k hk => match k, hk with
  | 0, _ => wd_61
  | 1, _ => wd_62
  | 2, _ => wd_63
  | 3, _ => wd_64
  | n + 4, h => absurd h (by omega)
theorem inX8 : ∀ w ∈ u_ws RX8 TX8 4, w ∈ wU := fun w h => by
  obtain ⟨k, hk, rfl⟩ := List.mem_map.mp h
  exact ulX8 k (List.mem_range.mp hk)
theorem ulX9 : ∀ k, k < 9 → u_lay RX9 TX9 k ∈ wU := fun k hk => match k, hk with
  | 0, _ => wd_211
  | 1, _ => wd_212
  | 2, _ => wd_213
  | 3, _ => wd_214
  | 4, _ => wd_215
  | 5, _ => wd_216
  | 6, _ => wd_217
  | 7, _ => wd_218
  | 8, _ => wd_219
  | n + 9, h => absurd h (by omega)
theorem inX9 : ∀ w ∈ u_ws RX9 TX9 9, w ∈ wU := fun w h => by
  obtain ⟨k, hk, rfl⟩ := List.mem_map.mp h
  exact ulX9 k (List.mem_range.mp hk)
theorem ulX10 : ∀ k, k < 33 → u_lay RX10 TX10 k ∈ wU := fun k hk => match k, hk with
  | 0, _ => wd_623
  | 1, _ => wd_624
  | 2, _ => wd_625
  | 3, _ => wd_626
  | 4, _ => wd_627
  | 5, _ => wd_628
  | 6, _ => wd_629
  | 7, _ => wd_630
  | 8, _ => wd_631
  | 9, _ => wd_632
  | 10, _ => wd_633
  | 11, _ => wd_634
  | 12, _ => wd_635
  | 13, _ => wd_636
  | 14, _ => wd_637
  | 15, _ => wd_638
  | 16, _ => wd_639
  | 17, _ => wd_640
  | 18, _ => wd_641
  | 19, _ => wd_642
  | 20, _ => wd_643
  | 21, _ => wd_644
  | 22, _ => wd_645
  | 23, _ => wd_646
  | 24, _ => wd_647
  | 25, _ => wd_648
  | 26, _ => wd_649
  | 27, _ => wd_650
  | 28, _ => wd_651
  | 29, _ => wd_652
  | 30, _ => wd_653
  | 31, _ => wd_654
  | 32, _ => wd_655
  | n + 33, h => absurd h (by omega)
theorem inX10 : ∀ w ∈ u_ws RX10 TX10 33, w ∈ wU := fun w h => by
  obtain ⟨k, hk, rfl⟩ := List.mem_map.mp h
  exact ulX10 k (List.mem_range.mp hk)
