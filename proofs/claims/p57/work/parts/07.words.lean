def TW : List Cond := lw_tbl.filter goodWord
theorem inL_1 : ∀ w ∈ tables_1_1, w ∈ lw_tbl := fun w h => List.mem_append_right _ (by unfold tables_1; exact List.mem_append_left _ h)
theorem inC_1 (w : Cond) (h : w ∈ tables_1_1) (hg : goodWord w = true) : w ∈ TW := List.mem_filter.mpr ⟨List.mem_append_right _ (by unfold tables_1; exact List.mem_append_left _ h), hg⟩
theorem inL_2 : ∀ w ∈ tables_1_2, w ∈ lw_tbl := fun w h => List.mem_append_right _ (by unfold tables_1; exact List.mem_append_right _ (List.mem_append_left _ h))
theorem inC_2 (w : Cond) (h : w ∈ tables_1_2) (hg : goodWord w = true) : w ∈ TW := List.mem_filter.mpr ⟨List.mem_append_right _ (by unfold tables_1; exact List.mem_append_right _ (List.mem_append_left _ h)), hg⟩
theorem inL_3 : ∀ w ∈ tables_1_3, w ∈ lw_tbl := fun w h => List.mem_append_right _ (by unfold tables_1; exact List.mem_append_right _ (List.mem_append_right _ (List.mem_append_left _ h)))
theorem inC_3 (w : Cond) (h : w ∈ tables_1_3) (hg : goodWord w = true) : w ∈ TW := List.mem_filter.mpr ⟨List.mem_append_right _ (by unfold tables_1; exact List.mem_append_right _ (List.mem_append_right _ (List.mem_append_left _ h))), hg⟩
theorem inL_4 : ∀ w ∈ tables_1_4, w ∈ lw_tbl := fun w h => List.mem_append_right _ (by unfold tables_1; exact List.mem_append_right _ (List.mem_append_right _ (List.mem_append_right _ h)))
theorem inC_4 (w : Cond) (h : w ∈ tables_1_4) (hg : goodWord w = true) : w ∈ TW := List.mem_filter.mpr ⟨List.mem_append_right _ (by unfold tables_1; exact List.mem_append_right _ (List.mem_append_right _ (List.mem_append_right _ h))), hg⟩
theorem inC_p (w : Cond) (h : w ∈ k2_sels lw_privs) (hg : goodWord w = true) : w ∈ TW := List.mem_filter.mpr ⟨List.mem_append_left _ h, hg⟩
theorem wd_1_0 : Cond.initialized RL ∈ TW := inC_1 _ (List.mem_of_getElem? (i := 0) rfl) rfl
theorem wd_1_1 : Cond.initialized RX11 ∈ TW := inC_1 _ (List.mem_of_getElem? (i := 1) rfl) rfl
theorem wd_1_2 : Cond.initialized RX3 ∈ TW := inC_1 _ (List.mem_of_getElem? (i := 2) rfl) rfl
theorem wd_1_3 : Cond.initialized RX9 ∈ TW := inC_1 _ (List.mem_of_getElem? (i := 3) rfl) rfl
theorem wd_1_4 : Cond.initialized RX0 ∈ TW := inC_1 _ (List.mem_of_getElem? (i := 4) rfl) rfl
theorem wd_1_5 : Cond.initialized RX7 ∈ TW := inC_1 _ (List.mem_of_getElem? (i := 5) rfl) rfl
theorem wd_1_6 : Cond.initialized RX2 ∈ TW := inC_1 _ (List.mem_of_getElem? (i := 6) rfl) rfl
theorem wd_1_7 : Cond.initialized RX1 ∈ TW := inC_1 _ (List.mem_of_getElem? (i := 7) rfl) rfl
theorem wd_1_8 : Cond.initialized RX4 ∈ TW := inC_1 _ (List.mem_of_getElem? (i := 8) rfl) rfl
theorem wd_1_9 : Cond.initialized RX8 ∈ TW := inC_1 _ (List.mem_of_getElem? (i := 9) rfl) rfl
theorem wd_1_10 : Cond.initialized RX10 ∈ TW := inC_1 _ (List.mem_of_getElem? (i := 10) rfl) rfl
theorem wd_1_11 : Cond.initialized RX6 ∈ TW := inC_1 _ (List.mem_of_getElem? (i := 11) rfl) rfl
theorem wd_1_12 : Cond.initialized RX5 ∈ TW := inC_1 _ (List.mem_of_getElem? (i := 12) rfl) rfl
theorem wd_1_13 : Cond.initialized RJ9 ∈ TW := inC_1 _ (List.mem_of_getElem? (i := 13) rfl) rfl
theorem wd_1_14 : Cond.initialized RJ6 ∈ TW := inC_1 _ (List.mem_of_getElem? (i := 14) rfl) rfl
theorem wd_1_15 : Cond.classLink RL 9 RX11 ∈ TW := inC_1 _ (List.mem_of_getElem? (i := 15) rfl) rfl
theorem wd_1_16 : Cond.instantiable RX11 16 ∈ TW := inC_1 _ (List.mem_of_getElem? (i := 16) rfl) rfl
theorem wd_1_17 : Cond.methodLink RL 14 yX11_init ∈ TW := inC_1 _ (List.mem_of_getElem? (i := 17) rfl) rfl
theorem wd_1_18 : Cond.instanceMethod yX11_init ∈ TW := inC_1 _ (List.mem_of_getElem? (i := 18) rfl) rfl
theorem wd_1_19 : Cond.code yX11_init cX11_init 2 none ∈ TW := inC_1 _ (List.mem_of_getElem? (i := 19) rfl) rfl
theorem wd_1_20 : Cond.methodLink RX11 1 Lib.objectInit ∈ TW := inC_1 _ (List.mem_of_getElem? (i := 20) rfl) rfl
theorem wd_1_21 : Cond.instanceMethod Lib.objectInit ∈ TW := inC_1 _ (List.mem_of_getElem? (i := 21) rfl) rfl
theorem wd_1_22 : Cond.code Lib.objectInit object_method_1_code 1 none ∈ TW := inC_1 _ (List.mem_of_getElem? (i := 22) rfl) rfl
theorem wd_1_23 : Cond.classLink RX11 7 RX3 ∈ TW := inC_1 _ (List.mem_of_getElem? (i := 23) rfl) rfl
theorem wd_1_24 : Cond.instantiable RX3 3 ∈ TW := inC_1 _ (List.mem_of_getElem? (i := 24) rfl) rfl
theorem wd_1_25 : Cond.methodLink RX11 9 yX3_init ∈ TW := inC_1 _ (List.mem_of_getElem? (i := 25) rfl) rfl
theorem wd_1_26 : Cond.instanceMethod yX3_init ∈ TW := inC_1 _ (List.mem_of_getElem? (i := 26) rfl) rfl
theorem wd_1_27 : Cond.code yX3_init cX3_init 3 none ∈ TW := inC_1 _ (List.mem_of_getElem? (i := 27) rfl) rfl
theorem wd_1_28 : Cond.methodLink RX3 3 Lib.objectInit ∈ TW := inC_1 _ (List.mem_of_getElem? (i := 28) rfl) rfl
theorem wd_1_29 : Cond.fieldLink RX3 9 (fl 3 0).1 (fl 3 0).2.1 (fl 3 0).2.2.1 ∈ TW := inC_1 _ (List.mem_of_getElem? (i := 29) rfl) rfl
theorem wd_1_30 : Cond.fieldLink RX11 107 (fl 3 0).1 (fl 3 0).2.1 (fl 3 0).2.2.1 ∈ TW := inC_1 _ (List.mem_of_getElem? (i := 30) rfl) rfl
theorem wd_1_31 : Cond.fieldLink RX5 61 (fl 3 0).1 (fl 3 0).2.1 (fl 3 0).2.2.1 ∈ TW := inC_1 _ (List.mem_of_getElem? (i := 31) rfl) rfl
theorem wd_1_32 : Cond.fieldLink RX3 15 (fl 3 1).1 (fl 3 1).2.1 (fl 3 1).2.2.1 ∈ TW := inC_1 _ (List.mem_of_getElem? (i := 32) rfl) rfl
theorem wd_1_33 : Cond.fieldLink RX3 19 (fl 3 2).1 (fl 3 2).2.1 (fl 3 2).2.2.1 ∈ TW := inC_1 _ (List.mem_of_getElem? (i := 33) rfl) rfl
theorem wd_1_34 : Cond.lays RX3 RX3 "now" "I" ∈ TW := inC_1 _ (List.mem_of_getElem? (i := 34) rfl) rfl
theorem wd_1_36 : Cond.laysFinal RX3 RX3 "feasts" "[Z" ∈ TW := inC_1 _ (List.mem_of_getElem? (i := 36) rfl) rfl
theorem wd_1_38 : Cond.laysFinal RX3 RX3 "worked" "[I" ∈ TW := inC_1 _ (List.mem_of_getElem? (i := 38) rfl) rfl
theorem wd_1_41 : Cond.arrayClass .boolean ∈ TW := inC_1 _ (List.mem_of_getElem? (i := 41) rfl) rfl
theorem wd_1_42 : Cond.arrayClass .int ∈ TW := inC_1 _ (List.mem_of_getElem? (i := 42) rfl) rfl
theorem wd_1_43 : Cond.classLink RX11 16 RX9 ∈ TW := inC_1 _ (List.mem_of_getElem? (i := 43) rfl) rfl
theorem wd_1_44 : Cond.instantiable RX9 12 ∈ TW := inC_1 _ (List.mem_of_getElem? (i := 44) rfl) rfl
theorem wd_1_45 : Cond.methodLinkNest RX11 18 yX9_init RX11 ∈ lw_tbl := inL_1 _ (List.mem_of_getElem? (i := 45) rfl)
theorem wd_1_46 : Cond.instanceMethod yX9_init ∈ TW := inC_1 _ (List.mem_of_getElem? (i := 46) rfl) rfl
theorem wd_1_47 : Cond.code yX9_init cX9_init 1 none ∈ TW := inC_1 _ (List.mem_of_getElem? (i := 47) rfl) rfl
theorem wd_1_48 : Cond.methodLink RX9 3 Lib.objectInit ∈ TW := inC_1 _ (List.mem_of_getElem? (i := 48) rfl) rfl
theorem wd_1_49 : Cond.fieldLink RX9 9 (fl 9 0).1 (fl 9 0).2.1 (fl 9 0).2.2.1 ∈ TW := inC_1 _ (List.mem_of_getElem? (i := 49) rfl) rfl
theorem wd_1_50 : Cond.fieldLink RX9 15 (fl 9 1).1 (fl 9 1).2.1 (fl 9 1).2.2.1 ∈ TW := inC_1 _ (List.mem_of_getElem? (i := 50) rfl) rfl
theorem wd_1_51 : Cond.fieldLink RX9 19 (fl 9 2).1 (fl 9 2).2.1 (fl 9 2).2.2.1 ∈ TW := inC_1 _ (List.mem_of_getElem? (i := 51) rfl) rfl
theorem wd_1_52 : Cond.fieldLink RX9 23 (fl 9 3).1 (fl 9 3).2.1 (fl 9 3).2.2.1 ∈ TW := inC_1 _ (List.mem_of_getElem? (i := 52) rfl) rfl
theorem wd_1_53 : Cond.fieldLink RX9 26 (fl 9 4).1 (fl 9 4).2.1 (fl 9 4).2.2.1 ∈ TW := inC_1 _ (List.mem_of_getElem? (i := 53) rfl) rfl
theorem wd_1_54 : Cond.fieldLink RX9 29 (fl 9 5).1 (fl 9 5).2.1 (fl 9 5).2.2.1 ∈ TW := inC_1 _ (List.mem_of_getElem? (i := 54) rfl) rfl
theorem wd_1_55 : Cond.fieldLink RX9 32 (fl 9 6).1 (fl 9 6).2.1 (fl 9 6).2.2.1 ∈ TW := inC_1 _ (List.mem_of_getElem? (i := 55) rfl) rfl
theorem wd_1_56 : Cond.fieldLink RX9 35 (fl 9 7).1 (fl 9 7).2.1 (fl 9 7).2.2.1 ∈ TW := inC_1 _ (List.mem_of_getElem? (i := 56) rfl) rfl
theorem wd_1_57 : Cond.fieldLink RX9 38 (fl 9 8).1 (fl 9 8).2.1 (fl 9 8).2.2.1 ∈ TW := inC_1 _ (List.mem_of_getElem? (i := 57) rfl) rfl
theorem wd_1_58 : Cond.fieldLink RX9 41 (fl 9 9).1 (fl 9 9).2.1 (fl 9 9).2.2.1 ∈ TW := inC_1 _ (List.mem_of_getElem? (i := 58) rfl) rfl
theorem wd_1_59 : Cond.fieldLink RX9 44 (fl 9 10).1 (fl 9 10).2.1 (fl 9 10).2.2.1 ∈ TW := inC_1 _ (List.mem_of_getElem? (i := 59) rfl) rfl
theorem wd_1_60 : Cond.fieldLink RX9 47 (fl 9 11).1 (fl 9 11).2.1 (fl 9 11).2.2.1 ∈ TW := inC_1 _ (List.mem_of_getElem? (i := 60) rfl) rfl
theorem wd_1_61 : Cond.lays RX9 RX9 "size" "I" ∈ TW := inC_1 _ (List.mem_of_getElem? (i := 61) rfl) rfl
theorem wd_1_63 : Cond.laysFinal RX9 RX9 "shop" "[I" ∈ TW := inC_1 _ (List.mem_of_getElem? (i := 63) rfl) rfl
theorem wd_1_65 : Cond.laysFinal RX9 RX9 "here" "[Z" ∈ TW := inC_1 _ (List.mem_of_getElem? (i := 65) rfl) rfl
theorem wd_1_67 : Cond.laysFinal RX9 RX9 "born" "[I" ∈ TW := inC_1 _ (List.mem_of_getElem? (i := 67) rfl) rfl
theorem wd_1_69 : Cond.laysFinal RX9 RX9 "came" "[I" ∈ TW := inC_1 _ (List.mem_of_getElem? (i := 69) rfl) rfl
theorem wd_1_71 : Cond.laysFinal RX9 RX9 "children" "[I" ∈ TW := inC_1 _ (List.mem_of_getElem? (i := 71) rfl) rfl
theorem wd_1_73 : Cond.laysFinal RX9 RX9 "hurt" "[I" ∈ TW := inC_1 _ (List.mem_of_getElem? (i := 73) rfl) rfl
theorem wd_1_75 : Cond.laysFinal RX9 RX9 "listedChildren" "[I" ∈ TW := inC_1 _ (List.mem_of_getElem? (i := 75) rfl) rfl
theorem wd_1_77 : Cond.laysFinal RX9 RX9 "listedHurt" "[I" ∈ TW := inC_1 _ (List.mem_of_getElem? (i := 77) rfl) rfl
theorem wd_1_79 : Cond.laysFinal RX9 RX9 "wishes" "[I" ∈ TW := inC_1 _ (List.mem_of_getElem? (i := 79) rfl) rfl
theorem wd_1_81 : Cond.laysFinal RX9 RX9 "weights" "[I" ∈ TW := inC_1 _ (List.mem_of_getElem? (i := 81) rfl) rfl
theorem wd_1_83 : Cond.lays RX9 RX9 "listDay" "I" ∈ TW := inC_1 _ (List.mem_of_getElem? (i := 83) rfl) rfl
theorem wd_1_86 : Cond.classLink RX11 23 RX0 ∈ TW := inC_1 _ (List.mem_of_getElem? (i := 86) rfl) rfl
theorem wd_1_87 : Cond.instantiable RX0 6 ∈ TW := inC_1 _ (List.mem_of_getElem? (i := 87) rfl) rfl
theorem wd_1_88 : Cond.methodLinkNest RX11 25 yX0_init RX11 ∈ lw_tbl := inL_1 _ (List.mem_of_getElem? (i := 88) rfl)
theorem wd_1_89 : Cond.instanceMethod yX0_init ∈ TW := inC_1 _ (List.mem_of_getElem? (i := 89) rfl) rfl
theorem wd_1_90 : Cond.code yX0_init cX0_init 1 none ∈ TW := inC_1 _ (List.mem_of_getElem? (i := 90) rfl) rfl
theorem wd_1_91 : Cond.methodLink RX0 3 Lib.objectInit ∈ TW := inC_1 _ (List.mem_of_getElem? (i := 91) rfl) rfl
theorem wd_1_92 : Cond.classLink RX0 15 "[[B" ∈ TW := inC_1 _ (List.mem_of_getElem? (i := 92) rfl) rfl
theorem wd_1_93 : Cond.arrayOver (.array .byte) ∈ lw_tbl := inL_1 _ (List.mem_of_getElem? (i := 93) rfl)
theorem wd_1_94 : Cond.classLink RX0 30 RX7 ∈ TW := inC_1 _ (List.mem_of_getElem? (i := 94) rfl) rfl
theorem wd_1_95 : Cond.instantiable RX7 10 ∈ TW := inC_1 _ (List.mem_of_getElem? (i := 95) rfl) rfl
theorem wd_1_96 : Cond.methodLinkNest RX0 32 yX7_init RX11 ∈ lw_tbl := inL_1 _ (List.mem_of_getElem? (i := 96) rfl)
theorem wd_1_97 : Cond.instanceMethod yX7_init ∈ TW := inC_1 _ (List.mem_of_getElem? (i := 97) rfl) rfl
theorem wd_1_98 : Cond.code yX7_init cX7_init 1 none ∈ TW := inC_1 _ (List.mem_of_getElem? (i := 98) rfl) rfl
theorem wd_1_99 : Cond.methodLink RX7 3 Lib.objectInit ∈ TW := inC_1 _ (List.mem_of_getElem? (i := 99) rfl) rfl
theorem wd_1_100 : Cond.fieldLink RX7 9 (fl 7 0).1 (fl 7 0).2.1 (fl 7 0).2.2.1 ∈ TW := inC_1 _ (List.mem_of_getElem? (i := 100) rfl) rfl
theorem wd_1_101 : Cond.fieldLink RX11 459 (fl 7 0).1 (fl 7 0).2.1 (fl 7 0).2.2.1 ∈ TW := inC_1 _ (List.mem_of_getElem? (i := 101) rfl) rfl
theorem wd_1_102 : Cond.fieldLink RX7 15 (fl 7 1).1 (fl 7 1).2.1 (fl 7 1).2.2.1 ∈ TW := inC_1 _ (List.mem_of_getElem? (i := 102) rfl) rfl
theorem wd_1_103 : Cond.fieldLink RX7 19 (fl 7 2).1 (fl 7 2).2.1 (fl 7 2).2.2.1 ∈ TW := inC_1 _ (List.mem_of_getElem? (i := 103) rfl) rfl
theorem wd_1_104 : Cond.fieldLink RX7 23 (fl 7 3).1 (fl 7 3).2.1 (fl 7 3).2.2.1 ∈ TW := inC_1 _ (List.mem_of_getElem? (i := 104) rfl) rfl
theorem wd_1_105 : Cond.fieldLink RX7 26 (fl 7 4).1 (fl 7 4).2.1 (fl 7 4).2.2.1 ∈ TW := inC_1 _ (List.mem_of_getElem? (i := 105) rfl) rfl
theorem wd_1_106 : Cond.fieldLink RX7 29 (fl 7 5).1 (fl 7 5).2.1 (fl 7 5).2.2.1 ∈ TW := inC_1 _ (List.mem_of_getElem? (i := 106) rfl) rfl
theorem wd_1_107 : Cond.fieldLink RX7 32 (fl 7 6).1 (fl 7 6).2.1 (fl 7 6).2.2.1 ∈ TW := inC_1 _ (List.mem_of_getElem? (i := 107) rfl) rfl
theorem wd_1_108 : Cond.fieldLink RX7 35 (fl 7 7).1 (fl 7 7).2.1 (fl 7 7).2.2.1 ∈ TW := inC_1 _ (List.mem_of_getElem? (i := 108) rfl) rfl
theorem wd_1_109 : Cond.fieldLink RX7 39 (fl 7 8).1 (fl 7 8).2.1 (fl 7 8).2.2.1 ∈ TW := inC_1 _ (List.mem_of_getElem? (i := 109) rfl) rfl
theorem wd_1_110 : Cond.fieldLink RX7 42 (fl 7 9).1 (fl 7 9).2.1 (fl 7 9).2.2.1 ∈ TW := inC_1 _ (List.mem_of_getElem? (i := 110) rfl) rfl
theorem wd_1_111 : Cond.laysFinal RX7 RX7 "facts" "[I" ∈ TW := inC_1 _ (List.mem_of_getElem? (i := 111) rfl) rfl
theorem wd_1_113 : Cond.lays RX7 RX7 "text" "[B" ∈ TW := inC_1 _ (List.mem_of_getElem? (i := 113) rfl) rfl
theorem wd_1_115 : Cond.lays RX7 RX7 "length" "I" ∈ TW := inC_1 _ (List.mem_of_getElem? (i := 115) rfl) rfl
theorem wd_1_117 : Cond.lays RX7 RX7 "at" "I" ∈ TW := inC_1 _ (List.mem_of_getElem? (i := 117) rfl) rfl
theorem wd_1_119 : Cond.lays RX7 RX7 "fault" "I" ∈ TW := inC_1 _ (List.mem_of_getElem? (i := 119) rfl) rfl
theorem wd_1_121 : Cond.lays RX7 RX7 "deep" "I" ∈ TW := inC_1 _ (List.mem_of_getElem? (i := 121) rfl) rfl
theorem wd_1_123 : Cond.lays RX7 RX7 "level" "I" ∈ TW := inC_1 _ (List.mem_of_getElem? (i := 123) rfl) rfl
theorem wd_1_125 : Cond.laysFinal RX7 RX7 "anyTerm" "[Z" ∈ TW := inC_1 _ (List.mem_of_getElem? (i := 125) rfl) rfl
theorem wd_1_127 : Cond.laysFinal RX7 RX7 "allParts" "[Z" ∈ TW := inC_1 _ (List.mem_of_getElem? (i := 127) rfl) rfl
theorem wd_1_129 : Cond.laysFinal RX7 RX7 "nots" "[I" ∈ TW := inC_1 _ (List.mem_of_getElem? (i := 129) rfl) rfl
theorem wd_1_132 : Cond.arrayClass .byte ∈ TW := inC_1 _ (List.mem_of_getElem? (i := 132) rfl) rfl
theorem wd_1_133 : Cond.fieldLink RX0 9 (fl 0 0).1 (fl 0 0).2.1 (fl 0 0).2.2.1 ∈ TW := inC_1 _ (List.mem_of_getElem? (i := 133) rfl) rfl
theorem wd_1_134 : Cond.fieldLink RX11 156 (fl 0 0).1 (fl 0 0).2.1 (fl 0 0).2.2.1 ∈ TW := inC_1 _ (List.mem_of_getElem? (i := 134) rfl) rfl
theorem wd_1_135 : Cond.fieldLink RX0 17 (fl 0 1).1 (fl 0 1).2.1 (fl 0 1).2.2.1 ∈ TW := inC_1 _ (List.mem_of_getElem? (i := 135) rfl) rfl
theorem wd_1_136 : Cond.fieldLink RX0 20 (fl 0 2).1 (fl 0 2).2.1 (fl 0 2).2.2.1 ∈ TW := inC_1 _ (List.mem_of_getElem? (i := 136) rfl) rfl
theorem wd_1_137 : Cond.fieldLink RX0 24 (fl 0 3).1 (fl 0 3).2.1 (fl 0 3).2.2.1 ∈ TW := inC_1 _ (List.mem_of_getElem? (i := 137) rfl) rfl
theorem wd_1_138 : Cond.fieldLink RX0 27 (fl 0 4).1 (fl 0 4).2.1 (fl 0 4).2.2.1 ∈ TW := inC_1 _ (List.mem_of_getElem? (i := 138) rfl) rfl
theorem wd_1_139 : Cond.fieldLink RX0 33 (fl 0 5).1 (fl 0 5).2.1 (fl 0 5).2.2.1 ∈ TW := inC_1 _ (List.mem_of_getElem? (i := 139) rfl) rfl
theorem wd_1_140 : Cond.fieldLink RX11 455 (fl 0 5).1 (fl 0 5).2.1 (fl 0 5).2.2.1 ∈ TW := inC_1 _ (List.mem_of_getElem? (i := 140) rfl) rfl
theorem wd_1_141 : Cond.lays RX0 RX0 "size" "I" ∈ TW := inC_1 _ (List.mem_of_getElem? (i := 141) rfl) rfl
theorem wd_1_143 : Cond.laysFinal RX0 RX0 "texts" "[[B" ∈ TW := inC_1 _ (List.mem_of_getElem? (i := 143) rfl) rfl
theorem wd_1_145 : Cond.laysFinal RX0 RX0 "lengths" "[I" ∈ TW := inC_1 _ (List.mem_of_getElem? (i := 145) rfl) rfl
theorem wd_1_147 : Cond.laysFinal RX0 RX0 "from" "[I" ∈ TW := inC_1 _ (List.mem_of_getElem? (i := 147) rfl) rfl
theorem wd_1_149 : Cond.laysFinal RX0 RX0 "struck" "[I" ∈ TW := inC_1 _ (List.mem_of_getElem? (i := 149) rfl) rfl
theorem wd_1_151 : Cond.laysFinal RX0 RX0 "reader" "LWorksCouncil$Reader;" ∈ TW := inC_1 _ (List.mem_of_getElem? (i := 151) rfl) rfl
theorem wd_1_154 : Cond.classLink RX11 30 RX2 ∈ TW := inC_1 _ (List.mem_of_getElem? (i := 154) rfl) rfl
theorem wd_1_155 : Cond.instantiable RX2 11 ∈ TW := inC_1 _ (List.mem_of_getElem? (i := 155) rfl) rfl
theorem wd_1_156 : Cond.methodLinkNest RX11 32 yX2_init RX11 ∈ lw_tbl := inL_1 _ (List.mem_of_getElem? (i := 156) rfl)
theorem wd_1_157 : Cond.instanceMethod yX2_init ∈ TW := inC_1 _ (List.mem_of_getElem? (i := 157) rfl) rfl
theorem wd_1_158 : Cond.code yX2_init cX2_init 1 none ∈ TW := inC_1 _ (List.mem_of_getElem? (i := 158) rfl) rfl
theorem wd_1_159 : Cond.methodLink RX2 3 Lib.objectInit ∈ TW := inC_1 _ (List.mem_of_getElem? (i := 159) rfl) rfl
theorem wd_1_160 : Cond.fieldLink RX2 9 (fl 2 0).1 (fl 2 0).2.1 (fl 2 0).2.2.1 ∈ TW := inC_1 _ (List.mem_of_getElem? (i := 160) rfl) rfl
theorem wd_1_161 : Cond.fieldLink RX11 239 (fl 2 0).1 (fl 2 0).2.1 (fl 2 0).2.2.1 ∈ TW := inC_1 _ (List.mem_of_getElem? (i := 161) rfl) rfl
theorem wd_1_162 : Cond.fieldLink RX2 15 (fl 2 1).1 (fl 2 1).2.1 (fl 2 1).2.2.1 ∈ TW := inC_1 _ (List.mem_of_getElem? (i := 162) rfl) rfl
theorem wd_1_163 : Cond.fieldLink RX11 442 (fl 2 1).1 (fl 2 1).2.1 (fl 2 1).2.2.1 ∈ TW := inC_1 _ (List.mem_of_getElem? (i := 163) rfl) rfl
theorem wd_1_164 : Cond.fieldLink RX2 19 (fl 2 2).1 (fl 2 2).2.1 (fl 2 2).2.2.1 ∈ TW := inC_1 _ (List.mem_of_getElem? (i := 164) rfl) rfl
theorem wd_1_165 : Cond.fieldLink RX11 248 (fl 2 2).1 (fl 2 2).2.1 (fl 2 2).2.2.1 ∈ TW := inC_1 _ (List.mem_of_getElem? (i := 165) rfl) rfl
theorem wd_1_166 : Cond.fieldLink RX2 22 (fl 2 3).1 (fl 2 3).2.1 (fl 2 3).2.2.1 ∈ TW := inC_1 _ (List.mem_of_getElem? (i := 166) rfl) rfl
theorem wd_1_167 : Cond.fieldLink RX11 251 (fl 2 3).1 (fl 2 3).2.1 (fl 2 3).2.2.1 ∈ TW := inC_1 _ (List.mem_of_getElem? (i := 167) rfl) rfl
theorem wd_1_168 : Cond.fieldLink RX2 25 (fl 2 4).1 (fl 2 4).2.1 (fl 2 4).2.2.1 ∈ TW := inC_1 _ (List.mem_of_getElem? (i := 168) rfl) rfl
theorem wd_1_169 : Cond.fieldLink RX2 28 (fl 2 5).1 (fl 2 5).2.1 (fl 2 5).2.2.1 ∈ TW := inC_1 _ (List.mem_of_getElem? (i := 169) rfl) rfl
theorem wd_1_170 : Cond.fieldLink RX11 264 (fl 2 5).1 (fl 2 5).2.1 (fl 2 5).2.2.1 ∈ TW := inC_1 _ (List.mem_of_getElem? (i := 170) rfl) rfl
theorem wd_1_171 : Cond.fieldLink RX2 31 (fl 2 6).1 (fl 2 6).2.1 (fl 2 6).2.2.1 ∈ TW := inC_1 _ (List.mem_of_getElem? (i := 171) rfl) rfl
theorem wd_1_172 : Cond.fieldLink RX2 34 (fl 2 7).1 (fl 2 7).2.1 (fl 2 7).2.2.1 ∈ TW := inC_1 _ (List.mem_of_getElem? (i := 172) rfl) rfl
theorem wd_1_173 : Cond.fieldLink RX2 37 (fl 2 8).1 (fl 2 8).2.1 (fl 2 8).2.2.1 ∈ TW := inC_1 _ (List.mem_of_getElem? (i := 173) rfl) rfl
theorem wd_1_174 : Cond.fieldLink RX2 41 (fl 2 9).1 (fl 2 9).2.1 (fl 2 9).2.2.1 ∈ TW := inC_1 _ (List.mem_of_getElem? (i := 174) rfl) rfl
theorem wd_1_175 : Cond.fieldLink RX2 44 (fl 2 10).1 (fl 2 10).2.1 (fl 2 10).2.2.1 ∈ TW := inC_1 _ (List.mem_of_getElem? (i := 175) rfl) rfl
theorem wd_1_176 : Cond.laysFinal RX2 RX2 "votes" "[I" ∈ TW := inC_1 _ (List.mem_of_getElem? (i := 176) rfl) rfl
theorem wd_1_178 : Cond.lays RX2 RX2 "seats" "I" ∈ TW := inC_1 _ (List.mem_of_getElem? (i := 178) rfl) rfl
theorem wd_1_180 : Cond.laysFinal RX2 RX2 "seatShop" "[I" ∈ TW := inC_1 _ (List.mem_of_getElem? (i := 180) rfl) rfl
theorem wd_1_182 : Cond.laysFinal RX2 RX2 "member" "[I" ∈ TW := inC_1 _ (List.mem_of_getElem? (i := 182) rfl) rfl
theorem wd_1_184 : Cond.laysFinal RX2 RX2 "won" "[I" ∈ TW := inC_1 _ (List.mem_of_getElem? (i := 184) rfl) rfl
theorem wd_1_186 : Cond.lays RX2 RX2 "sessions" "I" ∈ TW := inC_1 _ (List.mem_of_getElem? (i := 186) rfl) rfl
theorem wd_1_188 : Cond.laysFinal RX2 RX2 "day" "[I" ∈ TW := inC_1 _ (List.mem_of_getElem? (i := 188) rfl) rfl
theorem wd_1_190 : Cond.laysFinal RX2 RX2 "present" "[I" ∈ TW := inC_1 _ (List.mem_of_getElem? (i := 190) rfl) rfl
theorem wd_1_192 : Cond.laysFinal RX2 RX2 "right" "[Z" ∈ TW := inC_1 _ (List.mem_of_getElem? (i := 192) rfl) rfl
theorem wd_1_194 : Cond.laysFinal RX2 RX2 "voided" "[I" ∈ TW := inC_1 _ (List.mem_of_getElem? (i := 194) rfl) rfl
theorem wd_1_196 : Cond.laysFinal RX2 RX2 "answers" "[I" ∈ TW := inC_1 _ (List.mem_of_getElem? (i := 196) rfl) rfl
theorem wd_1_199 : Cond.classLink RX11 37 RX5 ∈ TW := inC_1 _ (List.mem_of_getElem? (i := 199) rfl) rfl
theorem wd_1_200 : Cond.arrayOver (.object "WorksCouncil$Matter") ∈ lw_tbl := inL_1 _ (List.mem_of_getElem? (i := 200) rfl)
theorem wd_1_201 : Cond.classLink RX11 47 RX1 ∈ TW := inC_1 _ (List.mem_of_getElem? (i := 201) rfl) rfl
theorem wd_1_202 : Cond.instantiable RX1 10 ∈ TW := inC_1 _ (List.mem_of_getElem? (i := 202) rfl) rfl
theorem wd_1_203 : Cond.methodLinkNest RX11 49 yX1_init RX11 ∈ lw_tbl := inL_1 _ (List.mem_of_getElem? (i := 203) rfl)
theorem wd_1_204 : Cond.instanceMethod yX1_init ∈ TW := inC_1 _ (List.mem_of_getElem? (i := 204) rfl) rfl
theorem wd_1_205 : Cond.code yX1_init cX1_init 1 none ∈ TW := inC_1 _ (List.mem_of_getElem? (i := 205) rfl) rfl
theorem wd_1_206 : Cond.methodLink RX1 3 Lib.objectInit ∈ TW := inC_1 _ (List.mem_of_getElem? (i := 206) rfl) rfl
theorem wd_1_207 : Cond.fieldLink RX1 9 (fl 1 0).1 (fl 1 0).2.1 (fl 1 0).2.2.1 ∈ TW := inC_1 _ (List.mem_of_getElem? (i := 207) rfl) rfl
theorem wd_1_208 : Cond.fieldLink RX11 303 (fl 1 0).1 (fl 1 0).2.1 (fl 1 0).2.2.1 ∈ TW := inC_1 _ (List.mem_of_getElem? (i := 208) rfl) rfl
theorem wd_1_209 : Cond.fieldLink RX1 15 (fl 1 1).1 (fl 1 1).2.1 (fl 1 1).2.2.1 ∈ TW := inC_1 _ (List.mem_of_getElem? (i := 209) rfl) rfl
theorem wd_1_210 : Cond.fieldLink RX11 312 (fl 1 1).1 (fl 1 1).2.1 (fl 1 1).2.2.1 ∈ TW := inC_1 _ (List.mem_of_getElem? (i := 210) rfl) rfl
theorem wd_1_211 : Cond.fieldLink RX1 19 (fl 1 2).1 (fl 1 2).2.1 (fl 1 2).2.2.1 ∈ TW := inC_1 _ (List.mem_of_getElem? (i := 211) rfl) rfl
theorem wd_1_212 : Cond.fieldLink RX1 22 (fl 1 3).1 (fl 1 3).2.1 (fl 1 3).2.2.1 ∈ TW := inC_1 _ (List.mem_of_getElem? (i := 212) rfl) rfl
theorem wd_1_213 : Cond.fieldLink RX1 25 (fl 1 4).1 (fl 1 4).2.1 (fl 1 4).2.2.1 ∈ TW := inC_1 _ (List.mem_of_getElem? (i := 213) rfl) rfl
theorem wd_1_214 : Cond.fieldLink RX1 28 (fl 1 5).1 (fl 1 5).2.1 (fl 1 5).2.2.1 ∈ TW := inC_1 _ (List.mem_of_getElem? (i := 214) rfl) rfl
theorem wd_1_215 : Cond.fieldLink RX11 464 (fl 1 5).1 (fl 1 5).2.1 (fl 1 5).2.2.1 ∈ TW := inC_1 _ (List.mem_of_getElem? (i := 215) rfl) rfl
theorem wd_1_216 : Cond.fieldLink RX1 31 (fl 1 6).1 (fl 1 6).2.1 (fl 1 6).2.2.1 ∈ TW := inC_1 _ (List.mem_of_getElem? (i := 216) rfl) rfl
theorem wd_1_217 : Cond.fieldLink RX1 35 (fl 1 7).1 (fl 1 7).2.1 (fl 1 7).2.2.1 ∈ TW := inC_1 _ (List.mem_of_getElem? (i := 217) rfl) rfl
theorem wd_1_218 : Cond.fieldLink RX1 38 (fl 1 8).1 (fl 1 8).2.1 (fl 1 8).2.2.1 ∈ TW := inC_1 _ (List.mem_of_getElem? (i := 218) rfl) rfl
theorem wd_1_219 : Cond.fieldLink RX1 41 (fl 1 9).1 (fl 1 9).2.1 (fl 1 9).2.2.1 ∈ TW := inC_1 _ (List.mem_of_getElem? (i := 219) rfl) rfl
theorem wd_1_220 : Cond.lays RX1 RX1 "size" "I" ∈ TW := inC_1 _ (List.mem_of_getElem? (i := 220) rfl) rfl
theorem wd_1_222 : Cond.laysFinal RX1 RX1 "matter" "[I" ∈ TW := inC_1 _ (List.mem_of_getElem? (i := 222) rfl) rfl
theorem wd_1_224 : Cond.laysFinal RX1 RX1 "value" "[I" ∈ TW := inC_1 _ (List.mem_of_getElem? (i := 224) rfl) rfl
theorem wd_1_226 : Cond.laysFinal RX1 RX1 "from" "[I" ∈ TW := inC_1 _ (List.mem_of_getElem? (i := 226) rfl) rfl
theorem wd_1_228 : Cond.laysFinal RX1 RX1 "end" "[I" ∈ TW := inC_1 _ (List.mem_of_getElem? (i := 228) rfl) rfl
theorem wd_1_230 : Cond.laysFinal RX1 RX1 "made" "[I" ∈ TW := inC_1 _ (List.mem_of_getElem? (i := 230) rfl) rfl
theorem wd_1_232 : Cond.laysFinal RX1 RX1 "cancelled" "[Z" ∈ TW := inC_1 _ (List.mem_of_getElem? (i := 232) rfl) rfl
theorem wd_1_234 : Cond.laysFinal RX1 RX1 "contract" "[I" ∈ TW := inC_1 _ (List.mem_of_getElem? (i := 234) rfl) rfl
theorem wd_1_236 : Cond.laysFinal RX1 RX1 "let" "[I" ∈ TW := inC_1 _ (List.mem_of_getElem? (i := 236) rfl) rfl
theorem wd_1_238 : Cond.laysFinal RX1 RX1 "after" "[Z" ∈ TW := inC_1 _ (List.mem_of_getElem? (i := 238) rfl) rfl
theorem wd_2_1 : Cond.classLink RX11 54 RX4 ∈ TW := inC_2 _ (List.mem_of_getElem? (i := 1) rfl) rfl
theorem wd_2_2 : Cond.instantiable RX4 10 ∈ TW := inC_2 _ (List.mem_of_getElem? (i := 2) rfl) rfl
theorem wd_2_3 : Cond.methodLinkNest RX11 56 yX4_init RX11 ∈ lw_tbl := inL_2 _ (List.mem_of_getElem? (i := 3) rfl)
theorem wd_2_4 : Cond.instanceMethod yX4_init ∈ TW := inC_2 _ (List.mem_of_getElem? (i := 4) rfl) rfl
theorem wd_2_5 : Cond.code yX4_init cX4_init 1 none ∈ TW := inC_2 _ (List.mem_of_getElem? (i := 5) rfl) rfl
theorem wd_2_6 : Cond.methodLink RX4 3 Lib.objectInit ∈ TW := inC_2 _ (List.mem_of_getElem? (i := 6) rfl) rfl
theorem wd_2_7 : Cond.fieldLink RX4 9 (fl 4 0).1 (fl 4 0).2.1 (fl 4 0).2.2.1 ∈ TW := inC_2 _ (List.mem_of_getElem? (i := 7) rfl) rfl
theorem wd_2_8 : Cond.fieldLink RX11 354 (fl 4 0).1 (fl 4 0).2.1 (fl 4 0).2.2.1 ∈ TW := inC_2 _ (List.mem_of_getElem? (i := 8) rfl) rfl
theorem wd_2_9 : Cond.fieldLink RX4 15 (fl 4 1).1 (fl 4 1).2.1 (fl 4 1).2.2.1 ∈ TW := inC_2 _ (List.mem_of_getElem? (i := 9) rfl) rfl
theorem wd_2_10 : Cond.fieldLink RX11 359 (fl 4 1).1 (fl 4 1).2.1 (fl 4 1).2.2.1 ∈ TW := inC_2 _ (List.mem_of_getElem? (i := 10) rfl) rfl
theorem wd_2_11 : Cond.fieldLink RX4 19 (fl 4 2).1 (fl 4 2).2.1 (fl 4 2).2.2.1 ∈ TW := inC_2 _ (List.mem_of_getElem? (i := 11) rfl) rfl
theorem wd_2_12 : Cond.fieldLink RX11 360 (fl 4 2).1 (fl 4 2).2.1 (fl 4 2).2.2.1 ∈ TW := inC_2 _ (List.mem_of_getElem? (i := 12) rfl) rfl
theorem wd_2_13 : Cond.fieldLink RX4 22 (fl 4 3).1 (fl 4 3).2.1 (fl 4 3).2.2.1 ∈ TW := inC_2 _ (List.mem_of_getElem? (i := 13) rfl) rfl
theorem wd_2_14 : Cond.fieldLink RX11 479 (fl 4 3).1 (fl 4 3).2.1 (fl 4 3).2.2.1 ∈ TW := inC_2 _ (List.mem_of_getElem? (i := 14) rfl) rfl
theorem wd_2_15 : Cond.fieldLink RX4 25 (fl 4 4).1 (fl 4 4).2.1 (fl 4 4).2.2.1 ∈ TW := inC_2 _ (List.mem_of_getElem? (i := 15) rfl) rfl
theorem wd_2_16 : Cond.fieldLink RX11 481 (fl 4 4).1 (fl 4 4).2.1 (fl 4 4).2.2.1 ∈ TW := inC_2 _ (List.mem_of_getElem? (i := 16) rfl) rfl
theorem wd_2_17 : Cond.fieldLink RX4 28 (fl 4 5).1 (fl 4 5).2.1 (fl 4 5).2.2.1 ∈ TW := inC_2 _ (List.mem_of_getElem? (i := 17) rfl) rfl
theorem wd_2_18 : Cond.fieldLink RX11 476 (fl 4 5).1 (fl 4 5).2.1 (fl 4 5).2.2.1 ∈ TW := inC_2 _ (List.mem_of_getElem? (i := 18) rfl) rfl
theorem wd_2_19 : Cond.fieldLink RX4 32 (fl 4 6).1 (fl 4 6).2.1 (fl 4 6).2.2.1 ∈ TW := inC_2 _ (List.mem_of_getElem? (i := 19) rfl) rfl
theorem wd_2_20 : Cond.fieldLink RX4 35 (fl 4 7).1 (fl 4 7).2.1 (fl 4 7).2.2.1 ∈ TW := inC_2 _ (List.mem_of_getElem? (i := 20) rfl) rfl
theorem wd_2_21 : Cond.fieldLink RX4 38 (fl 4 8).1 (fl 4 8).2.1 (fl 4 8).2.2.1 ∈ TW := inC_2 _ (List.mem_of_getElem? (i := 21) rfl) rfl
theorem wd_2_22 : Cond.fieldLink RX4 41 (fl 4 9).1 (fl 4 9).2.1 (fl 4 9).2.2.1 ∈ TW := inC_2 _ (List.mem_of_getElem? (i := 22) rfl) rfl
theorem wd_2_23 : Cond.lays RX4 RX4 "size" "I" ∈ TW := inC_2 _ (List.mem_of_getElem? (i := 23) rfl) rfl
theorem wd_2_25 : Cond.laysFinal RX4 RX4 "matter" "[I" ∈ TW := inC_2 _ (List.mem_of_getElem? (i := 25) rfl) rfl
theorem wd_2_27 : Cond.laysFinal RX4 RX4 "day" "[I" ∈ TW := inC_2 _ (List.mem_of_getElem? (i := 27) rfl) rfl
theorem wd_2_29 : Cond.laysFinal RX4 RX4 "shops" "[I" ∈ TW := inC_2 _ (List.mem_of_getElem? (i := 29) rfl) rfl
theorem wd_2_31 : Cond.laysFinal RX4 RX4 "sum" "[I" ∈ TW := inC_2 _ (List.mem_of_getElem? (i := 31) rfl) rfl
theorem wd_2_33 : Cond.laysFinal RX4 RX4 "bound" "[Z" ∈ TW := inC_2 _ (List.mem_of_getElem? (i := 33) rfl) rfl
theorem wd_2_35 : Cond.lays RX4 RX4 "amounts" "I" ∈ TW := inC_2 _ (List.mem_of_getElem? (i := 35) rfl) rfl
theorem wd_2_37 : Cond.laysFinal RX4 RX4 "hungOn" "[I" ∈ TW := inC_2 _ (List.mem_of_getElem? (i := 37) rfl) rfl
theorem wd_2_39 : Cond.laysFinal RX4 RX4 "amount" "[I" ∈ TW := inC_2 _ (List.mem_of_getElem? (i := 39) rfl) rfl
theorem wd_2_41 : Cond.laysFinal RX4 RX4 "hungDay" "[I" ∈ TW := inC_2 _ (List.mem_of_getElem? (i := 41) rfl) rfl
theorem wd_2_44 : Cond.classLink RX11 61 RX8 ∈ TW := inC_2 _ (List.mem_of_getElem? (i := 44) rfl) rfl
theorem wd_2_45 : Cond.instantiable RX8 17 ∈ TW := inC_2 _ (List.mem_of_getElem? (i := 45) rfl) rfl
theorem wd_2_46 : Cond.methodLinkNest RX11 63 yX8_init RX11 ∈ lw_tbl := inL_2 _ (List.mem_of_getElem? (i := 46) rfl)
theorem wd_2_47 : Cond.instanceMethod yX8_init ∈ TW := inC_2 _ (List.mem_of_getElem? (i := 47) rfl) rfl
theorem wd_2_48 : Cond.code yX8_init cX8_init 1 none ∈ TW := inC_2 _ (List.mem_of_getElem? (i := 48) rfl) rfl
theorem wd_2_49 : Cond.methodLink RX8 3 Lib.objectInit ∈ TW := inC_2 _ (List.mem_of_getElem? (i := 49) rfl) rfl
theorem wd_2_50 : Cond.classLink RX8 37 "[[I" ∈ TW := inC_2 _ (List.mem_of_getElem? (i := 50) rfl) rfl
theorem wd_2_51 : Cond.arrayOver (.array .int) ∈ lw_tbl := inL_2 _ (List.mem_of_getElem? (i := 51) rfl)
theorem wd_2_52 : Cond.fieldLink RX8 9 (fl 8 0).1 (fl 8 0).2.1 (fl 8 0).2.2.1 ∈ TW := inC_2 _ (List.mem_of_getElem? (i := 52) rfl) rfl
theorem wd_2_53 : Cond.fieldLink RX8 15 (fl 8 1).1 (fl 8 1).2.1 (fl 8 1).2.2.1 ∈ TW := inC_2 _ (List.mem_of_getElem? (i := 53) rfl) rfl
theorem wd_2_54 : Cond.fieldLink RX8 18 (fl 8 2).1 (fl 8 2).2.1 (fl 8 2).2.2.1 ∈ TW := inC_2 _ (List.mem_of_getElem? (i := 54) rfl) rfl
theorem wd_2_55 : Cond.fieldLink RX8 22 (fl 8 3).1 (fl 8 3).2.1 (fl 8 3).2.2.1 ∈ TW := inC_2 _ (List.mem_of_getElem? (i := 55) rfl) rfl
theorem wd_2_56 : Cond.fieldLink RX8 25 (fl 8 4).1 (fl 8 4).2.1 (fl 8 4).2.2.1 ∈ TW := inC_2 _ (List.mem_of_getElem? (i := 56) rfl) rfl
theorem wd_2_57 : Cond.fieldLink RX8 28 (fl 8 5).1 (fl 8 5).2.1 (fl 8 5).2.2.1 ∈ TW := inC_2 _ (List.mem_of_getElem? (i := 57) rfl) rfl
theorem wd_2_58 : Cond.fieldLink RX8 31 (fl 8 6).1 (fl 8 6).2.1 (fl 8 6).2.2.1 ∈ TW := inC_2 _ (List.mem_of_getElem? (i := 58) rfl) rfl
theorem wd_2_59 : Cond.fieldLink RX8 34 (fl 8 7).1 (fl 8 7).2.1 (fl 8 7).2.2.1 ∈ TW := inC_2 _ (List.mem_of_getElem? (i := 59) rfl) rfl
theorem wd_2_60 : Cond.fieldLink RX8 39 (fl 8 8).1 (fl 8 8).2.1 (fl 8 8).2.2.1 ∈ TW := inC_2 _ (List.mem_of_getElem? (i := 60) rfl) rfl
theorem wd_2_61 : Cond.fieldLink RX8 42 (fl 8 9).1 (fl 8 9).2.1 (fl 8 9).2.2.1 ∈ TW := inC_2 _ (List.mem_of_getElem? (i := 61) rfl) rfl
theorem wd_2_62 : Cond.fieldLink RX8 45 (fl 8 10).1 (fl 8 10).2.1 (fl 8 10).2.2.1 ∈ TW := inC_2 _ (List.mem_of_getElem? (i := 62) rfl) rfl
theorem wd_2_63 : Cond.fieldLink RX8 48 (fl 8 11).1 (fl 8 11).2.1 (fl 8 11).2.2.1 ∈ TW := inC_2 _ (List.mem_of_getElem? (i := 63) rfl) rfl
theorem wd_2_64 : Cond.fieldLink RX8 51 (fl 8 12).1 (fl 8 12).2.1 (fl 8 12).2.2.1 ∈ TW := inC_2 _ (List.mem_of_getElem? (i := 64) rfl) rfl
theorem wd_2_65 : Cond.fieldLink RX8 54 (fl 8 13).1 (fl 8 13).2.1 (fl 8 13).2.2.1 ∈ TW := inC_2 _ (List.mem_of_getElem? (i := 65) rfl) rfl
theorem wd_2_66 : Cond.fieldLink RX8 58 (fl 8 14).1 (fl 8 14).2.1 (fl 8 14).2.2.1 ∈ TW := inC_2 _ (List.mem_of_getElem? (i := 66) rfl) rfl
theorem wd_2_67 : Cond.fieldLink RX8 61 (fl 8 15).1 (fl 8 15).2.1 (fl 8 15).2.2.1 ∈ TW := inC_2 _ (List.mem_of_getElem? (i := 67) rfl) rfl
theorem wd_2_68 : Cond.fieldLink RX8 65 (fl 8 16).1 (fl 8 16).2.1 (fl 8 16).2.2.1 ∈ TW := inC_2 _ (List.mem_of_getElem? (i := 68) rfl) rfl
theorem wd_2_69 : Cond.laysFinal RX8 RX8 "need" "[I" ∈ TW := inC_2 _ (List.mem_of_getElem? (i := 69) rfl) rfl
theorem wd_2_71 : Cond.laysFinal RX8 RX8 "team" "[I" ∈ TW := inC_2 _ (List.mem_of_getElem? (i := 71) rfl) rfl
theorem wd_2_73 : Cond.lays RX8 RX8 "rules" "I" ∈ TW := inC_2 _ (List.mem_of_getElem? (i := 73) rfl) rfl
theorem wd_2_75 : Cond.lays RX8 RX8 "most" "I" ∈ TW := inC_2 _ (List.mem_of_getElem? (i := 75) rfl) rfl
theorem wd_2_77 : Cond.lays RX8 RX8 "arrangements" "I" ∈ TW := inC_2 _ (List.mem_of_getElem? (i := 77) rfl) rfl
theorem wd_2_79 : Cond.laysFinal RX8 RX8 "codes" "[I" ∈ TW := inC_2 _ (List.mem_of_getElem? (i := 79) rfl) rfl
theorem wd_2_81 : Cond.laysFinal RX8 RX8 "nights" "[I" ∈ TW := inC_2 _ (List.mem_of_getElem? (i := 81) rfl) rfl
theorem wd_2_83 : Cond.laysFinal RX8 RX8 "byDay" "[I" ∈ TW := inC_2 _ (List.mem_of_getElem? (i := 83) rfl) rfl
theorem wd_2_85 : Cond.laysFinal RX8 RX8 "broken" "[[I" ∈ TW := inC_2 _ (List.mem_of_getElem? (i := 85) rfl) rfl
theorem wd_2_87 : Cond.laysFinal RX8 RX8 "leastAhead" "[I" ∈ TW := inC_2 _ (List.mem_of_getElem? (i := 87) rfl) rfl
theorem wd_2_89 : Cond.laysFinal RX8 RX8 "chosen" "[I" ∈ TW := inC_2 _ (List.mem_of_getElem? (i := 89) rfl) rfl
theorem wd_2_91 : Cond.laysFinal RX8 RX8 "best" "[I" ∈ TW := inC_2 _ (List.mem_of_getElem? (i := 91) rfl) rfl
theorem wd_2_93 : Cond.lays RX8 RX8 "fewest" "I" ∈ TW := inC_2 _ (List.mem_of_getElem? (i := 93) rfl) rfl
theorem wd_2_95 : Cond.laysFinal RX8 RX8 "seen" "[J" ∈ TW := inC_2 _ (List.mem_of_getElem? (i := 95) rfl) rfl
theorem wd_2_97 : Cond.laysFinal RX8 RX8 "seenBroken" "[I" ∈ TW := inC_2 _ (List.mem_of_getElem? (i := 97) rfl) rfl
theorem wd_2_99 : Cond.lays RX8 RX8 "found" "Z" ∈ TW := inC_2 _ (List.mem_of_getElem? (i := 99) rfl) rfl
theorem wd_2_101 : Cond.lays RX8 RX8 "foundShop" "I" ∈ TW := inC_2 _ (List.mem_of_getElem? (i := 101) rfl) rfl
theorem wd_2_104 : Cond.arrayClass .long ∈ TW := inC_2 _ (List.mem_of_getElem? (i := 104) rfl) rfl
theorem wd_2_105 : Cond.classLink RX11 68 RX10 ∈ TW := inC_2 _ (List.mem_of_getElem? (i := 105) rfl) rfl
theorem wd_2_106 : Cond.instantiable RX10 3 ∈ TW := inC_2 _ (List.mem_of_getElem? (i := 106) rfl) rfl
theorem wd_2_107 : Cond.methodLinkNest RX11 70 yX10_init RX11 ∈ lw_tbl := inL_2 _ (List.mem_of_getElem? (i := 107) rfl)
theorem wd_2_108 : Cond.instanceMethod yX10_init ∈ TW := inC_2 _ (List.mem_of_getElem? (i := 108) rfl) rfl
theorem wd_2_109 : Cond.code yX10_init cX10_init 1 none ∈ TW := inC_2 _ (List.mem_of_getElem? (i := 109) rfl) rfl
theorem wd_2_110 : Cond.methodLink RX10 3 Lib.objectInit ∈ TW := inC_2 _ (List.mem_of_getElem? (i := 110) rfl) rfl
theorem wd_2_111 : Cond.classLink RX10 15 "[[I" ∈ TW := inC_2 _ (List.mem_of_getElem? (i := 111) rfl) rfl
theorem wd_2_112 : Cond.fieldLink RX10 9 (fl 10 0).1 (fl 10 0).2.1 (fl 10 0).2.2.1 ∈ TW := inC_2 _ (List.mem_of_getElem? (i := 112) rfl) rfl
theorem wd_2_113 : Cond.fieldLink RX10 17 (fl 10 1).1 (fl 10 1).2.1 (fl 10 1).2.2.1 ∈ TW := inC_2 _ (List.mem_of_getElem? (i := 113) rfl) rfl
theorem wd_2_114 : Cond.fieldLink RX10 20 (fl 10 2).1 (fl 10 2).2.1 (fl 10 2).2.2.1 ∈ TW := inC_2 _ (List.mem_of_getElem? (i := 114) rfl) rfl
theorem wd_2_115 : Cond.laysFinal RX10 RX10 "count" "[I" ∈ TW := inC_2 _ (List.mem_of_getElem? (i := 115) rfl) rfl
theorem wd_2_117 : Cond.laysFinal RX10 RX10 "taken" "[[I" ∈ TW := inC_2 _ (List.mem_of_getElem? (i := 117) rfl) rfl
theorem wd_2_119 : Cond.laysFinal RX10 RX10 "day" "[[I" ∈ TW := inC_2 _ (List.mem_of_getElem? (i := 119) rfl) rfl
theorem wd_2_122 : Cond.classLink RX11 75 RX6 ∈ TW := inC_2 _ (List.mem_of_getElem? (i := 122) rfl) rfl
theorem wd_2_123 : Cond.instantiable RX6 9 ∈ TW := inC_2 _ (List.mem_of_getElem? (i := 123) rfl) rfl
theorem wd_2_124 : Cond.methodLinkNest RX11 77 yX6_init RX11 ∈ lw_tbl := inL_2 _ (List.mem_of_getElem? (i := 124) rfl)
theorem wd_2_125 : Cond.instanceMethod yX6_init ∈ TW := inC_2 _ (List.mem_of_getElem? (i := 125) rfl) rfl
theorem wd_2_126 : Cond.code yX6_init cX6_init 1 none ∈ TW := inC_2 _ (List.mem_of_getElem? (i := 126) rfl) rfl
theorem wd_2_127 : Cond.methodLink RX6 3 Lib.objectInit ∈ TW := inC_2 _ (List.mem_of_getElem? (i := 127) rfl) rfl
theorem wd_2_128 : Cond.fieldLink RX6 9 (fl 6 0).1 (fl 6 0).2.1 (fl 6 0).2.2.1 ∈ TW := inC_2 _ (List.mem_of_getElem? (i := 128) rfl) rfl
theorem wd_2_129 : Cond.fieldLink RX6 15 (fl 6 1).1 (fl 6 1).2.1 (fl 6 1).2.2.1 ∈ TW := inC_2 _ (List.mem_of_getElem? (i := 129) rfl) rfl
theorem wd_2_130 : Cond.fieldLink RX6 19 (fl 6 2).1 (fl 6 2).2.1 (fl 6 2).2.2.1 ∈ TW := inC_2 _ (List.mem_of_getElem? (i := 130) rfl) rfl
theorem wd_2_131 : Cond.fieldLink RX6 22 (fl 6 3).1 (fl 6 3).2.1 (fl 6 3).2.2.1 ∈ TW := inC_2 _ (List.mem_of_getElem? (i := 131) rfl) rfl
theorem wd_2_132 : Cond.fieldLink RX6 25 (fl 6 4).1 (fl 6 4).2.1 (fl 6 4).2.2.1 ∈ TW := inC_2 _ (List.mem_of_getElem? (i := 132) rfl) rfl
theorem wd_2_133 : Cond.fieldLink RX6 28 (fl 6 5).1 (fl 6 5).2.1 (fl 6 5).2.2.1 ∈ TW := inC_2 _ (List.mem_of_getElem? (i := 133) rfl) rfl
theorem wd_2_134 : Cond.fieldLink RX6 31 (fl 6 6).1 (fl 6 6).2.1 (fl 6 6).2.2.1 ∈ TW := inC_2 _ (List.mem_of_getElem? (i := 134) rfl) rfl
theorem wd_2_135 : Cond.fieldLink RX6 34 (fl 6 7).1 (fl 6 7).2.1 (fl 6 7).2.2.1 ∈ TW := inC_2 _ (List.mem_of_getElem? (i := 135) rfl) rfl
theorem wd_2_136 : Cond.fieldLink RX6 37 (fl 6 8).1 (fl 6 8).2.1 (fl 6 8).2.2.1 ∈ TW := inC_2 _ (List.mem_of_getElem? (i := 136) rfl) rfl
theorem wd_2_137 : Cond.lays RX6 RX6 "size" "I" ∈ TW := inC_2 _ (List.mem_of_getElem? (i := 137) rfl) rfl
theorem wd_2_139 : Cond.laysFinal RX6 RX6 "length" "[I" ∈ TW := inC_2 _ (List.mem_of_getElem? (i := 139) rfl) rfl
theorem wd_2_141 : Cond.laysFinal RX6 RX6 "due" "[I" ∈ TW := inC_2 _ (List.mem_of_getElem? (i := 141) rfl) rfl
theorem wd_2_143 : Cond.laysFinal RX6 RX6 "waits" "[I" ∈ TW := inC_2 _ (List.mem_of_getElem? (i := 143) rfl) rfl
theorem wd_2_145 : Cond.laysFinal RX6 RX6 "place" "[I" ∈ TW := inC_2 _ (List.mem_of_getElem? (i := 145) rfl) rfl
theorem wd_2_147 : Cond.laysFinal RX6 RX6 "full" "[I" ∈ TW := inC_2 _ (List.mem_of_getElem? (i := 147) rfl) rfl
theorem wd_2_149 : Cond.laysFinal RX6 RX6 "best" "[I" ∈ TW := inC_2 _ (List.mem_of_getElem? (i := 149) rfl) rfl
theorem wd_2_151 : Cond.lays RX6 RX6 "bestLate" "I" ∈ TW := inC_2 _ (List.mem_of_getElem? (i := 151) rfl) rfl
theorem wd_2_153 : Cond.lays RX6 RX6 "roomy" "I" ∈ TW := inC_2 _ (List.mem_of_getElem? (i := 153) rfl) rfl
theorem wd_2_156 : Cond.classLink RX11 82 "[[I" ∈ TW := inC_2 _ (List.mem_of_getElem? (i := 156) rfl) rfl
theorem wd_2_157 : Cond.instantiable RX5 15 ∈ TW := inC_2 _ (List.mem_of_getElem? (i := 157) rfl) rfl
theorem wd_2_158 : Cond.methodLink RX11 100 yX5_init ∈ TW := inC_2 _ (List.mem_of_getElem? (i := 158) rfl) rfl
theorem wd_2_159 : Cond.instanceMethod yX5_init ∈ TW := inC_2 _ (List.mem_of_getElem? (i := 159) rfl) rfl
theorem wd_2_160 : Cond.code yX5_init cX5_init 3 none ∈ TW := inC_2 _ (List.mem_of_getElem? (i := 160) rfl) rfl
theorem wd_2_161 : Cond.methodLink RX5 3 Lib.objectInit ∈ TW := inC_2 _ (List.mem_of_getElem? (i := 161) rfl) rfl
theorem wd_2_162 : Cond.fieldLink RX5 53 (fl 5 0).1 (fl 5 0).2.1 (fl 5 0).2.2.1 ∈ TW := inC_2 _ (List.mem_of_getElem? (i := 162) rfl) rfl
theorem wd_2_163 : Cond.fieldLink RX5 57 (fl 5 1).1 (fl 5 1).2.1 (fl 5 1).2.2.1 ∈ TW := inC_2 _ (List.mem_of_getElem? (i := 163) rfl) rfl
theorem wd_2_164 : Cond.fieldLink RX5 9 (fl 5 2).1 (fl 5 2).2.1 (fl 5 2).2.2.1 ∈ TW := inC_2 _ (List.mem_of_getElem? (i := 164) rfl) rfl
theorem wd_2_165 : Cond.fieldLink RX5 15 (fl 5 3).1 (fl 5 3).2.1 (fl 5 3).2.2.1 ∈ TW := inC_2 _ (List.mem_of_getElem? (i := 165) rfl) rfl
theorem wd_2_166 : Cond.fieldLink RX11 470 (fl 5 3).1 (fl 5 3).2.1 (fl 5 3).2.2.1 ∈ TW := inC_2 _ (List.mem_of_getElem? (i := 166) rfl) rfl
theorem wd_2_167 : Cond.fieldLink RX5 18 (fl 5 4).1 (fl 5 4).2.1 (fl 5 4).2.2.1 ∈ TW := inC_2 _ (List.mem_of_getElem? (i := 167) rfl) rfl
theorem wd_2_168 : Cond.fieldLink RX11 484 (fl 5 4).1 (fl 5 4).2.1 (fl 5 4).2.2.1 ∈ TW := inC_2 _ (List.mem_of_getElem? (i := 168) rfl) rfl
theorem wd_2_169 : Cond.fieldLink RX5 21 (fl 5 5).1 (fl 5 5).2.1 (fl 5 5).2.2.1 ∈ TW := inC_2 _ (List.mem_of_getElem? (i := 169) rfl) rfl
theorem wd_2_170 : Cond.fieldLink RX11 236 (fl 5 5).1 (fl 5 5).2.1 (fl 5 5).2.2.1 ∈ TW := inC_2 _ (List.mem_of_getElem? (i := 170) rfl) rfl
theorem wd_2_171 : Cond.fieldLink RX5 24 (fl 5 6).1 (fl 5 6).2.1 (fl 5 6).2.2.1 ∈ TW := inC_2 _ (List.mem_of_getElem? (i := 171) rfl) rfl
theorem wd_2_172 : Cond.fieldLink RX11 220 (fl 5 6).1 (fl 5 6).2.1 (fl 5 6).2.2.1 ∈ TW := inC_2 _ (List.mem_of_getElem? (i := 172) rfl) rfl
theorem wd_2_173 : Cond.fieldLink RX5 27 (fl 5 7).1 (fl 5 7).2.1 (fl 5 7).2.2.1 ∈ TW := inC_2 _ (List.mem_of_getElem? (i := 173) rfl) rfl
theorem wd_2_174 : Cond.fieldLink RX11 224 (fl 5 7).1 (fl 5 7).2.1 (fl 5 7).2.2.1 ∈ TW := inC_2 _ (List.mem_of_getElem? (i := 174) rfl) rfl
theorem wd_2_175 : Cond.fieldLink RX5 30 (fl 5 8).1 (fl 5 8).2.1 (fl 5 8).2.2.1 ∈ TW := inC_2 _ (List.mem_of_getElem? (i := 175) rfl) rfl
theorem wd_2_176 : Cond.fieldLink RX5 33 (fl 5 9).1 (fl 5 9).2.1 (fl 5 9).2.2.1 ∈ TW := inC_2 _ (List.mem_of_getElem? (i := 176) rfl) rfl
theorem wd_2_177 : Cond.fieldLink RX5 36 (fl 5 10).1 (fl 5 10).2.1 (fl 5 10).2.2.1 ∈ TW := inC_2 _ (List.mem_of_getElem? (i := 177) rfl) rfl
theorem wd_2_178 : Cond.fieldLink RX5 40 (fl 5 11).1 (fl 5 11).2.1 (fl 5 11).2.2.1 ∈ TW := inC_2 _ (List.mem_of_getElem? (i := 178) rfl) rfl
theorem wd_2_179 : Cond.fieldLink RX11 233 (fl 5 11).1 (fl 5 11).2.1 (fl 5 11).2.2.1 ∈ TW := inC_2 _ (List.mem_of_getElem? (i := 179) rfl) rfl
theorem wd_2_180 : Cond.fieldLink RX5 43 (fl 5 12).1 (fl 5 12).2.1 (fl 5 12).2.2.1 ∈ TW := inC_2 _ (List.mem_of_getElem? (i := 180) rfl) rfl
theorem wd_2_181 : Cond.fieldLink RX5 47 (fl 5 13).1 (fl 5 13).2.1 (fl 5 13).2.2.1 ∈ TW := inC_2 _ (List.mem_of_getElem? (i := 181) rfl) rfl
theorem wd_2_182 : Cond.fieldLink RX5 50 (fl 5 14).1 (fl 5 14).2.1 (fl 5 14).2.2.1 ∈ TW := inC_2 _ (List.mem_of_getElem? (i := 182) rfl) rfl
theorem wd_2_183 : Cond.laysFinal RX5 RX5 "calendar" "LWorksCouncil$Days;" ∈ TW := inC_2 _ (List.mem_of_getElem? (i := 183) rfl) rfl
theorem wd_2_185 : Cond.laysFinal RX5 RX5 "council" "LWorksCouncil$Council;" ∈ TW := inC_2 _ (List.mem_of_getElem? (i := 185) rfl) rfl
theorem wd_2_187 : Cond.lays RX5 RX5 "theWhat" "I" ∈ TW := inC_2 _ (List.mem_of_getElem? (i := 187) rfl) rfl
theorem wd_2_189 : Cond.lays RX5 RX5 "shops" "I" ∈ TW := inC_2 _ (List.mem_of_getElem? (i := 189) rfl) rfl
theorem wd_2_191 : Cond.lays RX5 RX5 "sum" "I" ∈ TW := inC_2 _ (List.mem_of_getElem? (i := 191) rfl) rfl
theorem wd_2_193 : Cond.lays RX5 RX5 "giver" "I" ∈ TW := inC_2 _ (List.mem_of_getElem? (i := 193) rfl) rfl
theorem wd_2_195 : Cond.lays RX5 RX5 "opened" "I" ∈ TW := inC_2 _ (List.mem_of_getElem? (i := 195) rfl) rfl
theorem wd_2_197 : Cond.lays RX5 RX5 "kind" "I" ∈ TW := inC_2 _ (List.mem_of_getElem? (i := 197) rfl) rfl
theorem wd_2_199 : Cond.lays RX5 RX5 "needs" "I" ∈ TW := inC_2 _ (List.mem_of_getElem? (i := 199) rfl) rfl
theorem wd_2_201 : Cond.lays RX5 RX5 "span" "I" ∈ TW := inC_2 _ (List.mem_of_getElem? (i := 201) rfl) rfl
theorem wd_2_203 : Cond.lays RX5 RX5 "passes" "Z" ∈ TW := inC_2 _ (List.mem_of_getElem? (i := 203) rfl) rfl
theorem wd_2_205 : Cond.lays RX5 RX5 "tellings" "I" ∈ TW := inC_2 _ (List.mem_of_getElem? (i := 205) rfl) rfl
theorem wd_2_207 : Cond.laysFinal RX5 RX5 "told" "[I" ∈ TW := inC_2 _ (List.mem_of_getElem? (i := 207) rfl) rfl
theorem wd_2_209 : Cond.laysFinal RX5 RX5 "about" "[I" ∈ TW := inC_2 _ (List.mem_of_getElem? (i := 209) rfl) rfl
theorem wd_2_211 : Cond.laysFinal RX5 RX5 "day" "[I" ∈ TW := inC_2 _ (List.mem_of_getElem? (i := 211) rfl) rfl
theorem wd_2_214 : Cond.fieldLink RX11 10 (fl 11 0).1 (fl 11 0).2.1 (fl 11 0).2.2.1 ∈ TW := inC_2 _ (List.mem_of_getElem? (i := 214) rfl) rfl
theorem wd_2_215 : Cond.fieldLink RX11 19 (fl 11 1).1 (fl 11 1).2.1 (fl 11 1).2.2.1 ∈ TW := inC_2 _ (List.mem_of_getElem? (i := 215) rfl) rfl
theorem wd_2_216 : Cond.fieldLink RX11 26 (fl 11 2).1 (fl 11 2).2.1 (fl 11 2).2.2.1 ∈ TW := inC_2 _ (List.mem_of_getElem? (i := 216) rfl) rfl
theorem wd_2_217 : Cond.fieldLink RX11 33 (fl 11 3).1 (fl 11 3).2.1 (fl 11 3).2.2.1 ∈ TW := inC_2 _ (List.mem_of_getElem? (i := 217) rfl) rfl
theorem wd_2_218 : Cond.fieldLink RX11 39 (fl 11 4).1 (fl 11 4).2.1 (fl 11 4).2.2.1 ∈ TW := inC_2 _ (List.mem_of_getElem? (i := 218) rfl) rfl
theorem wd_2_219 : Cond.fieldLink RX11 43 (fl 11 5).1 (fl 11 5).2.1 (fl 11 5).2.2.1 ∈ TW := inC_2 _ (List.mem_of_getElem? (i := 219) rfl) rfl
theorem wd_2_220 : Cond.fieldLink RX11 50 (fl 11 6).1 (fl 11 6).2.1 (fl 11 6).2.2.1 ∈ TW := inC_2 _ (List.mem_of_getElem? (i := 220) rfl) rfl
theorem wd_2_221 : Cond.fieldLink RX11 57 (fl 11 7).1 (fl 11 7).2.1 (fl 11 7).2.2.1 ∈ TW := inC_2 _ (List.mem_of_getElem? (i := 221) rfl) rfl
theorem wd_2_222 : Cond.fieldLink RX11 64 (fl 11 8).1 (fl 11 8).2.1 (fl 11 8).2.2.1 ∈ TW := inC_2 _ (List.mem_of_getElem? (i := 222) rfl) rfl
theorem wd_2_223 : Cond.fieldLink RX11 71 (fl 11 9).1 (fl 11 9).2.1 (fl 11 9).2.2.1 ∈ TW := inC_2 _ (List.mem_of_getElem? (i := 223) rfl) rfl
theorem wd_2_224 : Cond.fieldLink RX11 78 (fl 11 10).1 (fl 11 10).2.1 (fl 11 10).2.2.1 ∈ TW := inC_2 _ (List.mem_of_getElem? (i := 224) rfl) rfl
theorem wd_2_225 : Cond.fieldLink RX11 84 (fl 11 11).1 (fl 11 11).2.1 (fl 11 11).2.2.1 ∈ TW := inC_2 _ (List.mem_of_getElem? (i := 225) rfl) rfl
theorem wd_2_226 : Cond.fieldLink RX11 87 (fl 11 12).1 (fl 11 12).2.1 (fl 11 12).2.2.1 ∈ TW := inC_2 _ (List.mem_of_getElem? (i := 226) rfl) rfl
theorem wd_2_227 : Cond.fieldLink RX11 91 (fl 11 13).1 (fl 11 13).2.1 (fl 11 13).2.2.1 ∈ TW := inC_2 _ (List.mem_of_getElem? (i := 227) rfl) rfl
theorem wd_2_228 : Cond.fieldLink RX11 94 (fl 11 14).1 (fl 11 14).2.1 (fl 11 14).2.2.1 ∈ TW := inC_2 _ (List.mem_of_getElem? (i := 228) rfl) rfl
theorem wd_2_229 : Cond.fieldLink RX11 97 (fl 11 15).1 (fl 11 15).2.1 (fl 11 15).2.2.1 ∈ TW := inC_2 _ (List.mem_of_getElem? (i := 229) rfl) rfl
theorem wd_2_230 : Cond.laysFinal RX11 RX11 "calendar" "LWorksCouncil$Days;" ∈ TW := inC_2 _ (List.mem_of_getElem? (i := 230) rfl) rfl
theorem wd_2_232 : Cond.laysFinal RX11 RX11 "staff" "LWorksCouncil$Staff;" ∈ TW := inC_2 _ (List.mem_of_getElem? (i := 232) rfl) rfl
theorem wd_2_234 : Cond.laysFinal RX11 RX11 "acts" "LWorksCouncil$Acts;" ∈ TW := inC_2 _ (List.mem_of_getElem? (i := 234) rfl) rfl
theorem wd_2_236 : Cond.laysFinal RX11 RX11 "council" "LWorksCouncil$Council;" ∈ TW := inC_2 _ (List.mem_of_getElem? (i := 236) rfl) rfl
theorem wd_2_238 : Cond.laysFinal RX11 RX11 "matters" "[LWorksCouncil$Matter;" ∈ TW := inC_2 _ (List.mem_of_getElem? (i := 238) rfl) rfl
theorem wd_3_0 : Cond.lays RX11 RX11 "opened" "I" ∈ TW := inC_3 _ (List.mem_of_getElem? (i := 0) rfl) rfl
theorem wd_3_2 : Cond.laysFinal RX11 RX11 "agreements" "LWorksCouncil$Agreements;" ∈ TW := inC_3 _ (List.mem_of_getElem? (i := 2) rfl) rfl
theorem wd_3_4 : Cond.laysFinal RX11 RX11 "deeds" "LWorksCouncil$Deeds;" ∈ TW := inC_3 _ (List.mem_of_getElem? (i := 4) rfl) rfl
theorem wd_3_6 : Cond.laysFinal RX11 RX11 "roster" "LWorksCouncil$Roster;" ∈ TW := inC_3 _ (List.mem_of_getElem? (i := 6) rfl) rfl
theorem wd_3_8 : Cond.laysFinal RX11 RX11 "studies" "LWorksCouncil$Studies;" ∈ TW := inC_3 _ (List.mem_of_getElem? (i := 8) rfl) rfl
theorem wd_3_10 : Cond.laysFinal RX11 RX11 "places" "LWorksCouncil$Plan;" ∈ TW := inC_3 _ (List.mem_of_getElem? (i := 10) rfl) rfl
theorem wd_3_12 : Cond.laysFinal RX11 RX11 "terms" "[[I" ∈ TW := inC_3 _ (List.mem_of_getElem? (i := 12) rfl) rfl
theorem wd_3_14 : Cond.laysFinal RX11 RX11 "settings" "[I" ∈ TW := inC_3 _ (List.mem_of_getElem? (i := 14) rfl) rfl
theorem wd_3_16 : Cond.laysFinal RX11 RX11 "row" "[I" ∈ TW := inC_3 _ (List.mem_of_getElem? (i := 16) rfl) rfl
theorem wd_3_18 : Cond.lays RX11 RX11 "rowLength" "I" ∈ TW := inC_3 _ (List.mem_of_getElem? (i := 18) rfl) rfl
theorem wd_3_20 : Cond.laysFinal RX11 RX11 "refusals" "[I" ∈ TW := inC_3 _ (List.mem_of_getElem? (i := 20) rfl) rfl
theorem wd_3_23 : Cond.methodLink RL 46 yX11_days ∈ TW := inC_3 _ (List.mem_of_getElem? (i := 23) rfl) rfl
theorem wd_3_24 : Cond.instanceMethod yX11_days ∈ TW := inC_3 _ (List.mem_of_getElem? (i := 24) rfl) rfl
theorem wd_3_25 : Cond.selects RX11 yX11_days yX11_days ∈ TW := inC_3 _ (List.mem_of_getElem? (i := 25) rfl) rfl
theorem wd_3_26 : Cond.code yX11_days cX11_days 2 (some .int) ∈ TW := inC_3 _ (List.mem_of_getElem? (i := 26) rfl) rfl
theorem wd_3_27 : Cond.methodLink RX11 103 yX11_refuse ∈ TW := inC_3 _ (List.mem_of_getElem? (i := 27) rfl) rfl
theorem wd_3_28 : Cond.privateMethod yX11_refuse ∈ lw_tbl := inL_3 _ (List.mem_of_getElem? (i := 28) rfl)
theorem wd_3_29 : Cond.instanceMethod yX11_refuse ∈ TW := inC_3 _ (List.mem_of_getElem? (i := 29) rfl) rfl
theorem wd_3_30 : Cond.code yX11_refuse cX11_refuse 2 (some .int) ∈ TW := inC_3 _ (List.mem_of_getElem? (i := 30) rfl) rfl
theorem wd_3_31 : Cond.methodLink RL 20 yX11_act ∈ TW := inC_3 _ (List.mem_of_getElem? (i := 31) rfl) rfl
theorem wd_3_32 : Cond.instanceMethod yX11_act ∈ TW := inC_3 _ (List.mem_of_getElem? (i := 32) rfl) rfl
theorem wd_3_33 : Cond.selects RX11 yX11_act yX11_act ∈ TW := inC_3 _ (List.mem_of_getElem? (i := 33) rfl) rfl
theorem wd_3_34 : Cond.code yX11_act cX11_act 4 (some .int) ∈ TW := inC_3 _ (List.mem_of_getElem? (i := 34) rfl) rfl
theorem wd_3_35 : Cond.methodLink RX11 110 yX11_outside ∈ TW := inC_3 _ (List.mem_of_getElem? (i := 35) rfl) rfl
theorem wd_3_36 : Cond.static yX11_outside ∈ TW := inC_3 _ (List.mem_of_getElem? (i := 36) rfl) rfl
theorem wd_3_37 : Cond.code yX11_outside cX11_outside 3 (some .int) ∈ TW := inC_3 _ (List.mem_of_getElem? (i := 37) rfl) rfl
theorem wd_3_38 : Cond.methodLink RX11 131 yX11_fullAt ∈ TW := inC_3 _ (List.mem_of_getElem? (i := 38) rfl) rfl
theorem wd_3_39 : Cond.static yX11_fullAt ∈ TW := inC_3 _ (List.mem_of_getElem? (i := 39) rfl) rfl
theorem wd_3_40 : Cond.code yX11_fullAt cX11_fullAt 2 (some .int) ∈ TW := inC_3 _ (List.mem_of_getElem? (i := 40) rfl) rfl
theorem wd_3_41 : Cond.methodLink RX11 118 yX11_worse ∈ TW := inC_3 _ (List.mem_of_getElem? (i := 41) rfl) rfl
theorem wd_3_42 : Cond.static yX11_worse ∈ TW := inC_3 _ (List.mem_of_getElem? (i := 42) rfl) rfl
theorem wd_3_43 : Cond.code yX11_worse cX11_worse 2 (some .int) ∈ TW := inC_3 _ (List.mem_of_getElem? (i := 43) rfl) rfl
theorem wd_3_44 : Cond.methodLink RX11 452 yJ9_min_7cf53 ∈ TW := inC_3 _ (List.mem_of_getElem? (i := 44) rfl) rfl
theorem wd_3_45 : Cond.static yJ9_min_7cf53 ∈ TW := inC_3 _ (List.mem_of_getElem? (i := 45) rfl) rfl
theorem wd_3_46 : Cond.code yJ9_min_7cf53 cJ9_min_7cf53 2 (some .int) ∈ TW := inC_3 _ (List.mem_of_getElem? (i := 46) rfl) rfl
theorem wd_3_47 : Cond.methodLink RX11 157 yX0_faultOfText ∈ TW := inC_3 _ (List.mem_of_getElem? (i := 47) rfl) rfl
theorem wd_3_48 : Cond.instanceMethod yX0_faultOfText ∈ TW := inC_3 _ (List.mem_of_getElem? (i := 48) rfl) rfl
theorem wd_3_49 : Cond.selects RX0 yX0_faultOfText yX0_faultOfText ∈ TW := inC_3 _ (List.mem_of_getElem? (i := 49) rfl) rfl
theorem wd_3_50 : Cond.code yX0_faultOfText cX0_faultOfText 1 (some .int) ∈ TW := inC_3 _ (List.mem_of_getElem? (i := 50) rfl) rfl
theorem wd_3_51 : Cond.methodLink RX0 37 yX7_faultOf ∈ TW := inC_3 _ (List.mem_of_getElem? (i := 51) rfl) rfl
theorem wd_3_52 : Cond.instanceMethod yX7_faultOf ∈ TW := inC_3 _ (List.mem_of_getElem? (i := 52) rfl) rfl
theorem wd_3_53 : Cond.selects RX7 yX7_faultOf yX7_faultOf ∈ TW := inC_3 _ (List.mem_of_getElem? (i := 53) rfl) rfl
theorem wd_3_54 : Cond.code yX7_faultOf cX7_faultOf 3 (some .int) ∈ TW := inC_3 _ (List.mem_of_getElem? (i := 54) rfl) rfl
theorem wd_3_55 : Cond.methodLink RX7 45 yX7_begin ∈ TW := inC_3 _ (List.mem_of_getElem? (i := 55) rfl) rfl
theorem wd_3_56 : Cond.privateMethod yX7_begin ∈ lw_tbl := inL_3 _ (List.mem_of_getElem? (i := 56) rfl)
theorem wd_3_57 : Cond.instanceMethod yX7_begin ∈ TW := inC_3 _ (List.mem_of_getElem? (i := 57) rfl) rfl
theorem wd_3_58 : Cond.code yX7_begin cX7_begin 4 none ∈ TW := inC_3 _ (List.mem_of_getElem? (i := 58) rfl) rfl
theorem wd_3_59 : Cond.methodLink RX7 60 yJ9_min_7cf53 ∈ TW := inC_3 _ (List.mem_of_getElem? (i := 59) rfl) rfl
theorem wd_3_60 : Cond.methodLink RX7 66 yX7_openLevel ∈ TW := inC_3 _ (List.mem_of_getElem? (i := 60) rfl) rfl
theorem wd_3_61 : Cond.privateMethod yX7_openLevel ∈ lw_tbl := inL_3 _ (List.mem_of_getElem? (i := 61) rfl)
theorem wd_3_62 : Cond.instanceMethod yX7_openLevel ∈ TW := inC_3 _ (List.mem_of_getElem? (i := 62) rfl) rfl
theorem wd_3_63 : Cond.code yX7_openLevel cX7_openLevel 2 none ∈ TW := inC_3 _ (List.mem_of_getElem? (i := 63) rfl) rfl
theorem wd_3_64 : Cond.methodLink RX7 49 yX7_expect ∈ TW := inC_3 _ (List.mem_of_getElem? (i := 64) rfl) rfl
theorem wd_3_65 : Cond.privateMethod yX7_expect ∈ lw_tbl := inL_3 _ (List.mem_of_getElem? (i := 65) rfl)
theorem wd_3_66 : Cond.instanceMethod yX7_expect ∈ TW := inC_3 _ (List.mem_of_getElem? (i := 66) rfl) rfl
theorem wd_3_67 : Cond.code yX7_expect cX7_expect 4 none ∈ TW := inC_3 _ (List.mem_of_getElem? (i := 67) rfl) rfl
theorem wd_3_68 : Cond.methodLink RX7 70 yX7_sign ∈ TW := inC_3 _ (List.mem_of_getElem? (i := 68) rfl) rfl
theorem wd_3_69 : Cond.privateMethod yX7_sign ∈ lw_tbl := inL_3 _ (List.mem_of_getElem? (i := 69) rfl)
theorem wd_3_70 : Cond.instanceMethod yX7_sign ∈ TW := inC_3 _ (List.mem_of_getElem? (i := 70) rfl) rfl
theorem wd_3_71 : Cond.code yX7_sign cX7_sign 1 (some .int) ∈ TW := inC_3 _ (List.mem_of_getElem? (i := 71) rfl) rfl
theorem wd_3_72 : Cond.methodLink RX7 57 yX7_fail ∈ TW := inC_3 _ (List.mem_of_getElem? (i := 72) rfl) rfl
theorem wd_3_73 : Cond.privateMethod yX7_fail ∈ lw_tbl := inL_3 _ (List.mem_of_getElem? (i := 73) rfl)
theorem wd_3_74 : Cond.instanceMethod yX7_fail ∈ TW := inC_3 _ (List.mem_of_getElem? (i := 74) rfl) rfl
theorem wd_3_75 : Cond.code yX7_fail cX7_fail 1 none ∈ TW := inC_3 _ (List.mem_of_getElem? (i := 75) rfl) rfl
theorem wd_3_76 : Cond.methodLink RX7 53 yX7_ruleHolds ∈ TW := inC_3 _ (List.mem_of_getElem? (i := 76) rfl) rfl
theorem wd_3_77 : Cond.privateMethod yX7_ruleHolds ∈ lw_tbl := inL_3 _ (List.mem_of_getElem? (i := 77) rfl)
theorem wd_3_78 : Cond.instanceMethod yX7_ruleHolds ∈ TW := inC_3 _ (List.mem_of_getElem? (i := 78) rfl) rfl
theorem wd_3_79 : Cond.code yX7_ruleHolds cX7_ruleHolds 3 (some .boolean) ∈ TW := inC_3 _ (List.mem_of_getElem? (i := 79) rfl) rfl
theorem wd_3_80 : Cond.methodLink RX7 74 yX7_readOpenings ∈ TW := inC_3 _ (List.mem_of_getElem? (i := 80) rfl) rfl
theorem wd_3_81 : Cond.privateMethod yX7_readOpenings ∈ lw_tbl := inL_3 _ (List.mem_of_getElem? (i := 81) rfl)
theorem wd_3_82 : Cond.instanceMethod yX7_readOpenings ∈ TW := inC_3 _ (List.mem_of_getElem? (i := 82) rfl) rfl
theorem wd_3_83 : Cond.code yX7_readOpenings cX7_readOpenings 3 none ∈ TW := inC_3 _ (List.mem_of_getElem? (i := 83) rfl) rfl
theorem wd_3_84 : Cond.methodLink RX7 77 yX7_comparisonHolds ∈ TW := inC_3 _ (List.mem_of_getElem? (i := 84) rfl) rfl
theorem wd_3_85 : Cond.privateMethod yX7_comparisonHolds ∈ lw_tbl := inL_3 _ (List.mem_of_getElem? (i := 85) rfl)
theorem wd_3_86 : Cond.instanceMethod yX7_comparisonHolds ∈ TW := inC_3 _ (List.mem_of_getElem? (i := 86) rfl) rfl
theorem wd_3_87 : Cond.code yX7_comparisonHolds cX7_comparisonHolds 4 (some .boolean) ∈ TW := inC_3 _ (List.mem_of_getElem? (i := 87) rfl) rfl
theorem wd_3_88 : Cond.methodLink RX7 90 yX7_sum ∈ TW := inC_3 _ (List.mem_of_getElem? (i := 88) rfl) rfl
theorem wd_3_89 : Cond.privateMethod yX7_sum ∈ lw_tbl := inL_3 _ (List.mem_of_getElem? (i := 89) rfl)
theorem wd_3_90 : Cond.instanceMethod yX7_sum ∈ TW := inC_3 _ (List.mem_of_getElem? (i := 90) rfl) rfl
theorem wd_3_91 : Cond.code yX7_sum cX7_sum 5 (some .int) ∈ TW := inC_3 _ (List.mem_of_getElem? (i := 91) rfl) rfl
theorem wd_3_92 : Cond.methodLink RX7 93 yX7_unit ∈ TW := inC_3 _ (List.mem_of_getElem? (i := 92) rfl) rfl
theorem wd_3_93 : Cond.privateMethod yX7_unit ∈ lw_tbl := inL_3 _ (List.mem_of_getElem? (i := 93) rfl)
theorem wd_3_94 : Cond.instanceMethod yX7_unit ∈ TW := inC_3 _ (List.mem_of_getElem? (i := 94) rfl) rfl
theorem wd_3_95 : Cond.code yX7_unit cX7_unit 4 (some .int) ∈ TW := inC_3 _ (List.mem_of_getElem? (i := 95) rfl) rfl
theorem wd_3_96 : Cond.methodLink RX7 96 yX7_factOf ∈ TW := inC_3 _ (List.mem_of_getElem? (i := 96) rfl) rfl
theorem wd_3_97 : Cond.static yX7_factOf ∈ TW := inC_3 _ (List.mem_of_getElem? (i := 97) rfl) rfl
theorem wd_3_98 : Cond.code yX7_factOf cX7_factOf 1 (some .int) ∈ TW := inC_3 _ (List.mem_of_getElem? (i := 98) rfl) rfl
theorem wd_3_99 : Cond.methodLink RX7 80 yX7_endPart ∈ TW := inC_3 _ (List.mem_of_getElem? (i := 99) rfl) rfl
theorem wd_3_100 : Cond.privateMethod yX7_endPart ∈ lw_tbl := inL_3 _ (List.mem_of_getElem? (i := 100) rfl)
theorem wd_3_101 : Cond.instanceMethod yX7_endPart ∈ TW := inC_3 _ (List.mem_of_getElem? (i := 101) rfl) rfl
theorem wd_3_102 : Cond.code yX7_endPart cX7_endPart 3 none ∈ TW := inC_3 _ (List.mem_of_getElem? (i := 102) rfl) rfl
theorem wd_3_103 : Cond.methodLink RX7 84 yX7_readClosings ∈ TW := inC_3 _ (List.mem_of_getElem? (i := 103) rfl) rfl
theorem wd_3_104 : Cond.privateMethod yX7_readClosings ∈ lw_tbl := inL_3 _ (List.mem_of_getElem? (i := 104) rfl)
theorem wd_3_105 : Cond.instanceMethod yX7_readClosings ∈ TW := inC_3 _ (List.mem_of_getElem? (i := 105) rfl) rfl
theorem wd_3_106 : Cond.code yX7_readClosings cX7_readClosings 3 none ∈ TW := inC_3 _ (List.mem_of_getElem? (i := 106) rfl) rfl
theorem wd_3_107 : Cond.methodLink RX7 87 yX7_joinsNext ∈ TW := inC_3 _ (List.mem_of_getElem? (i := 107) rfl) rfl
theorem wd_3_108 : Cond.privateMethod yX7_joinsNext ∈ lw_tbl := inL_3 _ (List.mem_of_getElem? (i := 108) rfl)
theorem wd_3_109 : Cond.instanceMethod yX7_joinsNext ∈ TW := inC_3 _ (List.mem_of_getElem? (i := 109) rfl) rfl
theorem wd_3_110 : Cond.code yX7_joinsNext cX7_joinsNext 2 (some .boolean) ∈ TW := inC_3 _ (List.mem_of_getElem? (i := 110) rfl) rfl
theorem wd_3_111 : Cond.methodLink RX11 160 yX0_dropText ∈ TW := inC_3 _ (List.mem_of_getElem? (i := 111) rfl) rfl
theorem wd_3_112 : Cond.instanceMethod yX0_dropText ∈ TW := inC_3 _ (List.mem_of_getElem? (i := 112) rfl) rfl
theorem wd_3_113 : Cond.selects RX0 yX0_dropText yX0_dropText ∈ TW := inC_3 _ (List.mem_of_getElem? (i := 113) rfl) rfl
theorem wd_3_114 : Cond.code yX0_dropText cX0_dropText 1 none ∈ TW := inC_3 _ (List.mem_of_getElem? (i := 114) rfl) rfl
theorem wd_3_115 : Cond.methodLink RX11 163 yX0_takeText ∈ TW := inC_3 _ (List.mem_of_getElem? (i := 115) rfl) rfl
theorem wd_3_116 : Cond.instanceMethod yX0_takeText ∈ TW := inC_3 _ (List.mem_of_getElem? (i := 116) rfl) rfl
theorem wd_3_117 : Cond.selects RX0 yX0_takeText yX0_takeText ∈ TW := inC_3 _ (List.mem_of_getElem? (i := 117) rfl) rfl
theorem wd_3_118 : Cond.code yX0_takeText cX0_takeText 2 (some .int) ∈ TW := inC_3 _ (List.mem_of_getElem? (i := 118) rfl) rfl
theorem wd_3_119 : Cond.constant RX0 41 (1000000) ∈ TW := inC_3 _ (List.mem_of_getElem? (i := 119) rfl) rfl
theorem wd_3_120 : Cond.methodLink RL 28 yX11_term ∈ TW := inC_3 _ (List.mem_of_getElem? (i := 120) rfl) rfl
theorem wd_3_121 : Cond.instanceMethod yX11_term ∈ TW := inC_3 _ (List.mem_of_getElem? (i := 121) rfl) rfl
theorem wd_3_122 : Cond.selects RX11 yX11_term yX11_term ∈ TW := inC_3 _ (List.mem_of_getElem? (i := 122) rfl) rfl
theorem wd_3_123 : Cond.code yX11_term cX11_term 6 (some .int) ∈ TW := inC_3 _ (List.mem_of_getElem? (i := 123) rfl) rfl
theorem wd_3_124 : Cond.fieldLink RX11 193 "WorksCouncil" "MOST_OF_TERM" "[I" ∈ TW := inC_3 _ (List.mem_of_getElem? (i := 124) rfl) rfl
theorem wd_3_125 : Cond.laysStatic "WorksCouncil" "MOST_OF_TERM" "[I" ∈ lw_tbl := inL_3 _ (List.mem_of_getElem? (i := 125) rfl)
theorem wd_3_126 : Cond.methodLink RL 49 yX11_open ∈ TW := inC_3 _ (List.mem_of_getElem? (i := 126) rfl) rfl
theorem wd_3_127 : Cond.instanceMethod yX11_open ∈ TW := inC_3 _ (List.mem_of_getElem? (i := 127) rfl) rfl
theorem wd_3_128 : Cond.selects RX11 yX11_open yX11_open ∈ TW := inC_3 _ (List.mem_of_getElem? (i := 128) rfl) rfl
theorem wd_3_129 : Cond.code yX11_open cX11_open 8 (some .int) ∈ TW := inC_3 _ (List.mem_of_getElem? (i := 129) rfl) rfl
theorem wd_3_130 : Cond.methodLink RX11 170 yX11_isWhat ∈ TW := inC_3 _ (List.mem_of_getElem? (i := 130) rfl) rfl
theorem wd_3_131 : Cond.static yX11_isWhat ∈ TW := inC_3 _ (List.mem_of_getElem? (i := 131) rfl) rfl
theorem wd_3_132 : Cond.code yX11_isWhat cX11_isWhat 1 (some .boolean) ∈ TW := inC_3 _ (List.mem_of_getElem? (i := 132) rfl) rfl
theorem wd_3_133 : Cond.methodLink RX11 173 yX11_wrongTopic ∈ TW := inC_3 _ (List.mem_of_getElem? (i := 133) rfl) rfl
theorem wd_3_134 : Cond.static yX11_wrongTopic ∈ TW := inC_3 _ (List.mem_of_getElem? (i := 134) rfl) rfl
theorem wd_3_135 : Cond.code yX11_wrongTopic cX11_wrongTopic 2 (some .int) ∈ TW := inC_3 _ (List.mem_of_getElem? (i := 135) rfl) rfl
theorem wd_3_136 : Cond.methodLink RX11 176 yX11_tellFacts ∈ TW := inC_3 _ (List.mem_of_getElem? (i := 136) rfl) rfl
theorem wd_3_137 : Cond.privateMethod yX11_tellFacts ∈ lw_tbl := inL_3 _ (List.mem_of_getElem? (i := 137) rfl)
theorem wd_3_138 : Cond.instanceMethod yX11_tellFacts ∈ TW := inC_3 _ (List.mem_of_getElem? (i := 138) rfl) rfl
theorem wd_3_139 : Cond.code yX11_tellFacts cX11_tellFacts 5 none ∈ TW := inC_3 _ (List.mem_of_getElem? (i := 139) rfl) rfl
theorem wd_3_140 : Cond.methodLink RX11 390 yX9_hereIn ∈ TW := inC_3 _ (List.mem_of_getElem? (i := 140) rfl) rfl
theorem wd_3_141 : Cond.instanceMethod yX9_hereIn ∈ TW := inC_3 _ (List.mem_of_getElem? (i := 141) rfl) rfl
theorem wd_3_142 : Cond.selects RX9 yX9_hereIn yX9_hereIn ∈ TW := inC_3 _ (List.mem_of_getElem? (i := 142) rfl) rfl
theorem wd_3_143 : Cond.code yX9_hereIn cX9_hereIn 4 (some .int) ∈ TW := inC_3 _ (List.mem_of_getElem? (i := 143) rfl) rfl
theorem wd_3_144 : Cond.methodLink RX11 280 yJ6_bitCount_0f7a4 ∈ TW := inC_3 _ (List.mem_of_getElem? (i := 144) rfl) rfl
theorem wd_3_145 : Cond.static yJ6_bitCount_0f7a4 ∈ TW := inC_3 _ (List.mem_of_getElem? (i := 145) rfl) rfl
theorem wd_3_146 : Cond.code yJ6_bitCount_0f7a4 cJ6_bitCount_0f7a4 1 (some .int) ∈ TW := inC_3 _ (List.mem_of_getElem? (i := 146) rfl) rfl
theorem wd_3_147 : Cond.constant RJ6 265 (1431655765) ∈ TW := inC_3 _ (List.mem_of_getElem? (i := 147) rfl) rfl
theorem wd_3_148 : Cond.constant RJ6 266 (858993459) ∈ TW := inC_3 _ (List.mem_of_getElem? (i := 148) rfl) rfl
theorem wd_3_149 : Cond.constant RJ6 267 (252645135) ∈ TW := inC_3 _ (List.mem_of_getElem? (i := 149) rfl) rfl
theorem wd_3_150 : Cond.methodLink RX11 180 yX0_bearingOn ∈ TW := inC_3 _ (List.mem_of_getElem? (i := 150) rfl) rfl
theorem wd_3_151 : Cond.instanceMethod yX0_bearingOn ∈ TW := inC_3 _ (List.mem_of_getElem? (i := 151) rfl) rfl
theorem wd_3_152 : Cond.selects RX0 yX0_bearingOn yX0_bearingOn ∈ TW := inC_3 _ (List.mem_of_getElem? (i := 152) rfl) rfl
theorem wd_3_153 : Cond.code yX0_bearingOn cX0_bearingOn 5 (some .int) ∈ TW := inC_3 _ (List.mem_of_getElem? (i := 153) rfl) rfl
theorem wd_3_154 : Cond.methodLink RX0 42 yX7_holds ∈ TW := inC_3 _ (List.mem_of_getElem? (i := 154) rfl) rfl
theorem wd_3_155 : Cond.instanceMethod yX7_holds ∈ TW := inC_3 _ (List.mem_of_getElem? (i := 155) rfl) rfl
theorem wd_3_156 : Cond.selects RX7 yX7_holds yX7_holds ∈ TW := inC_3 _ (List.mem_of_getElem? (i := 156) rfl) rfl
theorem wd_3_157 : Cond.code yX7_holds cX7_holds 3 (some .boolean) ∈ TW := inC_3 _ (List.mem_of_getElem? (i := 157) rfl) rfl
theorem wd_3_158 : Cond.methodLink RX11 187 yX0_giverAmong ∈ TW := inC_3 _ (List.mem_of_getElem? (i := 158) rfl) rfl
theorem wd_3_159 : Cond.instanceMethod yX0_giverAmong ∈ TW := inC_3 _ (List.mem_of_getElem? (i := 159) rfl) rfl
theorem wd_3_160 : Cond.selects RX0 yX0_giverAmong yX0_giverAmong ∈ TW := inC_3 _ (List.mem_of_getElem? (i := 160) rfl) rfl
theorem wd_3_161 : Cond.code yX0_giverAmong cX0_giverAmong 4 (some .int) ∈ TW := inC_3 _ (List.mem_of_getElem? (i := 161) rfl) rfl
theorem wd_3_162 : Cond.methodLink RX11 190 yX0_kindOf ∈ TW := inC_3 _ (List.mem_of_getElem? (i := 162) rfl) rfl
theorem wd_3_163 : Cond.instanceMethod yX0_kindOf ∈ TW := inC_3 _ (List.mem_of_getElem? (i := 163) rfl) rfl
theorem wd_3_164 : Cond.selects RX0 yX0_kindOf yX0_kindOf ∈ TW := inC_3 _ (List.mem_of_getElem? (i := 164) rfl) rfl
theorem wd_3_165 : Cond.code yX0_kindOf cX0_kindOf 2 (some .int) ∈ TW := inC_3 _ (List.mem_of_getElem? (i := 165) rfl) rfl
theorem wd_3_166 : Cond.methodLink RX11 196 yX5_begin ∈ TW := inC_3 _ (List.mem_of_getElem? (i := 166) rfl) rfl
theorem wd_3_167 : Cond.instanceMethod yX5_begin ∈ TW := inC_3 _ (List.mem_of_getElem? (i := 167) rfl) rfl
theorem wd_3_168 : Cond.selects RX5 yX5_begin yX5_begin ∈ TW := inC_3 _ (List.mem_of_getElem? (i := 168) rfl) rfl
theorem wd_3_169 : Cond.code yX5_begin cX5_begin 5 none ∈ TW := inC_3 _ (List.mem_of_getElem? (i := 169) rfl) rfl
theorem wd_3_170 : Cond.methodLink RX11 200 yX5_takeTerms ∈ TW := inC_3 _ (List.mem_of_getElem? (i := 170) rfl) rfl
theorem wd_3_171 : Cond.instanceMethod yX5_takeTerms ∈ TW := inC_3 _ (List.mem_of_getElem? (i := 171) rfl) rfl
theorem wd_3_172 : Cond.selects RX5 yX5_takeTerms yX5_takeTerms ∈ TW := inC_3 _ (List.mem_of_getElem? (i := 172) rfl) rfl
theorem wd_3_173 : Cond.code yX5_takeTerms cX5_takeTerms 5 none ∈ TW := inC_3 _ (List.mem_of_getElem? (i := 173) rfl) rfl
theorem wd_3_174 : Cond.methodLink RL 59 yX11_paper ∈ TW := inC_3 _ (List.mem_of_getElem? (i := 174) rfl) rfl
theorem wd_3_175 : Cond.instanceMethod yX11_paper ∈ TW := inC_3 _ (List.mem_of_getElem? (i := 175) rfl) rfl
theorem wd_3_176 : Cond.selects RX11 yX11_paper yX11_paper ∈ TW := inC_3 _ (List.mem_of_getElem? (i := 176) rfl) rfl
theorem wd_3_177 : Cond.code yX11_paper cX11_paper 5 (some .int) ∈ TW := inC_3 _ (List.mem_of_getElem? (i := 177) rfl) rfl
theorem wd_3_178 : Cond.methodLink RX11 204 yX11_isMatter ∈ TW := inC_3 _ (List.mem_of_getElem? (i := 178) rfl) rfl
theorem wd_3_179 : Cond.privateMethod yX11_isMatter ∈ lw_tbl := inL_3 _ (List.mem_of_getElem? (i := 179) rfl)
theorem wd_3_180 : Cond.instanceMethod yX11_isMatter ∈ TW := inC_3 _ (List.mem_of_getElem? (i := 180) rfl) rfl
theorem wd_3_181 : Cond.code yX11_isMatter cX11_isMatter 2 (some .boolean) ∈ TW := inC_3 _ (List.mem_of_getElem? (i := 181) rfl) rfl
theorem wd_3_182 : Cond.methodLink RX11 207 yX5_withdrawnBy ∈ TW := inC_3 _ (List.mem_of_getElem? (i := 182) rfl) rfl
theorem wd_3_183 : Cond.instanceMethod yX5_withdrawnBy ∈ TW := inC_3 _ (List.mem_of_getElem? (i := 183) rfl) rfl
theorem wd_3_184 : Cond.selects RX5 yX5_withdrawnBy yX5_withdrawnBy ∈ TW := inC_3 _ (List.mem_of_getElem? (i := 184) rfl) rfl
theorem wd_3_185 : Cond.code yX5_withdrawnBy cX5_withdrawnBy 3 (some .boolean) ∈ TW := inC_3 _ (List.mem_of_getElem? (i := 185) rfl) rfl
theorem wd_3_186 : Cond.methodLink RX11 210 yX5_paperDay ∈ TW := inC_3 _ (List.mem_of_getElem? (i := 186) rfl) rfl
theorem wd_3_187 : Cond.instanceMethod yX5_paperDay ∈ TW := inC_3 _ (List.mem_of_getElem? (i := 187) rfl) rfl
theorem wd_3_188 : Cond.selects RX5 yX5_paperDay yX5_paperDay ∈ TW := inC_3 _ (List.mem_of_getElem? (i := 188) rfl) rfl
theorem wd_3_189 : Cond.code yX5_paperDay cX5_paperDay 6 (some .int) ∈ TW := inC_3 _ (List.mem_of_getElem? (i := 189) rfl) rfl
theorem wd_3_190 : Cond.methodLink RX11 213 yX5_isFull ∈ TW := inC_3 _ (List.mem_of_getElem? (i := 190) rfl) rfl
theorem wd_3_191 : Cond.instanceMethod yX5_isFull ∈ TW := inC_3 _ (List.mem_of_getElem? (i := 191) rfl) rfl
theorem wd_3_192 : Cond.selects RX5 yX5_isFull yX5_isFull ∈ TW := inC_3 _ (List.mem_of_getElem? (i := 192) rfl) rfl
theorem wd_3_193 : Cond.code yX5_isFull cX5_isFull 1 (some .boolean) ∈ TW := inC_3 _ (List.mem_of_getElem? (i := 193) rfl) rfl
theorem wd_3_194 : Cond.methodLink RX11 217 yX5_tell ∈ TW := inC_3 _ (List.mem_of_getElem? (i := 194) rfl) rfl
theorem wd_3_195 : Cond.instanceMethod yX5_tell ∈ TW := inC_3 _ (List.mem_of_getElem? (i := 195) rfl) rfl
theorem wd_3_196 : Cond.selects RX5 yX5_tell yX5_tell ∈ TW := inC_3 _ (List.mem_of_getElem? (i := 196) rfl) rfl
theorem wd_3_197 : Cond.code yX5_tell cX5_tell 3 (some .int) ∈ TW := inC_3 _ (List.mem_of_getElem? (i := 197) rfl) rfl
theorem wd_3_198 : Cond.methodLink RL 56 yX11_withdraw ∈ TW := inC_3 _ (List.mem_of_getElem? (i := 198) rfl) rfl
theorem wd_3_199 : Cond.instanceMethod yX11_withdraw ∈ TW := inC_3 _ (List.mem_of_getElem? (i := 199) rfl) rfl
theorem wd_3_200 : Cond.selects RX11 yX11_withdraw yX11_withdraw ∈ TW := inC_3 _ (List.mem_of_getElem? (i := 200) rfl) rfl
theorem wd_3_201 : Cond.code yX11_withdraw cX11_withdraw 3 (some .int) ∈ TW := inC_3 _ (List.mem_of_getElem? (i := 201) rfl) rfl
theorem wd_3_202 : Cond.methodLink RL 53 yX11_state ∈ TW := inC_3 _ (List.mem_of_getElem? (i := 202) rfl) rfl
theorem wd_3_203 : Cond.instanceMethod yX11_state ∈ TW := inC_3 _ (List.mem_of_getElem? (i := 203) rfl) rfl
theorem wd_3_204 : Cond.selects RX11 yX11_state yX11_state ∈ TW := inC_3 _ (List.mem_of_getElem? (i := 204) rfl) rfl
theorem wd_3_205 : Cond.code yX11_state cX11_state 4 (some .int) ∈ TW := inC_3 _ (List.mem_of_getElem? (i := 205) rfl) rfl
theorem wd_3_206 : Cond.methodLink RX11 221 yX5_stateOn ∈ TW := inC_3 _ (List.mem_of_getElem? (i := 206) rfl) rfl
theorem wd_3_207 : Cond.instanceMethod yX5_stateOn ∈ TW := inC_3 _ (List.mem_of_getElem? (i := 207) rfl) rfl
theorem wd_3_208 : Cond.selects RX5 yX5_stateOn yX5_stateOn ∈ TW := inC_3 _ (List.mem_of_getElem? (i := 208) rfl) rfl
theorem wd_3_209 : Cond.code yX5_stateOn cX5_stateOn 6 (some .int) ∈ TW := inC_3 _ (List.mem_of_getElem? (i := 209) rfl) rfl
theorem wd_3_210 : Cond.methodLink RX5 82 yX5_withdrawnBy ∈ TW := inC_3 _ (List.mem_of_getElem? (i := 210) rfl) rfl
theorem wd_3_211 : Cond.methodLink RX5 86 yX5_lastRuling ∈ TW := inC_3 _ (List.mem_of_getElem? (i := 211) rfl) rfl
theorem wd_3_212 : Cond.instanceMethod yX5_lastRuling ∈ TW := inC_3 _ (List.mem_of_getElem? (i := 212) rfl) rfl
theorem wd_3_213 : Cond.selects RX5 yX5_lastRuling yX5_lastRuling ∈ TW := inC_3 _ (List.mem_of_getElem? (i := 213) rfl) rfl
theorem wd_3_214 : Cond.code yX5_lastRuling cX5_lastRuling 4 (some .int) ∈ TW := inC_3 _ (List.mem_of_getElem? (i := 214) rfl) rfl
theorem wd_3_215 : Cond.methodLink RX5 89 yX5_lastAnswer ∈ TW := inC_3 _ (List.mem_of_getElem? (i := 215) rfl) rfl
theorem wd_3_216 : Cond.privateMethod yX5_lastAnswer ∈ lw_tbl := inL_3 _ (List.mem_of_getElem? (i := 216) rfl)
theorem wd_3_217 : Cond.instanceMethod yX5_lastAnswer ∈ TW := inC_3 _ (List.mem_of_getElem? (i := 217) rfl) rfl
theorem wd_3_218 : Cond.code yX5_lastAnswer cX5_lastAnswer 4 (some .int) ∈ TW := inC_3 _ (List.mem_of_getElem? (i := 218) rfl) rfl
theorem wd_3_219 : Cond.methodLink RX5 76 yX2_isVoidBy ∈ TW := inC_3 _ (List.mem_of_getElem? (i := 219) rfl) rfl
theorem wd_3_220 : Cond.instanceMethod yX2_isVoidBy ∈ TW := inC_3 _ (List.mem_of_getElem? (i := 220) rfl) rfl
theorem wd_3_221 : Cond.selects RX2 yX2_isVoidBy yX2_isVoidBy ∈ TW := inC_3 _ (List.mem_of_getElem? (i := 221) rfl) rfl
theorem wd_3_222 : Cond.code yX2_isVoidBy cX2_isVoidBy 3 (some .boolean) ∈ TW := inC_3 _ (List.mem_of_getElem? (i := 222) rfl) rfl
theorem wd_3_223 : Cond.methodLink RX5 92 yX5_wholeSince ∈ TW := inC_3 _ (List.mem_of_getElem? (i := 223) rfl) rfl
theorem wd_3_224 : Cond.instanceMethod yX5_wholeSince ∈ TW := inC_3 _ (List.mem_of_getElem? (i := 224) rfl) rfl
theorem wd_3_225 : Cond.selects RX5 yX5_wholeSince yX5_wholeSince ∈ TW := inC_3 _ (List.mem_of_getElem? (i := 225) rfl) rfl
theorem wd_3_226 : Cond.code yX5_wholeSince cX5_wholeSince 6 (some .int) ∈ TW := inC_3 _ (List.mem_of_getElem? (i := 226) rfl) rfl
theorem wd_3_227 : Cond.methodLink RX5 66 yX5_paperDay ∈ TW := inC_3 _ (List.mem_of_getElem? (i := 227) rfl) rfl
theorem wd_3_228 : Cond.methodLink RX5 70 yJ9_max_7cf53 ∈ TW := inC_3 _ (List.mem_of_getElem? (i := 228) rfl) rfl
theorem wd_3_229 : Cond.static yJ9_max_7cf53 ∈ TW := inC_3 _ (List.mem_of_getElem? (i := 229) rfl) rfl
theorem wd_3_230 : Cond.code yJ9_max_7cf53 cJ9_max_7cf53 2 (some .int) ∈ TW := inC_3 _ (List.mem_of_getElem? (i := 230) rfl) rfl
theorem wd_3_231 : Cond.methodLink RX5 95 yX3_workdaysBehind ∈ TW := inC_3 _ (List.mem_of_getElem? (i := 231) rfl) rfl
theorem wd_3_232 : Cond.instanceMethod yX3_workdaysBehind ∈ TW := inC_3 _ (List.mem_of_getElem? (i := 232) rfl) rfl
theorem wd_3_233 : Cond.selects RX3 yX3_workdaysBehind yX3_workdaysBehind ∈ TW := inC_3 _ (List.mem_of_getElem? (i := 233) rfl) rfl
theorem wd_3_234 : Cond.code yX3_workdaysBehind cX3_workdaysBehind 3 (some .int) ∈ TW := inC_3 _ (List.mem_of_getElem? (i := 234) rfl) rfl
theorem wd_3_235 : Cond.methodLink RL 63 yX11_matterOf ∈ TW := inC_3 _ (List.mem_of_getElem? (i := 235) rfl) rfl
theorem wd_3_236 : Cond.instanceMethod yX11_matterOf ∈ TW := inC_3 _ (List.mem_of_getElem? (i := 236) rfl) rfl
theorem wd_3_237 : Cond.selects RX11 yX11_matterOf yX11_matterOf ∈ TW := inC_3 _ (List.mem_of_getElem? (i := 237) rfl) rfl
theorem wd_3_238 : Cond.code yX11_matterOf cX11_matterOf 4 (some .int) ∈ TW := inC_3 _ (List.mem_of_getElem? (i := 238) rfl) rfl
theorem wd_3_239 : Cond.methodLink RX11 227 yX5_wholeSince ∈ TW := inC_3 _ (List.mem_of_getElem? (i := 239) rfl) rfl
theorem wd_4_0 : Cond.methodLink RX11 230 yX5_letsOn ∈ TW := inC_4 _ (List.mem_of_getElem? (i := 0) rfl) rfl
theorem wd_4_1 : Cond.instanceMethod yX5_letsOn ∈ TW := inC_4 _ (List.mem_of_getElem? (i := 1) rfl) rfl
theorem wd_4_2 : Cond.selects RX5 yX5_letsOn yX5_letsOn ∈ TW := inC_4 _ (List.mem_of_getElem? (i := 2) rfl) rfl
theorem wd_4_3 : Cond.code yX5_letsOn cX5_letsOn 2 (some .boolean) ∈ TW := inC_4 _ (List.mem_of_getElem? (i := 3) rfl) rfl
theorem wd_4_4 : Cond.methodLink RX5 98 yX5_stateOn ∈ TW := inC_4 _ (List.mem_of_getElem? (i := 4) rfl) rfl
theorem wd_4_5 : Cond.methodLink RX5 101 yX5_lets ∈ TW := inC_4 _ (List.mem_of_getElem? (i := 5) rfl) rfl
theorem wd_4_6 : Cond.instanceMethod yX5_lets ∈ TW := inC_4 _ (List.mem_of_getElem? (i := 6) rfl) rfl
theorem wd_4_7 : Cond.selects RX5 yX5_lets yX5_lets ∈ TW := inC_4 _ (List.mem_of_getElem? (i := 7) rfl) rfl
theorem wd_4_8 : Cond.code yX5_lets cX5_lets 2 (some .boolean) ∈ TW := inC_4 _ (List.mem_of_getElem? (i := 8) rfl) rfl
theorem wd_4_9 : Cond.methodLink RL 33 yX11_votes ∈ TW := inC_4 _ (List.mem_of_getElem? (i := 9) rfl) rfl
theorem wd_4_10 : Cond.instanceMethod yX11_votes ∈ TW := inC_4 _ (List.mem_of_getElem? (i := 10) rfl) rfl
theorem wd_4_11 : Cond.selects RX11 yX11_votes yX11_votes ∈ TW := inC_4 _ (List.mem_of_getElem? (i := 11) rfl) rfl
theorem wd_4_12 : Cond.code yX11_votes cX11_votes 5 (some .int) ∈ TW := inC_4 _ (List.mem_of_getElem? (i := 12) rfl) rfl
theorem wd_4_13 : Cond.methodLink RX11 125 yX11_isShop ∈ TW := inC_4 _ (List.mem_of_getElem? (i := 13) rfl) rfl
theorem wd_4_14 : Cond.static yX11_isShop ∈ TW := inC_4 _ (List.mem_of_getElem? (i := 14) rfl) rfl
theorem wd_4_15 : Cond.code yX11_isShop cX11_isShop 1 (some .boolean) ∈ TW := inC_4 _ (List.mem_of_getElem? (i := 15) rfl) rfl
theorem wd_4_16 : Cond.methodLink RL 37 yX11_elect ∈ TW := inC_4 _ (List.mem_of_getElem? (i := 16) rfl) rfl
theorem wd_4_17 : Cond.instanceMethod yX11_elect ∈ TW := inC_4 _ (List.mem_of_getElem? (i := 17) rfl) rfl
theorem wd_4_18 : Cond.selects RX11 yX11_elect yX11_elect ∈ TW := inC_4 _ (List.mem_of_getElem? (i := 18) rfl) rfl
theorem wd_4_19 : Cond.code yX11_elect cX11_elect 3 (some .int) ∈ TW := inC_4 _ (List.mem_of_getElem? (i := 19) rfl) rfl
theorem wd_4_20 : Cond.methodLink RX11 242 yX2_fillSeats ∈ TW := inC_4 _ (List.mem_of_getElem? (i := 20) rfl) rfl
theorem wd_4_21 : Cond.instanceMethod yX2_fillSeats ∈ TW := inC_4 _ (List.mem_of_getElem? (i := 21) rfl) rfl
theorem wd_4_22 : Cond.selects RX2 yX2_fillSeats yX2_fillSeats ∈ TW := inC_4 _ (List.mem_of_getElem? (i := 22) rfl) rfl
theorem wd_4_23 : Cond.code yX2_fillSeats cX2_fillSeats 4 (some .int) ∈ TW := inC_4 _ (List.mem_of_getElem? (i := 23) rfl) rfl
theorem wd_4_24 : Cond.methodLink RX2 47 yX2_nextWinner ∈ TW := inC_4 _ (List.mem_of_getElem? (i := 24) rfl) rfl
theorem wd_4_25 : Cond.privateMethod yX2_nextWinner ∈ lw_tbl := inL_4 _ (List.mem_of_getElem? (i := 25) rfl)
theorem wd_4_26 : Cond.instanceMethod yX2_nextWinner ∈ TW := inC_4 _ (List.mem_of_getElem? (i := 26) rfl) rfl
theorem wd_4_27 : Cond.code yX2_nextWinner cX2_nextWinner 3 (some .int) ∈ TW := inC_4 _ (List.mem_of_getElem? (i := 27) rfl) rfl
theorem wd_4_28 : Cond.methodLink RL 43 yX11_seat ∈ TW := inC_4 _ (List.mem_of_getElem? (i := 28) rfl) rfl
theorem wd_4_29 : Cond.instanceMethod yX11_seat ∈ TW := inC_4 _ (List.mem_of_getElem? (i := 29) rfl) rfl
theorem wd_4_30 : Cond.selects RX11 yX11_seat yX11_seat ∈ TW := inC_4 _ (List.mem_of_getElem? (i := 30) rfl) rfl
theorem wd_4_31 : Cond.code yX11_seat cX11_seat 3 (some .int) ∈ TW := inC_4 _ (List.mem_of_getElem? (i := 31) rfl) rfl
theorem wd_4_32 : Cond.methodLink RX11 245 yX2_hasSeat ∈ TW := inC_4 _ (List.mem_of_getElem? (i := 32) rfl) rfl
theorem wd_4_33 : Cond.instanceMethod yX2_hasSeat ∈ TW := inC_4 _ (List.mem_of_getElem? (i := 33) rfl) rfl
theorem wd_4_34 : Cond.selects RX2 yX2_hasSeat yX2_hasSeat ∈ TW := inC_4 _ (List.mem_of_getElem? (i := 34) rfl) rfl
theorem wd_4_35 : Cond.code yX2_hasSeat cX2_hasSeat 2 (some .boolean) ∈ TW := inC_4 _ (List.mem_of_getElem? (i := 35) rfl) rfl
theorem wd_4_36 : Cond.methodLink RL 66 yX11_put ∈ TW := inC_4 _ (List.mem_of_getElem? (i := 36) rfl) rfl
theorem wd_4_37 : Cond.instanceMethod yX11_put ∈ TW := inC_4 _ (List.mem_of_getElem? (i := 37) rfl) rfl
theorem wd_4_38 : Cond.selects RX11 yX11_put yX11_put ∈ TW := inC_4 _ (List.mem_of_getElem? (i := 38) rfl) rfl
theorem wd_4_39 : Cond.code yX11_put cX11_put 2 (some .int) ∈ TW := inC_4 _ (List.mem_of_getElem? (i := 39) rfl) rfl
theorem wd_4_40 : Cond.methodLink RL 69 yX11_check ∈ TW := inC_4 _ (List.mem_of_getElem? (i := 40) rfl) rfl
theorem wd_4_41 : Cond.instanceMethod yX11_check ∈ TW := inC_4 _ (List.mem_of_getElem? (i := 41) rfl) rfl
theorem wd_4_42 : Cond.selects RX11 yX11_check yX11_check ∈ TW := inC_4 _ (List.mem_of_getElem? (i := 42) rfl) rfl
theorem wd_4_43 : Cond.code yX11_check cX11_check 5 (some .int) ∈ TW := inC_4 _ (List.mem_of_getElem? (i := 43) rfl) rfl
theorem wd_4_44 : Cond.methodLink RL 40 yX11_count ∈ TW := inC_4 _ (List.mem_of_getElem? (i := 44) rfl) rfl
theorem wd_4_45 : Cond.instanceMethod yX11_count ∈ TW := inC_4 _ (List.mem_of_getElem? (i := 45) rfl) rfl
theorem wd_4_46 : Cond.selects RX11 yX11_count yX11_count ∈ TW := inC_4 _ (List.mem_of_getElem? (i := 46) rfl) rfl
theorem wd_4_47 : Cond.code yX11_count cX11_count 2 (some .int) ∈ TW := inC_4 _ (List.mem_of_getElem? (i := 47) rfl) rfl
theorem wd_4_48 : Cond.methodLink RX11 445 yX11_countHolding ∈ TW := inC_4 _ (List.mem_of_getElem? (i := 48) rfl) rfl
theorem wd_4_49 : Cond.privateMethod yX11_countHolding ∈ lw_tbl := inL_4 _ (List.mem_of_getElem? (i := 49) rfl)
theorem wd_4_50 : Cond.instanceMethod yX11_countHolding ∈ TW := inC_4 _ (List.mem_of_getElem? (i := 50) rfl) rfl
theorem wd_4_51 : Cond.code yX11_countHolding cX11_countHolding 3 (some .int) ∈ TW := inC_4 _ (List.mem_of_getElem? (i := 51) rfl) rfl
theorem wd_4_52 : Cond.methodLink RX11 324 yX11_holds ∈ TW := inC_4 _ (List.mem_of_getElem? (i := 52) rfl) rfl
theorem wd_4_53 : Cond.privateMethod yX11_holds ∈ lw_tbl := inL_4 _ (List.mem_of_getElem? (i := 53) rfl)
theorem wd_4_54 : Cond.instanceMethod yX11_holds ∈ TW := inC_4 _ (List.mem_of_getElem? (i := 54) rfl) rfl
theorem wd_4_55 : Cond.code yX11_holds cX11_holds 3 (some .boolean) ∈ TW := inC_4 _ (List.mem_of_getElem? (i := 55) rfl) rfl
theorem wd_4_56 : Cond.methodLink RX11 467 yX5_lets ∈ TW := inC_4 _ (List.mem_of_getElem? (i := 56) rfl) rfl
theorem wd_4_57 : Cond.methodLink RX11 448 yX11_countVoid ∈ TW := inC_4 _ (List.mem_of_getElem? (i := 57) rfl) rfl
theorem wd_4_58 : Cond.privateMethod yX11_countVoid ∈ lw_tbl := inL_4 _ (List.mem_of_getElem? (i := 58) rfl)
theorem wd_4_59 : Cond.instanceMethod yX11_countVoid ∈ TW := inC_4 _ (List.mem_of_getElem? (i := 59) rfl) rfl
theorem wd_4_60 : Cond.code yX11_countVoid cX11_countVoid 3 (some .int) ∈ TW := inC_4 _ (List.mem_of_getElem? (i := 60) rfl) rfl
theorem wd_4_61 : Cond.methodLink RX11 361 yX11_voidSince ∈ TW := inC_4 _ (List.mem_of_getElem? (i := 61) rfl) rfl
theorem wd_4_62 : Cond.privateMethod yX11_voidSince ∈ lw_tbl := inL_4 _ (List.mem_of_getElem? (i := 62) rfl)
theorem wd_4_63 : Cond.instanceMethod yX11_voidSince ∈ TW := inC_4 _ (List.mem_of_getElem? (i := 63) rfl) rfl
theorem wd_4_64 : Cond.code yX11_voidSince cX11_voidSince 4 (some .int) ∈ TW := inC_4 _ (List.mem_of_getElem? (i := 64) rfl) rfl
theorem wd_4_65 : Cond.methodLink RX11 486 yX5_firstNotLetting ∈ TW := inC_4 _ (List.mem_of_getElem? (i := 65) rfl) rfl
theorem wd_4_66 : Cond.instanceMethod yX5_firstNotLetting ∈ TW := inC_4 _ (List.mem_of_getElem? (i := 66) rfl) rfl
theorem wd_4_67 : Cond.selects RX5 yX5_firstNotLetting yX5_firstNotLetting ∈ TW := inC_4 _ (List.mem_of_getElem? (i := 67) rfl) rfl
theorem wd_4_68 : Cond.code yX5_firstNotLetting cX5_firstNotLetting 5 (some .int) ∈ TW := inC_4 _ (List.mem_of_getElem? (i := 68) rfl) rfl
theorem wd_4_69 : Cond.methodLink RX5 104 yX5_nextTurn ∈ TW := inC_4 _ (List.mem_of_getElem? (i := 69) rfl) rfl
theorem wd_4_70 : Cond.privateMethod yX5_nextTurn ∈ lw_tbl := inL_4 _ (List.mem_of_getElem? (i := 70) rfl)
theorem wd_4_71 : Cond.instanceMethod yX5_nextTurn ∈ TW := inC_4 _ (List.mem_of_getElem? (i := 71) rfl) rfl
theorem wd_4_72 : Cond.code yX5_nextTurn cX5_nextTurn 4 (some .int) ∈ TW := inC_4 _ (List.mem_of_getElem? (i := 72) rfl) rfl
theorem wd_4_73 : Cond.constant RX5 108 (1000000) ∈ TW := inC_4 _ (List.mem_of_getElem? (i := 73) rfl) rfl
theorem wd_4_74 : Cond.methodLink RX5 109 yJ9_min_7cf53 ∈ TW := inC_4 _ (List.mem_of_getElem? (i := 74) rfl) rfl
theorem wd_4_75 : Cond.methodLink RX5 112 yX3_firstDayBeyond ∈ TW := inC_4 _ (List.mem_of_getElem? (i := 75) rfl) rfl
theorem wd_4_76 : Cond.instanceMethod yX3_firstDayBeyond ∈ TW := inC_4 _ (List.mem_of_getElem? (i := 76) rfl) rfl
theorem wd_4_77 : Cond.selects RX3 yX3_firstDayBeyond yX3_firstDayBeyond ∈ TW := inC_4 _ (List.mem_of_getElem? (i := 77) rfl) rfl
theorem wd_4_78 : Cond.code yX3_firstDayBeyond cX3_firstDayBeyond 4 (some .int) ∈ TW := inC_4 _ (List.mem_of_getElem? (i := 78) rfl) rfl
theorem wd_4_79 : Cond.constant RX3 23 (1000000) ∈ TW := inC_4 _ (List.mem_of_getElem? (i := 79) rfl) rfl
theorem wd_4_80 : Cond.methodLink RX11 148 yX0_fed ∈ TW := inC_4 _ (List.mem_of_getElem? (i := 80) rfl) rfl
theorem wd_4_81 : Cond.instanceMethod yX0_fed ∈ TW := inC_4 _ (List.mem_of_getElem? (i := 81) rfl) rfl
theorem wd_4_82 : Cond.selects RX0 yX0_fed yX0_fed ∈ TW := inC_4 _ (List.mem_of_getElem? (i := 82) rfl) rfl
theorem wd_4_83 : Cond.code yX0_fed cX0_fed 1 (some .int) ∈ TW := inC_4 _ (List.mem_of_getElem? (i := 83) rfl) rfl
theorem wd_4_84 : Cond.methodLink RL 24 yL_cell ∈ TW := inC_4 _ (List.mem_of_getElem? (i := 84) rfl) rfl
theorem wd_4_85 : Cond.static yL_cell ∈ TW := inC_4 _ (List.mem_of_getElem? (i := 85) rfl) rfl
theorem wd_4_86 : Cond.code yL_cell cL_cell 2 (some .int) ∈ TW := inC_4 _ (List.mem_of_getElem? (i := 86) rfl) rfl
theorem wd_4_87 : Cond.constant RL 7 (790386105) ∈ TW := inC_4 _ (List.mem_of_getElem? (i := 87) rfl) rfl
theorem wd_4_88 : Cond.methodLink RL 15 yL_feed ∈ TW := inC_4 _ (List.mem_of_getElem? (i := 88) rfl) rfl
theorem wd_4_89 : Cond.static yL_feed ∈ TW := inC_4 _ (List.mem_of_getElem? (i := 89) rfl) rfl
theorem wd_4_90 : Cond.code yL_feed cL_feed 9 (some .int) ∈ TW := inC_4 _ (List.mem_of_getElem? (i := 90) rfl) rfl
theorem wd_4_91 : Cond.methodLink RL 8 yX11_feed ∈ TW := inC_4 _ (List.mem_of_getElem? (i := 91) rfl) rfl
theorem wd_4_92 : Cond.instanceMethod yX11_feed ∈ TW := inC_4 _ (List.mem_of_getElem? (i := 92) rfl) rfl
theorem wd_4_93 : Cond.selects RX11 yX11_feed yX11_feed ∈ TW := inC_4 _ (List.mem_of_getElem? (i := 93) rfl) rfl
theorem wd_4_94 : Cond.code yX11_feed cX11_feed 4 (some .int) ∈ TW := inC_4 _ (List.mem_of_getElem? (i := 94) rfl) rfl
theorem wd_4_95 : Cond.methodLink RX11 152 yX0_feedText ∈ TW := inC_4 _ (List.mem_of_getElem? (i := 95) rfl) rfl
theorem wd_4_96 : Cond.instanceMethod yX0_feedText ∈ TW := inC_4 _ (List.mem_of_getElem? (i := 96) rfl) rfl
theorem wd_4_97 : Cond.selects RX0 yX0_feedText yX0_feedText ∈ TW := inC_4 _ (List.mem_of_getElem? (i := 97) rfl) rfl
theorem wd_4_98 : Cond.code yX0_feedText cX0_feedText 5 (some .int) ∈ TW := inC_4 _ (List.mem_of_getElem? (i := 98) rfl) rfl
theorem wd_4_99 : Cond.constant RL 32 (2147483647) ∈ TW := inC_4 _ (List.mem_of_getElem? (i := 99) rfl) rfl
theorem wd_p_0 : Cond.selects RX11 yX11_refuse yX11_refuse ∈ TW := inC_p _ (List.mem_of_getElem? (i := 0) rfl) rfl
theorem wd_p_1 : Cond.selects RX7 yX7_begin yX7_begin ∈ TW := inC_p _ (List.mem_of_getElem? (i := 1) rfl) rfl
theorem wd_p_2 : Cond.selects RX7 yX7_openLevel yX7_openLevel ∈ TW := inC_p _ (List.mem_of_getElem? (i := 2) rfl) rfl
theorem wd_p_3 : Cond.selects RX7 yX7_expect yX7_expect ∈ TW := inC_p _ (List.mem_of_getElem? (i := 3) rfl) rfl
theorem wd_p_4 : Cond.selects RX7 yX7_sign yX7_sign ∈ TW := inC_p _ (List.mem_of_getElem? (i := 4) rfl) rfl
theorem wd_p_5 : Cond.selects RX7 yX7_fail yX7_fail ∈ TW := inC_p _ (List.mem_of_getElem? (i := 5) rfl) rfl
theorem wd_p_6 : Cond.selects RX7 yX7_ruleHolds yX7_ruleHolds ∈ TW := inC_p _ (List.mem_of_getElem? (i := 6) rfl) rfl
theorem wd_p_7 : Cond.selects RX7 yX7_readOpenings yX7_readOpenings ∈ TW := inC_p _ (List.mem_of_getElem? (i := 7) rfl) rfl
theorem wd_p_8 : Cond.selects RX7 yX7_comparisonHolds yX7_comparisonHolds ∈ TW := inC_p _ (List.mem_of_getElem? (i := 8) rfl) rfl
theorem wd_p_9 : Cond.selects RX7 yX7_sum yX7_sum ∈ TW := inC_p _ (List.mem_of_getElem? (i := 9) rfl) rfl
theorem wd_p_10 : Cond.selects RX7 yX7_unit yX7_unit ∈ TW := inC_p _ (List.mem_of_getElem? (i := 10) rfl) rfl
theorem wd_p_11 : Cond.selects RX7 yX7_endPart yX7_endPart ∈ TW := inC_p _ (List.mem_of_getElem? (i := 11) rfl) rfl
theorem wd_p_12 : Cond.selects RX7 yX7_readClosings yX7_readClosings ∈ TW := inC_p _ (List.mem_of_getElem? (i := 12) rfl) rfl
theorem wd_p_13 : Cond.selects RX7 yX7_joinsNext yX7_joinsNext ∈ TW := inC_p _ (List.mem_of_getElem? (i := 13) rfl) rfl
theorem wd_p_14 : Cond.selects RX11 yX11_tellFacts yX11_tellFacts ∈ TW := inC_p _ (List.mem_of_getElem? (i := 14) rfl) rfl
theorem wd_p_15 : Cond.selects RX11 yX11_isMatter yX11_isMatter ∈ TW := inC_p _ (List.mem_of_getElem? (i := 15) rfl) rfl
theorem wd_p_16 : Cond.selects RX5 yX5_lastAnswer yX5_lastAnswer ∈ TW := inC_p _ (List.mem_of_getElem? (i := 16) rfl) rfl
theorem wd_p_17 : Cond.selects RX2 yX2_nextWinner yX2_nextWinner ∈ TW := inC_p _ (List.mem_of_getElem? (i := 17) rfl) rfl
theorem wd_p_18 : Cond.selects RX11 yX11_countHolding yX11_countHolding ∈ TW := inC_p _ (List.mem_of_getElem? (i := 18) rfl) rfl
theorem wd_p_19 : Cond.selects RX11 yX11_holds yX11_holds ∈ TW := inC_p _ (List.mem_of_getElem? (i := 19) rfl) rfl
theorem wd_p_20 : Cond.selects RX11 yX11_countVoid yX11_countVoid ∈ TW := inC_p _ (List.mem_of_getElem? (i := 20) rfl) rfl
theorem wd_p_21 : Cond.selects RX11 yX11_voidSince yX11_voidSince ∈ TW := inC_p _ (List.mem_of_getElem? (i := 21) rfl) rfl
theorem wd_p_22 : Cond.selects RX5 yX5_nextTurn yX5_nextTurn ∈ TW := inC_p _ (List.mem_of_getElem? (i := 22) rfl) rfl
set_option maxRecDepth 10000 in
theorem inU_0 : ∀ w ∈ u_ws (clS 0).1 (clS 0).2.1 (clS 0).2.2, w ∈ TW := List.forall_mem_cons.mpr ⟨wd_1_141, List.forall_mem_cons.mpr ⟨wd_1_143, List.forall_mem_cons.mpr ⟨wd_1_145, List.forall_mem_cons.mpr ⟨wd_1_147, List.forall_mem_cons.mpr ⟨wd_1_149, List.forall_mem_cons.mpr ⟨wd_1_151, fun _ h => absurd h List.not_mem_nil⟩⟩⟩⟩⟩⟩
set_option maxRecDepth 10000 in
theorem inU_1 : ∀ w ∈ u_ws (clS 1).1 (clS 1).2.1 (clS 1).2.2, w ∈ TW := List.forall_mem_cons.mpr ⟨wd_1_220, List.forall_mem_cons.mpr ⟨wd_1_222, List.forall_mem_cons.mpr ⟨wd_1_224, List.forall_mem_cons.mpr ⟨wd_1_226, List.forall_mem_cons.mpr ⟨wd_1_228, List.forall_mem_cons.mpr ⟨wd_1_230, List.forall_mem_cons.mpr ⟨wd_1_232, List.forall_mem_cons.mpr ⟨wd_1_234, List.forall_mem_cons.mpr ⟨wd_1_236, List.forall_mem_cons.mpr ⟨wd_1_238, fun _ h => absurd h List.not_mem_nil⟩⟩⟩⟩⟩⟩⟩⟩⟩⟩
set_option maxRecDepth 10000 in
theorem inU_2 : ∀ w ∈ u_ws (clS 2).1 (clS 2).2.1 (clS 2).2.2, w ∈ TW := List.forall_mem_cons.mpr ⟨wd_1_176, List.forall_mem_cons.mpr ⟨wd_1_178, List.forall_mem_cons.mpr ⟨wd_1_180, List.forall_mem_cons.mpr ⟨wd_1_182, List.forall_mem_cons.mpr ⟨wd_1_184, List.forall_mem_cons.mpr ⟨wd_1_186, List.forall_mem_cons.mpr ⟨wd_1_188, List.forall_mem_cons.mpr ⟨wd_1_190, List.forall_mem_cons.mpr ⟨wd_1_192, List.forall_mem_cons.mpr ⟨wd_1_194, List.forall_mem_cons.mpr ⟨wd_1_196, fun _ h => absurd h List.not_mem_nil⟩⟩⟩⟩⟩⟩⟩⟩⟩⟩⟩
set_option maxRecDepth 10000 in
theorem inU_3 : ∀ w ∈ u_ws (clS 3).1 (clS 3).2.1 (clS 3).2.2, w ∈ TW := List.forall_mem_cons.mpr ⟨wd_1_34, List.forall_mem_cons.mpr ⟨wd_1_36, List.forall_mem_cons.mpr ⟨wd_1_38, fun _ h => absurd h List.not_mem_nil⟩⟩⟩
set_option maxRecDepth 10000 in
theorem inU_4 : ∀ w ∈ u_ws (clS 4).1 (clS 4).2.1 (clS 4).2.2, w ∈ TW := List.forall_mem_cons.mpr ⟨wd_2_23, List.forall_mem_cons.mpr ⟨wd_2_25, List.forall_mem_cons.mpr ⟨wd_2_27, List.forall_mem_cons.mpr ⟨wd_2_29, List.forall_mem_cons.mpr ⟨wd_2_31, List.forall_mem_cons.mpr ⟨wd_2_33, List.forall_mem_cons.mpr ⟨wd_2_35, List.forall_mem_cons.mpr ⟨wd_2_37, List.forall_mem_cons.mpr ⟨wd_2_39, List.forall_mem_cons.mpr ⟨wd_2_41, fun _ h => absurd h List.not_mem_nil⟩⟩⟩⟩⟩⟩⟩⟩⟩⟩
set_option maxRecDepth 10000 in
theorem inU_5 : ∀ w ∈ u_ws (clS 5).1 (clS 5).2.1 (clS 5).2.2, w ∈ TW := List.forall_mem_cons.mpr ⟨wd_2_183, List.forall_mem_cons.mpr ⟨wd_2_185, List.forall_mem_cons.mpr ⟨wd_2_187, List.forall_mem_cons.mpr ⟨wd_2_189, List.forall_mem_cons.mpr ⟨wd_2_191, List.forall_mem_cons.mpr ⟨wd_2_193, List.forall_mem_cons.mpr ⟨wd_2_195, List.forall_mem_cons.mpr ⟨wd_2_197, List.forall_mem_cons.mpr ⟨wd_2_199, List.forall_mem_cons.mpr ⟨wd_2_201, List.forall_mem_cons.mpr ⟨wd_2_203, List.forall_mem_cons.mpr ⟨wd_2_205, List.forall_mem_cons.mpr ⟨wd_2_207, List.forall_mem_cons.mpr ⟨wd_2_209, List.forall_mem_cons.mpr ⟨wd_2_211, fun _ h => absurd h List.not_mem_nil⟩⟩⟩⟩⟩⟩⟩⟩⟩⟩⟩⟩⟩⟩⟩
set_option maxRecDepth 10000 in
theorem inU_6 : ∀ w ∈ u_ws (clS 6).1 (clS 6).2.1 (clS 6).2.2, w ∈ TW := List.forall_mem_cons.mpr ⟨wd_2_137, List.forall_mem_cons.mpr ⟨wd_2_139, List.forall_mem_cons.mpr ⟨wd_2_141, List.forall_mem_cons.mpr ⟨wd_2_143, List.forall_mem_cons.mpr ⟨wd_2_145, List.forall_mem_cons.mpr ⟨wd_2_147, List.forall_mem_cons.mpr ⟨wd_2_149, List.forall_mem_cons.mpr ⟨wd_2_151, List.forall_mem_cons.mpr ⟨wd_2_153, fun _ h => absurd h List.not_mem_nil⟩⟩⟩⟩⟩⟩⟩⟩⟩
set_option maxRecDepth 10000 in
theorem inU_7 : ∀ w ∈ u_ws (clS 7).1 (clS 7).2.1 (clS 7).2.2, w ∈ TW := List.forall_mem_cons.mpr ⟨wd_1_111, List.forall_mem_cons.mpr ⟨wd_1_113, List.forall_mem_cons.mpr ⟨wd_1_115, List.forall_mem_cons.mpr ⟨wd_1_117, List.forall_mem_cons.mpr ⟨wd_1_119, List.forall_mem_cons.mpr ⟨wd_1_121, List.forall_mem_cons.mpr ⟨wd_1_123, List.forall_mem_cons.mpr ⟨wd_1_125, List.forall_mem_cons.mpr ⟨wd_1_127, List.forall_mem_cons.mpr ⟨wd_1_129, fun _ h => absurd h List.not_mem_nil⟩⟩⟩⟩⟩⟩⟩⟩⟩⟩
set_option maxRecDepth 10000 in
theorem inU_8 : ∀ w ∈ u_ws (clS 8).1 (clS 8).2.1 (clS 8).2.2, w ∈ TW := List.forall_mem_cons.mpr ⟨wd_2_69, List.forall_mem_cons.mpr ⟨wd_2_71, List.forall_mem_cons.mpr ⟨wd_2_73, List.forall_mem_cons.mpr ⟨wd_2_75, List.forall_mem_cons.mpr ⟨wd_2_77, List.forall_mem_cons.mpr ⟨wd_2_79, List.forall_mem_cons.mpr ⟨wd_2_81, List.forall_mem_cons.mpr ⟨wd_2_83, List.forall_mem_cons.mpr ⟨wd_2_85, List.forall_mem_cons.mpr ⟨wd_2_87, List.forall_mem_cons.mpr ⟨wd_2_89, List.forall_mem_cons.mpr ⟨wd_2_91, List.forall_mem_cons.mpr ⟨wd_2_93, List.forall_mem_cons.mpr ⟨wd_2_95, List.forall_mem_cons.mpr ⟨wd_2_97, List.forall_mem_cons.mpr ⟨wd_2_99, List.forall_mem_cons.mpr ⟨wd_2_101, fun _ h => absurd h List.not_mem_nil⟩⟩⟩⟩⟩⟩⟩⟩⟩⟩⟩⟩⟩⟩⟩⟩⟩
set_option maxRecDepth 10000 in
theorem inU_9 : ∀ w ∈ u_ws (clS 9).1 (clS 9).2.1 (clS 9).2.2, w ∈ TW := List.forall_mem_cons.mpr ⟨wd_1_61, List.forall_mem_cons.mpr ⟨wd_1_63, List.forall_mem_cons.mpr ⟨wd_1_65, List.forall_mem_cons.mpr ⟨wd_1_67, List.forall_mem_cons.mpr ⟨wd_1_69, List.forall_mem_cons.mpr ⟨wd_1_71, List.forall_mem_cons.mpr ⟨wd_1_73, List.forall_mem_cons.mpr ⟨wd_1_75, List.forall_mem_cons.mpr ⟨wd_1_77, List.forall_mem_cons.mpr ⟨wd_1_79, List.forall_mem_cons.mpr ⟨wd_1_81, List.forall_mem_cons.mpr ⟨wd_1_83, fun _ h => absurd h List.not_mem_nil⟩⟩⟩⟩⟩⟩⟩⟩⟩⟩⟩⟩
set_option maxRecDepth 10000 in
theorem inU_10 : ∀ w ∈ u_ws (clS 10).1 (clS 10).2.1 (clS 10).2.2, w ∈ TW := List.forall_mem_cons.mpr ⟨wd_2_115, List.forall_mem_cons.mpr ⟨wd_2_117, List.forall_mem_cons.mpr ⟨wd_2_119, fun _ h => absurd h List.not_mem_nil⟩⟩⟩
set_option maxRecDepth 10000 in
theorem inU_11 : ∀ w ∈ u_ws (clS 11).1 (clS 11).2.1 (clS 11).2.2, w ∈ TW := List.forall_mem_cons.mpr ⟨wd_2_230, List.forall_mem_cons.mpr ⟨wd_2_232, List.forall_mem_cons.mpr ⟨wd_2_234, List.forall_mem_cons.mpr ⟨wd_2_236, List.forall_mem_cons.mpr ⟨wd_2_238, List.forall_mem_cons.mpr ⟨wd_3_0, List.forall_mem_cons.mpr ⟨wd_3_2, List.forall_mem_cons.mpr ⟨wd_3_4, List.forall_mem_cons.mpr ⟨wd_3_6, List.forall_mem_cons.mpr ⟨wd_3_8, List.forall_mem_cons.mpr ⟨wd_3_10, List.forall_mem_cons.mpr ⟨wd_3_12, List.forall_mem_cons.mpr ⟨wd_3_14, List.forall_mem_cons.mpr ⟨wd_3_16, List.forall_mem_cons.mpr ⟨wd_3_18, List.forall_mem_cons.mpr ⟨wd_3_20, fun _ h => absurd h List.not_mem_nil⟩⟩⟩⟩⟩⟩⟩⟩⟩⟩⟩⟩⟩⟩⟩⟩
theorem inU {ci : Nat} (h : ci < 12) : ∀ w ∈ u_ws (clS ci).1 (clS ci).2.1 (clS ci).2.2, w ∈ TW := match ci, h with
  | 0, _ => inU_0
  | 1, _ => inU_1
  | 2, _ => inU_2
  | 3, _ => inU_3
  | 4, _ => inU_4
  | 5, _ => inU_5
  | 6, _ => inU_6
  | 7, _ => inU_7
  | 8, _ => inU_8
  | 9, _ => inU_9
  | 10, _ => inU_10
  | 11, _ => inU_11
  | k + 12, h => absurd h (by omega)
theorem clNm {ci : Nat} (h : ci < 12) : ∀ a, a < (clS ci).2.2 → ∀ b, b < (clS ci).2.2 → a ≠ b → ((clS ci).2.1 a).2.1 ≠ ((clS ci).2.1 b).2.1 := match ci, h with
  | 0, _ => nmX0
  | 1, _ => nmX1
  | 2, _ => nmX2
  | 3, _ => nmX3
  | 4, _ => nmX4
  | 5, _ => nmX5
  | 6, _ => nmX6
  | 7, _ => nmX7
  | 8, _ => nmX8
  | 9, _ => nmX9
  | 10, _ => nmX10
  | 11, _ => nmX11
  | k + 12, h => absurd h (by omega)
theorem clTok {ci : Nat} (h : ci < 12) : ∀ k, k < (clS ci).2.2 → parseFieldDescriptor ((clS ci).2.1 k).2.2.1 = some (clTy ci k) := match ci, h with
  | 0, _ => tyX0_ok
  | 1, _ => tyX1_ok
  | 2, _ => tyX2_ok
  | 3, _ => tyX3_ok
  | 4, _ => tyX4_ok
  | 5, _ => tyX5_ok
  | 6, _ => tyX6_ok
  | 7, _ => tyX7_ok
  | 8, _ => tyX8_ok
  | 9, _ => tyX9_ok
  | 10, _ => tyX10_ok
  | 11, _ => tyX11_ok
  | k + 12, h => absurd h (by omega)
theorem md_max : Cond.static Lib.Math.max.name ∈ TW ∧ Cond.initialized "java/lang/Math" ∈ TW ∧ Cond.code Lib.Math.max.name Lib.Math.max.code 2 (some .int) ∈ TW := ⟨inC_3 _ (List.mem_of_getElem? (i := 229) rfl) rfl, inC_1 _ (List.mem_of_getElem? (i := 13) rfl) rfl, inC_3 _ (List.mem_of_getElem? (i := 230) rfl) rfl⟩
theorem md_min : Cond.static Lib.Math.min.name ∈ TW ∧ Cond.initialized "java/lang/Math" ∈ TW ∧ Cond.code Lib.Math.min.name Lib.Math.min.code 2 (some .int) ∈ TW := ⟨inC_3 _ (List.mem_of_getElem? (i := 45) rfl) rfl, inC_1 _ (List.mem_of_getElem? (i := 13) rfl) rfl, inC_3 _ (List.mem_of_getElem? (i := 46) rfl) rfl⟩
