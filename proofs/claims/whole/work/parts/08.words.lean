def TW : List Cond := lw_tbl.filter goodWord
theorem inL_1 : ∀ w ∈ tables_1_1, w ∈ lw_tbl := fun w h => List.mem_append_right _ (by unfold tables_1; exact List.mem_append_left _ h)
theorem inC_1 (w : Cond) (h : w ∈ tables_1_1) (hg : goodWord w = true) : w ∈ TW := List.mem_filter.mpr ⟨List.mem_append_right _ (by unfold tables_1; exact List.mem_append_left _ h), hg⟩
theorem inL_2 : ∀ w ∈ tables_1_2, w ∈ lw_tbl := fun w h => List.mem_append_right _ (by unfold tables_1; exact List.mem_append_right _ (List.mem_append_left _ h))
theorem inC_2 (w : Cond) (h : w ∈ tables_1_2) (hg : goodWord w = true) : w ∈ TW := List.mem_filter.mpr ⟨List.mem_append_right _ (by unfold tables_1; exact List.mem_append_right _ (List.mem_append_left _ h)), hg⟩
theorem inL_3 : ∀ w ∈ tables_1_3, w ∈ lw_tbl := fun w h => List.mem_append_right _ (by unfold tables_1; exact List.mem_append_right _ (List.mem_append_right _ (List.mem_append_left _ h)))
theorem inC_3 (w : Cond) (h : w ∈ tables_1_3) (hg : goodWord w = true) : w ∈ TW := List.mem_filter.mpr ⟨List.mem_append_right _ (by unfold tables_1; exact List.mem_append_right _ (List.mem_append_right _ (List.mem_append_left _ h))), hg⟩
theorem inL_4 : ∀ w ∈ tables_1_4, w ∈ lw_tbl := fun w h => List.mem_append_right _ (by unfold tables_1; exact List.mem_append_right _ (List.mem_append_right _ (List.mem_append_right _ (List.mem_append_left _ h))))
theorem inC_4 (w : Cond) (h : w ∈ tables_1_4) (hg : goodWord w = true) : w ∈ TW := List.mem_filter.mpr ⟨List.mem_append_right _ (by unfold tables_1; exact List.mem_append_right _ (List.mem_append_right _ (List.mem_append_right _ (List.mem_append_left _ h)))), hg⟩
theorem inL_5 : ∀ w ∈ tables_1_5, w ∈ lw_tbl := fun w h => List.mem_append_right _ (by unfold tables_1; exact List.mem_append_right _ (List.mem_append_right _ (List.mem_append_right _ (List.mem_append_right _ (List.mem_append_left _ h)))))
theorem inC_5 (w : Cond) (h : w ∈ tables_1_5) (hg : goodWord w = true) : w ∈ TW := List.mem_filter.mpr ⟨List.mem_append_right _ (by unfold tables_1; exact List.mem_append_right _ (List.mem_append_right _ (List.mem_append_right _ (List.mem_append_right _ (List.mem_append_left _ h))))), hg⟩
theorem inL_6 : ∀ w ∈ tables_1_6, w ∈ lw_tbl := fun w h => List.mem_append_right _ (by unfold tables_1; exact List.mem_append_right _ (List.mem_append_right _ (List.mem_append_right _ (List.mem_append_right _ (List.mem_append_right _ (List.mem_append_left _ h))))))
theorem inC_6 (w : Cond) (h : w ∈ tables_1_6) (hg : goodWord w = true) : w ∈ TW := List.mem_filter.mpr ⟨List.mem_append_right _ (by unfold tables_1; exact List.mem_append_right _ (List.mem_append_right _ (List.mem_append_right _ (List.mem_append_right _ (List.mem_append_right _ (List.mem_append_left _ h)))))), hg⟩
theorem inL_7 : ∀ w ∈ tables_1_7, w ∈ lw_tbl := fun w h => List.mem_append_right _ (by unfold tables_1; exact List.mem_append_right _ (List.mem_append_right _ (List.mem_append_right _ (List.mem_append_right _ (List.mem_append_right _ (List.mem_append_right _ (List.mem_append_left _ h)))))))
theorem inC_7 (w : Cond) (h : w ∈ tables_1_7) (hg : goodWord w = true) : w ∈ TW := List.mem_filter.mpr ⟨List.mem_append_right _ (by unfold tables_1; exact List.mem_append_right _ (List.mem_append_right _ (List.mem_append_right _ (List.mem_append_right _ (List.mem_append_right _ (List.mem_append_right _ (List.mem_append_left _ h))))))), hg⟩
theorem inL_8 : ∀ w ∈ tables_1_8, w ∈ lw_tbl := fun w h => List.mem_append_right _ (by unfold tables_1; exact List.mem_append_right _ (List.mem_append_right _ (List.mem_append_right _ (List.mem_append_right _ (List.mem_append_right _ (List.mem_append_right _ (List.mem_append_right _ (List.mem_append_left _ h))))))))
theorem inC_8 (w : Cond) (h : w ∈ tables_1_8) (hg : goodWord w = true) : w ∈ TW := List.mem_filter.mpr ⟨List.mem_append_right _ (by unfold tables_1; exact List.mem_append_right _ (List.mem_append_right _ (List.mem_append_right _ (List.mem_append_right _ (List.mem_append_right _ (List.mem_append_right _ (List.mem_append_right _ (List.mem_append_left _ h)))))))), hg⟩
theorem inL_9 : ∀ w ∈ tables_1_9, w ∈ lw_tbl := fun w h => List.mem_append_right _ (by unfold tables_1; exact List.mem_append_right _ (List.mem_append_right _ (List.mem_append_right _ (List.mem_append_right _ (List.mem_append_right _ (List.mem_append_right _ (List.mem_append_right _ (List.mem_append_right _ h))))))))
theorem inC_9 (w : Cond) (h : w ∈ tables_1_9) (hg : goodWord w = true) : w ∈ TW := List.mem_filter.mpr ⟨List.mem_append_right _ (by unfold tables_1; exact List.mem_append_right _ (List.mem_append_right _ (List.mem_append_right _ (List.mem_append_right _ (List.mem_append_right _ (List.mem_append_right _ (List.mem_append_right _ (List.mem_append_right _ h)))))))), hg⟩
theorem inC_p (w : Cond) (h : w ∈ k2_sels lw_privs) (hg : goodWord w = true) : w ∈ TW := List.mem_filter.mpr ⟨List.mem_append_left _ h, hg⟩
theorem wd_1_0 : Cond.initialized RL ∈ TW := inC_1 _ (List.mem_of_getElem? (i := 0) rfl) rfl
theorem wd_1_1 : Cond.initialized RX11 ∈ TW := inC_1 _ (List.mem_of_getElem? (i := 1) rfl) rfl
theorem wd_1_2 : Cond.initialized RX3 ∈ TW := inC_1 _ (List.mem_of_getElem? (i := 2) rfl) rfl
theorem wd_1_3 : Cond.initialized RX9 ∈ TW := inC_1 _ (List.mem_of_getElem? (i := 3) rfl) rfl
theorem wd_1_4 : Cond.initialized RX0 ∈ TW := inC_1 _ (List.mem_of_getElem? (i := 4) rfl) rfl
theorem wd_1_5 : Cond.initialized RX7 ∈ TW := inC_1 _ (List.mem_of_getElem? (i := 5) rfl) rfl
theorem wd_1_6 : Cond.initialized RX2 ∈ TW := inC_1 _ (List.mem_of_getElem? (i := 6) rfl) rfl
theorem wd_1_7 : Cond.initialized RX1 ∈ TW := inC_1 _ (List.mem_of_getElem? (i := 7) rfl) rfl
theorem wd_1_8 : Cond.initialized RX4 ∈ TW := inC_1 _ (List.mem_of_getElem? (i := 8) rfl) rfl
theorem wd_1_9 : Cond.initialized RX8 ∈ TW := inC_1 _ (List.mem_of_getElem? (i := 9) rfl) rfl
theorem wd_1_10 : Cond.initialized RX10 ∈ TW := inC_1 _ (List.mem_of_getElem? (i := 10) rfl) rfl
theorem wd_1_11 : Cond.initialized RX6 ∈ TW := inC_1 _ (List.mem_of_getElem? (i := 11) rfl) rfl
theorem wd_1_12 : Cond.initialized RX5 ∈ TW := inC_1 _ (List.mem_of_getElem? (i := 12) rfl) rfl
theorem wd_1_13 : Cond.initialized RX12 ∈ TW := inC_1 _ (List.mem_of_getElem? (i := 13) rfl) rfl
theorem wd_1_14 : Cond.initialized RJ9 ∈ TW := inC_1 _ (List.mem_of_getElem? (i := 14) rfl) rfl
theorem wd_1_15 : Cond.initialized RJ6 ∈ TW := inC_1 _ (List.mem_of_getElem? (i := 15) rfl) rfl
theorem wd_1_16 : Cond.classLink RL 7 RX11 ∈ TW := inC_1 _ (List.mem_of_getElem? (i := 16) rfl) rfl
theorem wd_1_17 : Cond.instantiable RX11 16 ∈ TW := inC_1 _ (List.mem_of_getElem? (i := 17) rfl) rfl
theorem wd_1_18 : Cond.methodLink RL 9 yX11_init ∈ TW := inC_1 _ (List.mem_of_getElem? (i := 18) rfl) rfl
theorem wd_1_19 : Cond.instanceMethod yX11_init ∈ TW := inC_1 _ (List.mem_of_getElem? (i := 19) rfl) rfl
theorem wd_1_20 : Cond.code yX11_init cX11_init 2 none ∈ TW := inC_1 _ (List.mem_of_getElem? (i := 20) rfl) rfl
theorem wd_1_21 : Cond.methodLink RX11 1 Lib.objectInit ∈ TW := inC_1 _ (List.mem_of_getElem? (i := 21) rfl) rfl
theorem wd_1_22 : Cond.instanceMethod Lib.objectInit ∈ TW := inC_1 _ (List.mem_of_getElem? (i := 22) rfl) rfl
theorem wd_1_23 : Cond.code Lib.objectInit object_method_1_code 1 none ∈ TW := inC_1 _ (List.mem_of_getElem? (i := 23) rfl) rfl
theorem wd_1_24 : Cond.classLink RX11 7 RX3 ∈ TW := inC_1 _ (List.mem_of_getElem? (i := 24) rfl) rfl
theorem wd_1_25 : Cond.instantiable RX3 3 ∈ TW := inC_1 _ (List.mem_of_getElem? (i := 25) rfl) rfl
theorem wd_1_26 : Cond.methodLink RX11 9 yX3_init ∈ TW := inC_1 _ (List.mem_of_getElem? (i := 26) rfl) rfl
theorem wd_1_27 : Cond.instanceMethod yX3_init ∈ TW := inC_1 _ (List.mem_of_getElem? (i := 27) rfl) rfl
theorem wd_1_28 : Cond.code yX3_init cX3_init 3 none ∈ TW := inC_1 _ (List.mem_of_getElem? (i := 28) rfl) rfl
theorem wd_1_29 : Cond.methodLink RX3 3 Lib.objectInit ∈ TW := inC_1 _ (List.mem_of_getElem? (i := 29) rfl) rfl
theorem wd_1_30 : Cond.fieldLink RX3 9 (fl 3 0).1 (fl 3 0).2.1 (fl 3 0).2.2.1 ∈ TW := inC_1 _ (List.mem_of_getElem? (i := 30) rfl) rfl
theorem wd_1_31 : Cond.fieldLink RX11 107 (fl 3 0).1 (fl 3 0).2.1 (fl 3 0).2.2.1 ∈ TW := inC_1 _ (List.mem_of_getElem? (i := 31) rfl) rfl
theorem wd_1_32 : Cond.fieldLink RX5 61 (fl 3 0).1 (fl 3 0).2.1 (fl 3 0).2.2.1 ∈ TW := inC_1 _ (List.mem_of_getElem? (i := 32) rfl) rfl
theorem wd_1_33 : Cond.fieldLink RX3 15 (fl 3 1).1 (fl 3 1).2.1 (fl 3 1).2.2.1 ∈ TW := inC_1 _ (List.mem_of_getElem? (i := 33) rfl) rfl
theorem wd_1_34 : Cond.fieldLink RX3 19 (fl 3 2).1 (fl 3 2).2.1 (fl 3 2).2.2.1 ∈ TW := inC_1 _ (List.mem_of_getElem? (i := 34) rfl) rfl
theorem wd_1_35 : Cond.lays RX3 RX3 "now" "I" ∈ TW := inC_1 _ (List.mem_of_getElem? (i := 35) rfl) rfl
theorem wd_1_37 : Cond.laysFinal RX3 RX3 "feasts" "[Z" ∈ TW := inC_1 _ (List.mem_of_getElem? (i := 37) rfl) rfl
theorem wd_1_39 : Cond.laysFinal RX3 RX3 "worked" "[I" ∈ TW := inC_1 _ (List.mem_of_getElem? (i := 39) rfl) rfl
theorem wd_1_42 : Cond.arrayClass .boolean ∈ TW := inC_1 _ (List.mem_of_getElem? (i := 42) rfl) rfl
theorem wd_1_43 : Cond.arrayClass .int ∈ TW := inC_1 _ (List.mem_of_getElem? (i := 43) rfl) rfl
theorem wd_1_44 : Cond.classLink RX11 16 RX9 ∈ TW := inC_1 _ (List.mem_of_getElem? (i := 44) rfl) rfl
theorem wd_1_45 : Cond.instantiable RX9 12 ∈ TW := inC_1 _ (List.mem_of_getElem? (i := 45) rfl) rfl
theorem wd_1_46 : Cond.methodLinkNest RX11 18 yX9_init RX11 ∈ lw_tbl := inL_1 _ (List.mem_of_getElem? (i := 46) rfl)
theorem wd_1_47 : Cond.instanceMethod yX9_init ∈ TW := inC_1 _ (List.mem_of_getElem? (i := 47) rfl) rfl
theorem wd_1_48 : Cond.code yX9_init cX9_init 1 none ∈ TW := inC_1 _ (List.mem_of_getElem? (i := 48) rfl) rfl
theorem wd_1_49 : Cond.methodLink RX9 3 Lib.objectInit ∈ TW := inC_1 _ (List.mem_of_getElem? (i := 49) rfl) rfl
theorem wd_1_50 : Cond.fieldLink RX9 9 (fl 9 0).1 (fl 9 0).2.1 (fl 9 0).2.2.1 ∈ TW := inC_1 _ (List.mem_of_getElem? (i := 50) rfl) rfl
theorem wd_1_51 : Cond.fieldLink RX11 128 (fl 9 0).1 (fl 9 0).2.1 (fl 9 0).2.2.1 ∈ TW := inC_1 _ (List.mem_of_getElem? (i := 51) rfl) rfl
theorem wd_1_52 : Cond.fieldLink RX8 92 (fl 9 0).1 (fl 9 0).2.1 (fl 9 0).2.2.1 ∈ TW := inC_1 _ (List.mem_of_getElem? (i := 52) rfl) rfl
theorem wd_1_53 : Cond.fieldLink RX9 15 (fl 9 1).1 (fl 9 1).2.1 (fl 9 1).2.2.1 ∈ TW := inC_1 _ (List.mem_of_getElem? (i := 53) rfl) rfl
theorem wd_1_54 : Cond.fieldLink RX8 101 (fl 9 1).1 (fl 9 1).2.1 (fl 9 1).2.2.1 ∈ TW := inC_1 _ (List.mem_of_getElem? (i := 54) rfl) rfl
theorem wd_1_55 : Cond.fieldLink RX11 254 (fl 9 1).1 (fl 9 1).2.1 (fl 9 1).2.2.1 ∈ TW := inC_1 _ (List.mem_of_getElem? (i := 55) rfl) rfl
theorem wd_1_56 : Cond.fieldLink RX9 19 (fl 9 2).1 (fl 9 2).2.1 (fl 9 2).2.2.1 ∈ TW := inC_1 _ (List.mem_of_getElem? (i := 56) rfl) rfl
theorem wd_1_57 : Cond.fieldLink RX8 97 (fl 9 2).1 (fl 9 2).2.1 (fl 9 2).2.2.1 ∈ TW := inC_1 _ (List.mem_of_getElem? (i := 57) rfl) rfl
theorem wd_1_58 : Cond.fieldLink RX11 144 (fl 9 2).1 (fl 9 2).2.1 (fl 9 2).2.2.1 ∈ TW := inC_1 _ (List.mem_of_getElem? (i := 58) rfl) rfl
theorem wd_1_59 : Cond.fieldLink RX9 23 (fl 9 3).1 (fl 9 3).2.1 (fl 9 3).2.2.1 ∈ TW := inC_1 _ (List.mem_of_getElem? (i := 59) rfl) rfl
theorem wd_1_60 : Cond.fieldLink RX9 26 (fl 9 4).1 (fl 9 4).2.1 (fl 9 4).2.2.1 ∈ TW := inC_1 _ (List.mem_of_getElem? (i := 60) rfl) rfl
theorem wd_1_61 : Cond.fieldLink RX9 29 (fl 9 5).1 (fl 9 5).2.1 (fl 9 5).2.2.1 ∈ TW := inC_1 _ (List.mem_of_getElem? (i := 61) rfl) rfl
theorem wd_1_62 : Cond.fieldLink RX9 32 (fl 9 6).1 (fl 9 6).2.1 (fl 9 6).2.2.1 ∈ TW := inC_1 _ (List.mem_of_getElem? (i := 62) rfl) rfl
theorem wd_1_63 : Cond.fieldLink RX9 35 (fl 9 7).1 (fl 9 7).2.1 (fl 9 7).2.2.1 ∈ TW := inC_1 _ (List.mem_of_getElem? (i := 63) rfl) rfl
theorem wd_1_64 : Cond.fieldLink RX9 38 (fl 9 8).1 (fl 9 8).2.1 (fl 9 8).2.2.1 ∈ TW := inC_1 _ (List.mem_of_getElem? (i := 64) rfl) rfl
theorem wd_1_65 : Cond.fieldLink RX9 41 (fl 9 9).1 (fl 9 9).2.1 (fl 9 9).2.2.1 ∈ TW := inC_1 _ (List.mem_of_getElem? (i := 65) rfl) rfl
theorem wd_1_66 : Cond.fieldLink RX9 44 (fl 9 10).1 (fl 9 10).2.1 (fl 9 10).2.2.1 ∈ TW := inC_1 _ (List.mem_of_getElem? (i := 66) rfl) rfl
theorem wd_1_67 : Cond.fieldLink RX11 412 (fl 9 10).1 (fl 9 10).2.1 (fl 9 10).2.2.1 ∈ TW := inC_1 _ (List.mem_of_getElem? (i := 67) rfl) rfl
theorem wd_1_68 : Cond.fieldLink RX9 47 (fl 9 11).1 (fl 9 11).2.1 (fl 9 11).2.2.1 ∈ TW := inC_1 _ (List.mem_of_getElem? (i := 68) rfl) rfl
theorem wd_1_69 : Cond.fieldLink RX11 419 (fl 9 11).1 (fl 9 11).2.1 (fl 9 11).2.2.1 ∈ TW := inC_1 _ (List.mem_of_getElem? (i := 69) rfl) rfl
theorem wd_1_70 : Cond.lays RX9 RX9 "size" "I" ∈ TW := inC_1 _ (List.mem_of_getElem? (i := 70) rfl) rfl
theorem wd_1_72 : Cond.laysFinal RX9 RX9 "shop" "[I" ∈ TW := inC_1 _ (List.mem_of_getElem? (i := 72) rfl) rfl
theorem wd_1_74 : Cond.laysFinal RX9 RX9 "here" "[Z" ∈ TW := inC_1 _ (List.mem_of_getElem? (i := 74) rfl) rfl
theorem wd_1_76 : Cond.laysFinal RX9 RX9 "born" "[I" ∈ TW := inC_1 _ (List.mem_of_getElem? (i := 76) rfl) rfl
theorem wd_1_78 : Cond.laysFinal RX9 RX9 "came" "[I" ∈ TW := inC_1 _ (List.mem_of_getElem? (i := 78) rfl) rfl
theorem wd_1_80 : Cond.laysFinal RX9 RX9 "children" "[I" ∈ TW := inC_1 _ (List.mem_of_getElem? (i := 80) rfl) rfl
theorem wd_1_82 : Cond.laysFinal RX9 RX9 "hurt" "[I" ∈ TW := inC_1 _ (List.mem_of_getElem? (i := 82) rfl) rfl
theorem wd_1_84 : Cond.laysFinal RX9 RX9 "listedChildren" "[I" ∈ TW := inC_1 _ (List.mem_of_getElem? (i := 84) rfl) rfl
theorem wd_1_86 : Cond.laysFinal RX9 RX9 "listedHurt" "[I" ∈ TW := inC_1 _ (List.mem_of_getElem? (i := 86) rfl) rfl
theorem wd_1_88 : Cond.laysFinal RX9 RX9 "wishes" "[I" ∈ TW := inC_1 _ (List.mem_of_getElem? (i := 88) rfl) rfl
theorem wd_1_90 : Cond.laysFinal RX9 RX9 "weights" "[I" ∈ TW := inC_1 _ (List.mem_of_getElem? (i := 90) rfl) rfl
theorem wd_1_92 : Cond.lays RX9 RX9 "listDay" "I" ∈ TW := inC_1 _ (List.mem_of_getElem? (i := 92) rfl) rfl
theorem wd_1_95 : Cond.classLink RX11 23 RX0 ∈ TW := inC_1 _ (List.mem_of_getElem? (i := 95) rfl) rfl
theorem wd_1_96 : Cond.instantiable RX0 6 ∈ TW := inC_1 _ (List.mem_of_getElem? (i := 96) rfl) rfl
theorem wd_1_97 : Cond.methodLinkNest RX11 25 yX0_init RX11 ∈ lw_tbl := inL_1 _ (List.mem_of_getElem? (i := 97) rfl)
theorem wd_1_98 : Cond.instanceMethod yX0_init ∈ TW := inC_1 _ (List.mem_of_getElem? (i := 98) rfl) rfl
theorem wd_1_99 : Cond.code yX0_init cX0_init 1 none ∈ TW := inC_1 _ (List.mem_of_getElem? (i := 99) rfl) rfl
theorem wd_1_100 : Cond.methodLink RX0 3 Lib.objectInit ∈ TW := inC_1 _ (List.mem_of_getElem? (i := 100) rfl) rfl
theorem wd_1_101 : Cond.classLink RX0 15 "[[B" ∈ TW := inC_1 _ (List.mem_of_getElem? (i := 101) rfl) rfl
theorem wd_1_102 : Cond.arrayOver (.array .byte) ∈ lw_tbl := inL_1 _ (List.mem_of_getElem? (i := 102) rfl)
theorem wd_1_103 : Cond.classLink RX0 30 RX7 ∈ TW := inC_1 _ (List.mem_of_getElem? (i := 103) rfl) rfl
theorem wd_1_104 : Cond.instantiable RX7 10 ∈ TW := inC_1 _ (List.mem_of_getElem? (i := 104) rfl) rfl
theorem wd_1_105 : Cond.methodLinkNest RX0 32 yX7_init RX11 ∈ lw_tbl := inL_1 _ (List.mem_of_getElem? (i := 105) rfl)
theorem wd_1_106 : Cond.instanceMethod yX7_init ∈ TW := inC_1 _ (List.mem_of_getElem? (i := 106) rfl) rfl
theorem wd_1_107 : Cond.code yX7_init cX7_init 1 none ∈ TW := inC_1 _ (List.mem_of_getElem? (i := 107) rfl) rfl
theorem wd_1_108 : Cond.methodLink RX7 3 Lib.objectInit ∈ TW := inC_1 _ (List.mem_of_getElem? (i := 108) rfl) rfl
theorem wd_1_109 : Cond.fieldLink RX7 9 (fl 7 0).1 (fl 7 0).2.1 (fl 7 0).2.2.1 ∈ TW := inC_1 _ (List.mem_of_getElem? (i := 109) rfl) rfl
theorem wd_1_110 : Cond.fieldLink RX11 459 (fl 7 0).1 (fl 7 0).2.1 (fl 7 0).2.2.1 ∈ TW := inC_1 _ (List.mem_of_getElem? (i := 110) rfl) rfl
theorem wd_1_111 : Cond.fieldLink RX7 15 (fl 7 1).1 (fl 7 1).2.1 (fl 7 1).2.2.1 ∈ TW := inC_1 _ (List.mem_of_getElem? (i := 111) rfl) rfl
theorem wd_1_112 : Cond.fieldLink RX7 19 (fl 7 2).1 (fl 7 2).2.1 (fl 7 2).2.2.1 ∈ TW := inC_1 _ (List.mem_of_getElem? (i := 112) rfl) rfl
theorem wd_1_113 : Cond.fieldLink RX7 23 (fl 7 3).1 (fl 7 3).2.1 (fl 7 3).2.2.1 ∈ TW := inC_1 _ (List.mem_of_getElem? (i := 113) rfl) rfl
theorem wd_1_114 : Cond.fieldLink RX7 26 (fl 7 4).1 (fl 7 4).2.1 (fl 7 4).2.2.1 ∈ TW := inC_1 _ (List.mem_of_getElem? (i := 114) rfl) rfl
theorem wd_1_115 : Cond.fieldLink RX7 29 (fl 7 5).1 (fl 7 5).2.1 (fl 7 5).2.2.1 ∈ TW := inC_1 _ (List.mem_of_getElem? (i := 115) rfl) rfl
theorem wd_1_116 : Cond.fieldLink RX7 32 (fl 7 6).1 (fl 7 6).2.1 (fl 7 6).2.2.1 ∈ TW := inC_1 _ (List.mem_of_getElem? (i := 116) rfl) rfl
theorem wd_1_117 : Cond.fieldLink RX7 35 (fl 7 7).1 (fl 7 7).2.1 (fl 7 7).2.2.1 ∈ TW := inC_1 _ (List.mem_of_getElem? (i := 117) rfl) rfl
theorem wd_1_118 : Cond.fieldLink RX7 39 (fl 7 8).1 (fl 7 8).2.1 (fl 7 8).2.2.1 ∈ TW := inC_1 _ (List.mem_of_getElem? (i := 118) rfl) rfl
theorem wd_1_119 : Cond.fieldLink RX7 42 (fl 7 9).1 (fl 7 9).2.1 (fl 7 9).2.2.1 ∈ TW := inC_1 _ (List.mem_of_getElem? (i := 119) rfl) rfl
theorem wd_1_120 : Cond.laysFinal RX7 RX7 "facts" "[I" ∈ TW := inC_1 _ (List.mem_of_getElem? (i := 120) rfl) rfl
theorem wd_1_122 : Cond.lays RX7 RX7 "text" "[B" ∈ TW := inC_1 _ (List.mem_of_getElem? (i := 122) rfl) rfl
theorem wd_1_124 : Cond.lays RX7 RX7 "length" "I" ∈ TW := inC_1 _ (List.mem_of_getElem? (i := 124) rfl) rfl
theorem wd_1_126 : Cond.lays RX7 RX7 "at" "I" ∈ TW := inC_1 _ (List.mem_of_getElem? (i := 126) rfl) rfl
theorem wd_1_128 : Cond.lays RX7 RX7 "fault" "I" ∈ TW := inC_1 _ (List.mem_of_getElem? (i := 128) rfl) rfl
theorem wd_1_130 : Cond.lays RX7 RX7 "deep" "I" ∈ TW := inC_1 _ (List.mem_of_getElem? (i := 130) rfl) rfl
theorem wd_1_132 : Cond.lays RX7 RX7 "level" "I" ∈ TW := inC_1 _ (List.mem_of_getElem? (i := 132) rfl) rfl
theorem wd_1_134 : Cond.laysFinal RX7 RX7 "anyTerm" "[Z" ∈ TW := inC_1 _ (List.mem_of_getElem? (i := 134) rfl) rfl
theorem wd_1_136 : Cond.laysFinal RX7 RX7 "allParts" "[Z" ∈ TW := inC_1 _ (List.mem_of_getElem? (i := 136) rfl) rfl
theorem wd_1_138 : Cond.laysFinal RX7 RX7 "nots" "[I" ∈ TW := inC_1 _ (List.mem_of_getElem? (i := 138) rfl) rfl
theorem wd_1_141 : Cond.arrayClass .byte ∈ TW := inC_1 _ (List.mem_of_getElem? (i := 141) rfl) rfl
theorem wd_1_142 : Cond.fieldLink RX0 9 (fl 0 0).1 (fl 0 0).2.1 (fl 0 0).2.2.1 ∈ TW := inC_1 _ (List.mem_of_getElem? (i := 142) rfl) rfl
theorem wd_1_143 : Cond.fieldLink RX11 156 (fl 0 0).1 (fl 0 0).2.1 (fl 0 0).2.2.1 ∈ TW := inC_1 _ (List.mem_of_getElem? (i := 143) rfl) rfl
theorem wd_1_144 : Cond.fieldLink RX0 17 (fl 0 1).1 (fl 0 1).2.1 (fl 0 1).2.2.1 ∈ TW := inC_1 _ (List.mem_of_getElem? (i := 144) rfl) rfl
theorem wd_1_145 : Cond.fieldLink RX0 20 (fl 0 2).1 (fl 0 2).2.1 (fl 0 2).2.2.1 ∈ TW := inC_1 _ (List.mem_of_getElem? (i := 145) rfl) rfl
theorem wd_1_146 : Cond.fieldLink RX0 24 (fl 0 3).1 (fl 0 3).2.1 (fl 0 3).2.2.1 ∈ TW := inC_1 _ (List.mem_of_getElem? (i := 146) rfl) rfl
theorem wd_1_147 : Cond.fieldLink RX0 27 (fl 0 4).1 (fl 0 4).2.1 (fl 0 4).2.2.1 ∈ TW := inC_1 _ (List.mem_of_getElem? (i := 147) rfl) rfl
theorem wd_1_148 : Cond.fieldLink RX11 166 (fl 0 4).1 (fl 0 4).2.1 (fl 0 4).2.2.1 ∈ TW := inC_1 _ (List.mem_of_getElem? (i := 148) rfl) rfl
theorem wd_1_149 : Cond.fieldLink RX0 33 (fl 0 5).1 (fl 0 5).2.1 (fl 0 5).2.2.1 ∈ TW := inC_1 _ (List.mem_of_getElem? (i := 149) rfl) rfl
theorem wd_1_150 : Cond.fieldLink RX11 455 (fl 0 5).1 (fl 0 5).2.1 (fl 0 5).2.2.1 ∈ TW := inC_1 _ (List.mem_of_getElem? (i := 150) rfl) rfl
theorem wd_1_151 : Cond.lays RX0 RX0 "size" "I" ∈ TW := inC_1 _ (List.mem_of_getElem? (i := 151) rfl) rfl
theorem wd_1_153 : Cond.laysFinal RX0 RX0 "texts" "[[B" ∈ TW := inC_1 _ (List.mem_of_getElem? (i := 153) rfl) rfl
theorem wd_1_155 : Cond.laysFinal RX0 RX0 "lengths" "[I" ∈ TW := inC_1 _ (List.mem_of_getElem? (i := 155) rfl) rfl
theorem wd_1_157 : Cond.laysFinal RX0 RX0 "from" "[I" ∈ TW := inC_1 _ (List.mem_of_getElem? (i := 157) rfl) rfl
theorem wd_1_159 : Cond.laysFinal RX0 RX0 "struck" "[I" ∈ TW := inC_1 _ (List.mem_of_getElem? (i := 159) rfl) rfl
theorem wd_1_161 : Cond.laysFinal RX0 RX0 "reader" "LWorksCouncil$Reader;" ∈ TW := inC_1 _ (List.mem_of_getElem? (i := 161) rfl) rfl
theorem wd_1_164 : Cond.classLink RX11 30 RX2 ∈ TW := inC_1 _ (List.mem_of_getElem? (i := 164) rfl) rfl
theorem wd_1_165 : Cond.instantiable RX2 11 ∈ TW := inC_1 _ (List.mem_of_getElem? (i := 165) rfl) rfl
theorem wd_1_166 : Cond.methodLinkNest RX11 32 yX2_init RX11 ∈ lw_tbl := inL_1 _ (List.mem_of_getElem? (i := 166) rfl)
theorem wd_1_167 : Cond.instanceMethod yX2_init ∈ TW := inC_1 _ (List.mem_of_getElem? (i := 167) rfl) rfl
theorem wd_1_168 : Cond.code yX2_init cX2_init 1 none ∈ TW := inC_1 _ (List.mem_of_getElem? (i := 168) rfl) rfl
theorem wd_1_169 : Cond.methodLink RX2 3 Lib.objectInit ∈ TW := inC_1 _ (List.mem_of_getElem? (i := 169) rfl) rfl
theorem wd_1_170 : Cond.fieldLink RX2 9 (fl 2 0).1 (fl 2 0).2.1 (fl 2 0).2.2.1 ∈ TW := inC_1 _ (List.mem_of_getElem? (i := 170) rfl) rfl
theorem wd_1_171 : Cond.fieldLink RX11 239 (fl 2 0).1 (fl 2 0).2.1 (fl 2 0).2.2.1 ∈ TW := inC_1 _ (List.mem_of_getElem? (i := 171) rfl) rfl
theorem wd_1_172 : Cond.fieldLink RX2 15 (fl 2 1).1 (fl 2 1).2.1 (fl 2 1).2.2.1 ∈ TW := inC_1 _ (List.mem_of_getElem? (i := 172) rfl) rfl
theorem wd_1_173 : Cond.fieldLink RX11 442 (fl 2 1).1 (fl 2 1).2.1 (fl 2 1).2.2.1 ∈ TW := inC_1 _ (List.mem_of_getElem? (i := 173) rfl) rfl
theorem wd_1_174 : Cond.fieldLink RX2 19 (fl 2 2).1 (fl 2 2).2.1 (fl 2 2).2.2.1 ∈ TW := inC_1 _ (List.mem_of_getElem? (i := 174) rfl) rfl
theorem wd_1_175 : Cond.fieldLink RX11 248 (fl 2 2).1 (fl 2 2).2.1 (fl 2 2).2.2.1 ∈ TW := inC_1 _ (List.mem_of_getElem? (i := 175) rfl) rfl
theorem wd_1_176 : Cond.fieldLink RX2 22 (fl 2 3).1 (fl 2 3).2.1 (fl 2 3).2.2.1 ∈ TW := inC_1 _ (List.mem_of_getElem? (i := 176) rfl) rfl
theorem wd_1_177 : Cond.fieldLink RX11 251 (fl 2 3).1 (fl 2 3).2.1 (fl 2 3).2.2.1 ∈ TW := inC_1 _ (List.mem_of_getElem? (i := 177) rfl) rfl
theorem wd_1_178 : Cond.fieldLink RX2 25 (fl 2 4).1 (fl 2 4).2.1 (fl 2 4).2.2.1 ∈ TW := inC_1 _ (List.mem_of_getElem? (i := 178) rfl) rfl
theorem wd_1_179 : Cond.fieldLink RX2 28 (fl 2 5).1 (fl 2 5).2.1 (fl 2 5).2.2.1 ∈ TW := inC_1 _ (List.mem_of_getElem? (i := 179) rfl) rfl
theorem wd_1_180 : Cond.fieldLink RX11 264 (fl 2 5).1 (fl 2 5).2.1 (fl 2 5).2.2.1 ∈ TW := inC_1 _ (List.mem_of_getElem? (i := 180) rfl) rfl
theorem wd_1_181 : Cond.fieldLink RX2 31 (fl 2 6).1 (fl 2 6).2.1 (fl 2 6).2.2.1 ∈ TW := inC_1 _ (List.mem_of_getElem? (i := 181) rfl) rfl
theorem wd_1_182 : Cond.fieldLink RX11 274 (fl 2 6).1 (fl 2 6).2.1 (fl 2 6).2.2.1 ∈ TW := inC_1 _ (List.mem_of_getElem? (i := 182) rfl) rfl
theorem wd_1_183 : Cond.fieldLink RX2 34 (fl 2 7).1 (fl 2 7).2.1 (fl 2 7).2.2.1 ∈ TW := inC_1 _ (List.mem_of_getElem? (i := 183) rfl) rfl
theorem wd_1_184 : Cond.fieldLink RX11 277 (fl 2 7).1 (fl 2 7).2.1 (fl 2 7).2.2.1 ∈ TW := inC_1 _ (List.mem_of_getElem? (i := 184) rfl) rfl
theorem wd_1_185 : Cond.fieldLink RX2 37 (fl 2 8).1 (fl 2 8).2.1 (fl 2 8).2.2.1 ∈ TW := inC_1 _ (List.mem_of_getElem? (i := 185) rfl) rfl
theorem wd_1_186 : Cond.fieldLink RX11 288 (fl 2 8).1 (fl 2 8).2.1 (fl 2 8).2.2.1 ∈ TW := inC_1 _ (List.mem_of_getElem? (i := 186) rfl) rfl
theorem wd_1_187 : Cond.fieldLink RX2 41 (fl 2 9).1 (fl 2 9).2.1 (fl 2 9).2.2.1 ∈ TW := inC_1 _ (List.mem_of_getElem? (i := 187) rfl) rfl
theorem wd_1_188 : Cond.fieldLink RX11 291 (fl 2 9).1 (fl 2 9).2.1 (fl 2 9).2.2.1 ∈ TW := inC_1 _ (List.mem_of_getElem? (i := 188) rfl) rfl
theorem wd_1_189 : Cond.fieldLink RX2 44 (fl 2 10).1 (fl 2 10).2.1 (fl 2 10).2.2.1 ∈ TW := inC_1 _ (List.mem_of_getElem? (i := 189) rfl) rfl
theorem wd_1_190 : Cond.fieldLink RX11 285 (fl 2 10).1 (fl 2 10).2.1 (fl 2 10).2.2.1 ∈ TW := inC_1 _ (List.mem_of_getElem? (i := 190) rfl) rfl
theorem wd_1_191 : Cond.laysFinal RX2 RX2 "votes" "[I" ∈ TW := inC_1 _ (List.mem_of_getElem? (i := 191) rfl) rfl
theorem wd_1_193 : Cond.lays RX2 RX2 "seats" "I" ∈ TW := inC_1 _ (List.mem_of_getElem? (i := 193) rfl) rfl
theorem wd_1_195 : Cond.laysFinal RX2 RX2 "seatShop" "[I" ∈ TW := inC_1 _ (List.mem_of_getElem? (i := 195) rfl) rfl
theorem wd_1_197 : Cond.laysFinal RX2 RX2 "member" "[I" ∈ TW := inC_1 _ (List.mem_of_getElem? (i := 197) rfl) rfl
theorem wd_1_199 : Cond.laysFinal RX2 RX2 "won" "[I" ∈ TW := inC_1 _ (List.mem_of_getElem? (i := 199) rfl) rfl
theorem wd_1_201 : Cond.lays RX2 RX2 "sessions" "I" ∈ TW := inC_1 _ (List.mem_of_getElem? (i := 201) rfl) rfl
theorem wd_1_203 : Cond.laysFinal RX2 RX2 "day" "[I" ∈ TW := inC_1 _ (List.mem_of_getElem? (i := 203) rfl) rfl
theorem wd_1_205 : Cond.laysFinal RX2 RX2 "present" "[I" ∈ TW := inC_1 _ (List.mem_of_getElem? (i := 205) rfl) rfl
theorem wd_1_207 : Cond.laysFinal RX2 RX2 "right" "[Z" ∈ TW := inC_1 _ (List.mem_of_getElem? (i := 207) rfl) rfl
theorem wd_1_209 : Cond.laysFinal RX2 RX2 "voided" "[I" ∈ TW := inC_1 _ (List.mem_of_getElem? (i := 209) rfl) rfl
theorem wd_1_211 : Cond.laysFinal RX2 RX2 "answers" "[I" ∈ TW := inC_1 _ (List.mem_of_getElem? (i := 211) rfl) rfl
theorem wd_1_214 : Cond.classLink RX11 37 RX5 ∈ TW := inC_1 _ (List.mem_of_getElem? (i := 214) rfl) rfl
theorem wd_1_215 : Cond.arrayOver (.object "WorksCouncil$Matter") ∈ lw_tbl := inL_1 _ (List.mem_of_getElem? (i := 215) rfl)
theorem wd_1_216 : Cond.classLink RX11 47 RX1 ∈ TW := inC_1 _ (List.mem_of_getElem? (i := 216) rfl) rfl
theorem wd_1_217 : Cond.instantiable RX1 10 ∈ TW := inC_1 _ (List.mem_of_getElem? (i := 217) rfl) rfl
theorem wd_1_218 : Cond.methodLinkNest RX11 49 yX1_init RX11 ∈ lw_tbl := inL_1 _ (List.mem_of_getElem? (i := 218) rfl)
theorem wd_1_219 : Cond.instanceMethod yX1_init ∈ TW := inC_1 _ (List.mem_of_getElem? (i := 219) rfl) rfl
theorem wd_1_220 : Cond.code yX1_init cX1_init 1 none ∈ TW := inC_1 _ (List.mem_of_getElem? (i := 220) rfl) rfl
theorem wd_1_221 : Cond.methodLink RX1 3 Lib.objectInit ∈ TW := inC_1 _ (List.mem_of_getElem? (i := 221) rfl) rfl
theorem wd_1_222 : Cond.fieldLink RX1 9 (fl 1 0).1 (fl 1 0).2.1 (fl 1 0).2.2.1 ∈ TW := inC_1 _ (List.mem_of_getElem? (i := 222) rfl) rfl
theorem wd_1_223 : Cond.fieldLink RX11 303 (fl 1 0).1 (fl 1 0).2.1 (fl 1 0).2.2.1 ∈ TW := inC_1 _ (List.mem_of_getElem? (i := 223) rfl) rfl
theorem wd_1_224 : Cond.fieldLink RX1 15 (fl 1 1).1 (fl 1 1).2.1 (fl 1 1).2.2.1 ∈ TW := inC_1 _ (List.mem_of_getElem? (i := 224) rfl) rfl
theorem wd_1_225 : Cond.fieldLink RX11 312 (fl 1 1).1 (fl 1 1).2.1 (fl 1 1).2.2.1 ∈ TW := inC_1 _ (List.mem_of_getElem? (i := 225) rfl) rfl
theorem wd_1_226 : Cond.fieldLink RX1 19 (fl 1 2).1 (fl 1 2).2.1 (fl 1 2).2.2.1 ∈ TW := inC_1 _ (List.mem_of_getElem? (i := 226) rfl) rfl
theorem wd_1_227 : Cond.fieldLink RX11 315 (fl 1 2).1 (fl 1 2).2.1 (fl 1 2).2.2.1 ∈ TW := inC_1 _ (List.mem_of_getElem? (i := 227) rfl) rfl
theorem wd_1_228 : Cond.fieldLink RX1 22 (fl 1 3).1 (fl 1 3).2.1 (fl 1 3).2.2.1 ∈ TW := inC_1 _ (List.mem_of_getElem? (i := 228) rfl) rfl
theorem wd_1_229 : Cond.fieldLink RX11 318 (fl 1 3).1 (fl 1 3).2.1 (fl 1 3).2.2.1 ∈ TW := inC_1 _ (List.mem_of_getElem? (i := 229) rfl) rfl
theorem wd_1_230 : Cond.fieldLink RX1 25 (fl 1 4).1 (fl 1 4).2.1 (fl 1 4).2.2.1 ∈ TW := inC_1 _ (List.mem_of_getElem? (i := 230) rfl) rfl
theorem wd_1_231 : Cond.fieldLink RX11 321 (fl 1 4).1 (fl 1 4).2.1 (fl 1 4).2.2.1 ∈ TW := inC_1 _ (List.mem_of_getElem? (i := 231) rfl) rfl
theorem wd_1_232 : Cond.fieldLink RX1 28 (fl 1 5).1 (fl 1 5).2.1 (fl 1 5).2.2.1 ∈ TW := inC_1 _ (List.mem_of_getElem? (i := 232) rfl) rfl
theorem wd_1_233 : Cond.fieldLink RX11 464 (fl 1 5).1 (fl 1 5).2.1 (fl 1 5).2.2.1 ∈ TW := inC_1 _ (List.mem_of_getElem? (i := 233) rfl) rfl
theorem wd_1_234 : Cond.fieldLink RX1 31 (fl 1 6).1 (fl 1 6).2.1 (fl 1 6).2.2.1 ∈ TW := inC_1 _ (List.mem_of_getElem? (i := 234) rfl) rfl
theorem wd_1_235 : Cond.fieldLink RX11 306 (fl 1 6).1 (fl 1 6).2.1 (fl 1 6).2.2.1 ∈ TW := inC_1 _ (List.mem_of_getElem? (i := 235) rfl) rfl
theorem wd_1_236 : Cond.fieldLink RX1 35 (fl 1 7).1 (fl 1 7).2.1 (fl 1 7).2.2.1 ∈ TW := inC_1 _ (List.mem_of_getElem? (i := 236) rfl) rfl
theorem wd_1_237 : Cond.fieldLink RX11 330 (fl 1 7).1 (fl 1 7).2.1 (fl 1 7).2.2.1 ∈ TW := inC_1 _ (List.mem_of_getElem? (i := 237) rfl) rfl
theorem wd_1_238 : Cond.fieldLink RX1 38 (fl 1 8).1 (fl 1 8).2.1 (fl 1 8).2.2.1 ∈ TW := inC_1 _ (List.mem_of_getElem? (i := 238) rfl) rfl
theorem wd_1_239 : Cond.fieldLink RX11 333 (fl 1 8).1 (fl 1 8).2.1 (fl 1 8).2.2.1 ∈ TW := inC_1 _ (List.mem_of_getElem? (i := 239) rfl) rfl
theorem wd_2_0 : Cond.fieldLink RX1 41 (fl 1 9).1 (fl 1 9).2.1 (fl 1 9).2.2.1 ∈ TW := inC_2 _ (List.mem_of_getElem? (i := 0) rfl) rfl
theorem wd_2_1 : Cond.fieldLink RX11 336 (fl 1 9).1 (fl 1 9).2.1 (fl 1 9).2.2.1 ∈ TW := inC_2 _ (List.mem_of_getElem? (i := 1) rfl) rfl
theorem wd_2_2 : Cond.lays RX1 RX1 "size" "I" ∈ TW := inC_2 _ (List.mem_of_getElem? (i := 2) rfl) rfl
theorem wd_2_4 : Cond.laysFinal RX1 RX1 "matter" "[I" ∈ TW := inC_2 _ (List.mem_of_getElem? (i := 4) rfl) rfl
theorem wd_2_6 : Cond.laysFinal RX1 RX1 "value" "[I" ∈ TW := inC_2 _ (List.mem_of_getElem? (i := 6) rfl) rfl
theorem wd_2_8 : Cond.laysFinal RX1 RX1 "from" "[I" ∈ TW := inC_2 _ (List.mem_of_getElem? (i := 8) rfl) rfl
theorem wd_2_10 : Cond.laysFinal RX1 RX1 "end" "[I" ∈ TW := inC_2 _ (List.mem_of_getElem? (i := 10) rfl) rfl
theorem wd_2_12 : Cond.laysFinal RX1 RX1 "made" "[I" ∈ TW := inC_2 _ (List.mem_of_getElem? (i := 12) rfl) rfl
theorem wd_2_14 : Cond.laysFinal RX1 RX1 "cancelled" "[Z" ∈ TW := inC_2 _ (List.mem_of_getElem? (i := 14) rfl) rfl
theorem wd_2_16 : Cond.laysFinal RX1 RX1 "contract" "[I" ∈ TW := inC_2 _ (List.mem_of_getElem? (i := 16) rfl) rfl
theorem wd_2_18 : Cond.laysFinal RX1 RX1 "let" "[I" ∈ TW := inC_2 _ (List.mem_of_getElem? (i := 18) rfl) rfl
theorem wd_2_20 : Cond.laysFinal RX1 RX1 "after" "[Z" ∈ TW := inC_2 _ (List.mem_of_getElem? (i := 20) rfl) rfl
theorem wd_2_23 : Cond.classLink RX11 54 RX4 ∈ TW := inC_2 _ (List.mem_of_getElem? (i := 23) rfl) rfl
theorem wd_2_24 : Cond.instantiable RX4 10 ∈ TW := inC_2 _ (List.mem_of_getElem? (i := 24) rfl) rfl
theorem wd_2_25 : Cond.methodLinkNest RX11 56 yX4_init RX11 ∈ lw_tbl := inL_2 _ (List.mem_of_getElem? (i := 25) rfl)
theorem wd_2_26 : Cond.instanceMethod yX4_init ∈ TW := inC_2 _ (List.mem_of_getElem? (i := 26) rfl) rfl
theorem wd_2_27 : Cond.code yX4_init cX4_init 1 none ∈ TW := inC_2 _ (List.mem_of_getElem? (i := 27) rfl) rfl
theorem wd_2_28 : Cond.methodLink RX4 3 Lib.objectInit ∈ TW := inC_2 _ (List.mem_of_getElem? (i := 28) rfl) rfl
theorem wd_2_29 : Cond.fieldLink RX4 9 (fl 4 0).1 (fl 4 0).2.1 (fl 4 0).2.2.1 ∈ TW := inC_2 _ (List.mem_of_getElem? (i := 29) rfl) rfl
theorem wd_2_30 : Cond.fieldLink RX11 354 (fl 4 0).1 (fl 4 0).2.1 (fl 4 0).2.2.1 ∈ TW := inC_2 _ (List.mem_of_getElem? (i := 30) rfl) rfl
theorem wd_2_31 : Cond.fieldLink RX4 15 (fl 4 1).1 (fl 4 1).2.1 (fl 4 1).2.2.1 ∈ TW := inC_2 _ (List.mem_of_getElem? (i := 31) rfl) rfl
theorem wd_2_32 : Cond.fieldLink RX11 359 (fl 4 1).1 (fl 4 1).2.1 (fl 4 1).2.2.1 ∈ TW := inC_2 _ (List.mem_of_getElem? (i := 32) rfl) rfl
theorem wd_2_33 : Cond.fieldLink RX4 19 (fl 4 2).1 (fl 4 2).2.1 (fl 4 2).2.2.1 ∈ TW := inC_2 _ (List.mem_of_getElem? (i := 33) rfl) rfl
theorem wd_2_34 : Cond.fieldLink RX11 360 (fl 4 2).1 (fl 4 2).2.1 (fl 4 2).2.2.1 ∈ TW := inC_2 _ (List.mem_of_getElem? (i := 34) rfl) rfl
theorem wd_2_35 : Cond.fieldLink RX4 22 (fl 4 3).1 (fl 4 3).2.1 (fl 4 3).2.2.1 ∈ TW := inC_2 _ (List.mem_of_getElem? (i := 35) rfl) rfl
theorem wd_2_36 : Cond.fieldLink RX11 479 (fl 4 3).1 (fl 4 3).2.1 (fl 4 3).2.2.1 ∈ TW := inC_2 _ (List.mem_of_getElem? (i := 36) rfl) rfl
theorem wd_2_37 : Cond.fieldLink RX4 25 (fl 4 4).1 (fl 4 4).2.1 (fl 4 4).2.2.1 ∈ TW := inC_2 _ (List.mem_of_getElem? (i := 37) rfl) rfl
theorem wd_2_38 : Cond.fieldLink RX11 481 (fl 4 4).1 (fl 4 4).2.1 (fl 4 4).2.2.1 ∈ TW := inC_2 _ (List.mem_of_getElem? (i := 38) rfl) rfl
theorem wd_2_39 : Cond.fieldLink RX4 28 (fl 4 5).1 (fl 4 5).2.1 (fl 4 5).2.2.1 ∈ TW := inC_2 _ (List.mem_of_getElem? (i := 39) rfl) rfl
theorem wd_2_40 : Cond.fieldLink RX11 476 (fl 4 5).1 (fl 4 5).2.1 (fl 4 5).2.2.1 ∈ TW := inC_2 _ (List.mem_of_getElem? (i := 40) rfl) rfl
theorem wd_2_41 : Cond.fieldLink RX4 32 (fl 4 6).1 (fl 4 6).2.1 (fl 4 6).2.2.1 ∈ TW := inC_2 _ (List.mem_of_getElem? (i := 41) rfl) rfl
theorem wd_2_42 : Cond.fieldLink RX11 367 (fl 4 6).1 (fl 4 6).2.1 (fl 4 6).2.2.1 ∈ TW := inC_2 _ (List.mem_of_getElem? (i := 42) rfl) rfl
theorem wd_2_43 : Cond.fieldLink RX4 35 (fl 4 7).1 (fl 4 7).2.1 (fl 4 7).2.2.1 ∈ TW := inC_2 _ (List.mem_of_getElem? (i := 43) rfl) rfl
theorem wd_2_44 : Cond.fieldLink RX4 38 (fl 4 8).1 (fl 4 8).2.1 (fl 4 8).2.2.1 ∈ TW := inC_2 _ (List.mem_of_getElem? (i := 44) rfl) rfl
theorem wd_2_45 : Cond.fieldLink RX4 41 (fl 4 9).1 (fl 4 9).2.1 (fl 4 9).2.2.1 ∈ TW := inC_2 _ (List.mem_of_getElem? (i := 45) rfl) rfl
theorem wd_2_46 : Cond.lays RX4 RX4 "size" "I" ∈ TW := inC_2 _ (List.mem_of_getElem? (i := 46) rfl) rfl
theorem wd_2_48 : Cond.laysFinal RX4 RX4 "matter" "[I" ∈ TW := inC_2 _ (List.mem_of_getElem? (i := 48) rfl) rfl
theorem wd_2_50 : Cond.laysFinal RX4 RX4 "day" "[I" ∈ TW := inC_2 _ (List.mem_of_getElem? (i := 50) rfl) rfl
theorem wd_2_52 : Cond.laysFinal RX4 RX4 "shops" "[I" ∈ TW := inC_2 _ (List.mem_of_getElem? (i := 52) rfl) rfl
theorem wd_2_54 : Cond.laysFinal RX4 RX4 "sum" "[I" ∈ TW := inC_2 _ (List.mem_of_getElem? (i := 54) rfl) rfl
theorem wd_2_56 : Cond.laysFinal RX4 RX4 "bound" "[Z" ∈ TW := inC_2 _ (List.mem_of_getElem? (i := 56) rfl) rfl
theorem wd_2_58 : Cond.lays RX4 RX4 "amounts" "I" ∈ TW := inC_2 _ (List.mem_of_getElem? (i := 58) rfl) rfl
theorem wd_2_60 : Cond.laysFinal RX4 RX4 "hungOn" "[I" ∈ TW := inC_2 _ (List.mem_of_getElem? (i := 60) rfl) rfl
theorem wd_2_62 : Cond.laysFinal RX4 RX4 "amount" "[I" ∈ TW := inC_2 _ (List.mem_of_getElem? (i := 62) rfl) rfl
theorem wd_2_64 : Cond.laysFinal RX4 RX4 "hungDay" "[I" ∈ TW := inC_2 _ (List.mem_of_getElem? (i := 64) rfl) rfl
theorem wd_2_67 : Cond.classLink RX11 61 RX8 ∈ TW := inC_2 _ (List.mem_of_getElem? (i := 67) rfl) rfl
theorem wd_2_68 : Cond.instantiable RX8 17 ∈ TW := inC_2 _ (List.mem_of_getElem? (i := 68) rfl) rfl
theorem wd_2_69 : Cond.methodLinkNest RX11 63 yX8_init RX11 ∈ lw_tbl := inL_2 _ (List.mem_of_getElem? (i := 69) rfl)
theorem wd_2_70 : Cond.instanceMethod yX8_init ∈ TW := inC_2 _ (List.mem_of_getElem? (i := 70) rfl) rfl
theorem wd_2_71 : Cond.code yX8_init cX8_init 1 none ∈ TW := inC_2 _ (List.mem_of_getElem? (i := 71) rfl) rfl
theorem wd_2_72 : Cond.methodLink RX8 3 Lib.objectInit ∈ TW := inC_2 _ (List.mem_of_getElem? (i := 72) rfl) rfl
theorem wd_2_73 : Cond.classLink RX8 37 "[[I" ∈ TW := inC_2 _ (List.mem_of_getElem? (i := 73) rfl) rfl
theorem wd_2_74 : Cond.arrayOver (.array .int) ∈ lw_tbl := inL_2 _ (List.mem_of_getElem? (i := 74) rfl)
theorem wd_2_75 : Cond.fieldLink RX8 9 (fl 8 0).1 (fl 8 0).2.1 (fl 8 0).2.2.1 ∈ TW := inC_2 _ (List.mem_of_getElem? (i := 75) rfl) rfl
theorem wd_2_76 : Cond.fieldLink RX11 373 (fl 8 0).1 (fl 8 0).2.1 (fl 8 0).2.2.1 ∈ TW := inC_2 _ (List.mem_of_getElem? (i := 76) rfl) rfl
theorem wd_2_77 : Cond.fieldLink RX8 15 (fl 8 1).1 (fl 8 1).2.1 (fl 8 1).2.2.1 ∈ TW := inC_2 _ (List.mem_of_getElem? (i := 77) rfl) rfl
theorem wd_2_78 : Cond.fieldLink RX8 18 (fl 8 2).1 (fl 8 2).2.1 (fl 8 2).2.2.1 ∈ TW := inC_2 _ (List.mem_of_getElem? (i := 78) rfl) rfl
theorem wd_2_79 : Cond.fieldLink RX8 22 (fl 8 3).1 (fl 8 3).2.1 (fl 8 3).2.2.1 ∈ TW := inC_2 _ (List.mem_of_getElem? (i := 79) rfl) rfl
theorem wd_2_80 : Cond.fieldLink RX8 25 (fl 8 4).1 (fl 8 4).2.1 (fl 8 4).2.2.1 ∈ TW := inC_2 _ (List.mem_of_getElem? (i := 80) rfl) rfl
theorem wd_2_81 : Cond.fieldLink RX8 28 (fl 8 5).1 (fl 8 5).2.1 (fl 8 5).2.2.1 ∈ TW := inC_2 _ (List.mem_of_getElem? (i := 81) rfl) rfl
theorem wd_2_82 : Cond.fieldLink RX8 31 (fl 8 6).1 (fl 8 6).2.1 (fl 8 6).2.2.1 ∈ TW := inC_2 _ (List.mem_of_getElem? (i := 82) rfl) rfl
theorem wd_2_83 : Cond.fieldLink RX8 34 (fl 8 7).1 (fl 8 7).2.1 (fl 8 7).2.2.1 ∈ TW := inC_2 _ (List.mem_of_getElem? (i := 83) rfl) rfl
theorem wd_2_84 : Cond.fieldLink RX8 39 (fl 8 8).1 (fl 8 8).2.1 (fl 8 8).2.2.1 ∈ TW := inC_2 _ (List.mem_of_getElem? (i := 84) rfl) rfl
theorem wd_2_85 : Cond.fieldLink RX8 42 (fl 8 9).1 (fl 8 9).2.1 (fl 8 9).2.2.1 ∈ TW := inC_2 _ (List.mem_of_getElem? (i := 85) rfl) rfl
theorem wd_2_86 : Cond.fieldLink RX8 45 (fl 8 10).1 (fl 8 10).2.1 (fl 8 10).2.2.1 ∈ TW := inC_2 _ (List.mem_of_getElem? (i := 86) rfl) rfl
theorem wd_2_87 : Cond.fieldLink RX8 48 (fl 8 11).1 (fl 8 11).2.1 (fl 8 11).2.2.1 ∈ TW := inC_2 _ (List.mem_of_getElem? (i := 87) rfl) rfl
theorem wd_2_88 : Cond.fieldLink RX8 51 (fl 8 12).1 (fl 8 12).2.1 (fl 8 12).2.2.1 ∈ TW := inC_2 _ (List.mem_of_getElem? (i := 88) rfl) rfl
theorem wd_2_89 : Cond.fieldLink RX8 54 (fl 8 13).1 (fl 8 13).2.1 (fl 8 13).2.2.1 ∈ TW := inC_2 _ (List.mem_of_getElem? (i := 89) rfl) rfl
theorem wd_2_90 : Cond.fieldLink RX8 58 (fl 8 14).1 (fl 8 14).2.1 (fl 8 14).2.2.1 ∈ TW := inC_2 _ (List.mem_of_getElem? (i := 90) rfl) rfl
theorem wd_2_91 : Cond.fieldLink RX8 61 (fl 8 15).1 (fl 8 15).2.1 (fl 8 15).2.2.1 ∈ TW := inC_2 _ (List.mem_of_getElem? (i := 91) rfl) rfl
theorem wd_2_92 : Cond.fieldLink RX8 65 (fl 8 16).1 (fl 8 16).2.1 (fl 8 16).2.2.1 ∈ TW := inC_2 _ (List.mem_of_getElem? (i := 92) rfl) rfl
theorem wd_2_93 : Cond.laysFinal RX8 RX8 "need" "[I" ∈ TW := inC_2 _ (List.mem_of_getElem? (i := 93) rfl) rfl
theorem wd_2_95 : Cond.laysFinal RX8 RX8 "team" "[I" ∈ TW := inC_2 _ (List.mem_of_getElem? (i := 95) rfl) rfl
theorem wd_2_97 : Cond.lays RX8 RX8 "rules" "I" ∈ TW := inC_2 _ (List.mem_of_getElem? (i := 97) rfl) rfl
theorem wd_2_99 : Cond.lays RX8 RX8 "most" "I" ∈ TW := inC_2 _ (List.mem_of_getElem? (i := 99) rfl) rfl
theorem wd_2_101 : Cond.lays RX8 RX8 "arrangements" "I" ∈ TW := inC_2 _ (List.mem_of_getElem? (i := 101) rfl) rfl
theorem wd_2_103 : Cond.laysFinal RX8 RX8 "codes" "[I" ∈ TW := inC_2 _ (List.mem_of_getElem? (i := 103) rfl) rfl
theorem wd_2_105 : Cond.laysFinal RX8 RX8 "nights" "[I" ∈ TW := inC_2 _ (List.mem_of_getElem? (i := 105) rfl) rfl
theorem wd_2_107 : Cond.laysFinal RX8 RX8 "byDay" "[I" ∈ TW := inC_2 _ (List.mem_of_getElem? (i := 107) rfl) rfl
theorem wd_2_109 : Cond.laysFinal RX8 RX8 "broken" "[[I" ∈ TW := inC_2 _ (List.mem_of_getElem? (i := 109) rfl) rfl
theorem wd_2_111 : Cond.laysFinal RX8 RX8 "leastAhead" "[I" ∈ TW := inC_2 _ (List.mem_of_getElem? (i := 111) rfl) rfl
theorem wd_2_113 : Cond.laysFinal RX8 RX8 "chosen" "[I" ∈ TW := inC_2 _ (List.mem_of_getElem? (i := 113) rfl) rfl
theorem wd_2_115 : Cond.laysFinal RX8 RX8 "best" "[I" ∈ TW := inC_2 _ (List.mem_of_getElem? (i := 115) rfl) rfl
theorem wd_2_117 : Cond.lays RX8 RX8 "fewest" "I" ∈ TW := inC_2 _ (List.mem_of_getElem? (i := 117) rfl) rfl
theorem wd_2_119 : Cond.laysFinal RX8 RX8 "seen" "[J" ∈ TW := inC_2 _ (List.mem_of_getElem? (i := 119) rfl) rfl
theorem wd_2_121 : Cond.laysFinal RX8 RX8 "seenBroken" "[I" ∈ TW := inC_2 _ (List.mem_of_getElem? (i := 121) rfl) rfl
theorem wd_2_123 : Cond.lays RX8 RX8 "found" "Z" ∈ TW := inC_2 _ (List.mem_of_getElem? (i := 123) rfl) rfl
theorem wd_2_125 : Cond.lays RX8 RX8 "foundShop" "I" ∈ TW := inC_2 _ (List.mem_of_getElem? (i := 125) rfl) rfl
theorem wd_2_128 : Cond.arrayClass .long ∈ TW := inC_2 _ (List.mem_of_getElem? (i := 128) rfl) rfl
theorem wd_2_129 : Cond.classLink RX11 68 RX10 ∈ TW := inC_2 _ (List.mem_of_getElem? (i := 129) rfl) rfl
theorem wd_2_130 : Cond.instantiable RX10 3 ∈ TW := inC_2 _ (List.mem_of_getElem? (i := 130) rfl) rfl
theorem wd_2_131 : Cond.methodLinkNest RX11 70 yX10_init RX11 ∈ lw_tbl := inL_2 _ (List.mem_of_getElem? (i := 131) rfl)
theorem wd_2_132 : Cond.instanceMethod yX10_init ∈ TW := inC_2 _ (List.mem_of_getElem? (i := 132) rfl) rfl
theorem wd_2_133 : Cond.code yX10_init cX10_init 1 none ∈ TW := inC_2 _ (List.mem_of_getElem? (i := 133) rfl) rfl
theorem wd_2_134 : Cond.methodLink RX10 3 Lib.objectInit ∈ TW := inC_2 _ (List.mem_of_getElem? (i := 134) rfl) rfl
theorem wd_2_135 : Cond.classLink RX10 15 "[[I" ∈ TW := inC_2 _ (List.mem_of_getElem? (i := 135) rfl) rfl
theorem wd_2_136 : Cond.fieldLink RX10 9 (fl 10 0).1 (fl 10 0).2.1 (fl 10 0).2.2.1 ∈ TW := inC_2 _ (List.mem_of_getElem? (i := 136) rfl) rfl
theorem wd_2_137 : Cond.fieldLink RX11 399 (fl 10 0).1 (fl 10 0).2.1 (fl 10 0).2.2.1 ∈ TW := inC_2 _ (List.mem_of_getElem? (i := 137) rfl) rfl
theorem wd_2_138 : Cond.fieldLink RX10 17 (fl 10 1).1 (fl 10 1).2.1 (fl 10 1).2.2.1 ∈ TW := inC_2 _ (List.mem_of_getElem? (i := 138) rfl) rfl
theorem wd_2_139 : Cond.fieldLink RX10 20 (fl 10 2).1 (fl 10 2).2.1 (fl 10 2).2.2.1 ∈ TW := inC_2 _ (List.mem_of_getElem? (i := 139) rfl) rfl
theorem wd_2_140 : Cond.laysFinal RX10 RX10 "count" "[I" ∈ TW := inC_2 _ (List.mem_of_getElem? (i := 140) rfl) rfl
theorem wd_2_142 : Cond.laysFinal RX10 RX10 "taken" "[[I" ∈ TW := inC_2 _ (List.mem_of_getElem? (i := 142) rfl) rfl
theorem wd_2_144 : Cond.laysFinal RX10 RX10 "day" "[[I" ∈ TW := inC_2 _ (List.mem_of_getElem? (i := 144) rfl) rfl
theorem wd_2_147 : Cond.classLink RX11 75 RX6 ∈ TW := inC_2 _ (List.mem_of_getElem? (i := 147) rfl) rfl
theorem wd_2_148 : Cond.instantiable RX6 9 ∈ TW := inC_2 _ (List.mem_of_getElem? (i := 148) rfl) rfl
theorem wd_2_149 : Cond.methodLinkNest RX11 77 yX6_init RX11 ∈ lw_tbl := inL_2 _ (List.mem_of_getElem? (i := 149) rfl)
theorem wd_2_150 : Cond.instanceMethod yX6_init ∈ TW := inC_2 _ (List.mem_of_getElem? (i := 150) rfl) rfl
theorem wd_2_151 : Cond.code yX6_init cX6_init 1 none ∈ TW := inC_2 _ (List.mem_of_getElem? (i := 151) rfl) rfl
theorem wd_2_152 : Cond.methodLink RX6 3 Lib.objectInit ∈ TW := inC_2 _ (List.mem_of_getElem? (i := 152) rfl) rfl
theorem wd_2_153 : Cond.fieldLink RX6 9 (fl 6 0).1 (fl 6 0).2.1 (fl 6 0).2.2.1 ∈ TW := inC_2 _ (List.mem_of_getElem? (i := 153) rfl) rfl
theorem wd_2_154 : Cond.fieldLink RX11 434 (fl 6 0).1 (fl 6 0).2.1 (fl 6 0).2.2.1 ∈ TW := inC_2 _ (List.mem_of_getElem? (i := 154) rfl) rfl
theorem wd_2_155 : Cond.fieldLink RX6 15 (fl 6 1).1 (fl 6 1).2.1 (fl 6 1).2.2.1 ∈ TW := inC_2 _ (List.mem_of_getElem? (i := 155) rfl) rfl
theorem wd_2_156 : Cond.fieldLink RX6 19 (fl 6 2).1 (fl 6 2).2.1 (fl 6 2).2.2.1 ∈ TW := inC_2 _ (List.mem_of_getElem? (i := 156) rfl) rfl
theorem wd_2_157 : Cond.fieldLink RX6 22 (fl 6 3).1 (fl 6 3).2.1 (fl 6 3).2.2.1 ∈ TW := inC_2 _ (List.mem_of_getElem? (i := 157) rfl) rfl
theorem wd_2_158 : Cond.fieldLink RX6 25 (fl 6 4).1 (fl 6 4).2.1 (fl 6 4).2.2.1 ∈ TW := inC_2 _ (List.mem_of_getElem? (i := 158) rfl) rfl
theorem wd_2_159 : Cond.fieldLink RX6 28 (fl 6 5).1 (fl 6 5).2.1 (fl 6 5).2.2.1 ∈ TW := inC_2 _ (List.mem_of_getElem? (i := 159) rfl) rfl
theorem wd_2_160 : Cond.fieldLink RX6 31 (fl 6 6).1 (fl 6 6).2.1 (fl 6 6).2.2.1 ∈ TW := inC_2 _ (List.mem_of_getElem? (i := 160) rfl) rfl
theorem wd_2_161 : Cond.fieldLink RX11 439 (fl 6 6).1 (fl 6 6).2.1 (fl 6 6).2.2.1 ∈ TW := inC_2 _ (List.mem_of_getElem? (i := 161) rfl) rfl
theorem wd_2_162 : Cond.fieldLink RX6 34 (fl 6 7).1 (fl 6 7).2.1 (fl 6 7).2.2.1 ∈ TW := inC_2 _ (List.mem_of_getElem? (i := 162) rfl) rfl
theorem wd_2_163 : Cond.fieldLink RX6 37 (fl 6 8).1 (fl 6 8).2.1 (fl 6 8).2.2.1 ∈ TW := inC_2 _ (List.mem_of_getElem? (i := 163) rfl) rfl
theorem wd_2_164 : Cond.lays RX6 RX6 "size" "I" ∈ TW := inC_2 _ (List.mem_of_getElem? (i := 164) rfl) rfl
theorem wd_2_166 : Cond.laysFinal RX6 RX6 "length" "[I" ∈ TW := inC_2 _ (List.mem_of_getElem? (i := 166) rfl) rfl
theorem wd_2_168 : Cond.laysFinal RX6 RX6 "due" "[I" ∈ TW := inC_2 _ (List.mem_of_getElem? (i := 168) rfl) rfl
theorem wd_2_170 : Cond.laysFinal RX6 RX6 "waits" "[I" ∈ TW := inC_2 _ (List.mem_of_getElem? (i := 170) rfl) rfl
theorem wd_2_172 : Cond.laysFinal RX6 RX6 "place" "[I" ∈ TW := inC_2 _ (List.mem_of_getElem? (i := 172) rfl) rfl
theorem wd_2_174 : Cond.laysFinal RX6 RX6 "full" "[I" ∈ TW := inC_2 _ (List.mem_of_getElem? (i := 174) rfl) rfl
theorem wd_2_176 : Cond.laysFinal RX6 RX6 "best" "[I" ∈ TW := inC_2 _ (List.mem_of_getElem? (i := 176) rfl) rfl
theorem wd_2_178 : Cond.lays RX6 RX6 "bestLate" "I" ∈ TW := inC_2 _ (List.mem_of_getElem? (i := 178) rfl) rfl
theorem wd_2_180 : Cond.lays RX6 RX6 "roomy" "I" ∈ TW := inC_2 _ (List.mem_of_getElem? (i := 180) rfl) rfl
theorem wd_2_183 : Cond.classLink RX11 82 "[[I" ∈ TW := inC_2 _ (List.mem_of_getElem? (i := 183) rfl) rfl
theorem wd_2_184 : Cond.instantiable RX5 15 ∈ TW := inC_2 _ (List.mem_of_getElem? (i := 184) rfl) rfl
theorem wd_2_185 : Cond.methodLink RX11 100 yX5_init ∈ TW := inC_2 _ (List.mem_of_getElem? (i := 185) rfl) rfl
theorem wd_2_186 : Cond.instanceMethod yX5_init ∈ TW := inC_2 _ (List.mem_of_getElem? (i := 186) rfl) rfl
theorem wd_2_187 : Cond.code yX5_init cX5_init 3 none ∈ TW := inC_2 _ (List.mem_of_getElem? (i := 187) rfl) rfl
theorem wd_2_188 : Cond.methodLink RX5 3 Lib.objectInit ∈ TW := inC_2 _ (List.mem_of_getElem? (i := 188) rfl) rfl
theorem wd_2_189 : Cond.fieldLink RX5 53 (fl 5 0).1 (fl 5 0).2.1 (fl 5 0).2.2.1 ∈ TW := inC_2 _ (List.mem_of_getElem? (i := 189) rfl) rfl
theorem wd_2_190 : Cond.fieldLink RX5 57 (fl 5 1).1 (fl 5 1).2.1 (fl 5 1).2.2.1 ∈ TW := inC_2 _ (List.mem_of_getElem? (i := 190) rfl) rfl
theorem wd_2_191 : Cond.fieldLink RX5 9 (fl 5 2).1 (fl 5 2).2.1 (fl 5 2).2.2.1 ∈ TW := inC_2 _ (List.mem_of_getElem? (i := 191) rfl) rfl
theorem wd_2_192 : Cond.fieldLink RX11 351 (fl 5 2).1 (fl 5 2).2.1 (fl 5 2).2.2.1 ∈ TW := inC_2 _ (List.mem_of_getElem? (i := 192) rfl) rfl
theorem wd_2_193 : Cond.fieldLink RX5 15 (fl 5 3).1 (fl 5 3).2.1 (fl 5 3).2.2.1 ∈ TW := inC_2 _ (List.mem_of_getElem? (i := 193) rfl) rfl
theorem wd_2_194 : Cond.fieldLink RX11 470 (fl 5 3).1 (fl 5 3).2.1 (fl 5 3).2.2.1 ∈ TW := inC_2 _ (List.mem_of_getElem? (i := 194) rfl) rfl
theorem wd_2_195 : Cond.fieldLink RX5 18 (fl 5 4).1 (fl 5 4).2.1 (fl 5 4).2.2.1 ∈ TW := inC_2 _ (List.mem_of_getElem? (i := 195) rfl) rfl
theorem wd_2_196 : Cond.fieldLink RX11 484 (fl 5 4).1 (fl 5 4).2.1 (fl 5 4).2.2.1 ∈ TW := inC_2 _ (List.mem_of_getElem? (i := 196) rfl) rfl
theorem wd_2_197 : Cond.fieldLink RX5 21 (fl 5 5).1 (fl 5 5).2.1 (fl 5 5).2.2.1 ∈ TW := inC_2 _ (List.mem_of_getElem? (i := 197) rfl) rfl
theorem wd_2_198 : Cond.fieldLink RX11 236 (fl 5 5).1 (fl 5 5).2.1 (fl 5 5).2.2.1 ∈ TW := inC_2 _ (List.mem_of_getElem? (i := 198) rfl) rfl
theorem wd_2_199 : Cond.fieldLink RX5 24 (fl 5 6).1 (fl 5 6).2.1 (fl 5 6).2.2.1 ∈ TW := inC_2 _ (List.mem_of_getElem? (i := 199) rfl) rfl
theorem wd_2_200 : Cond.fieldLink RX11 220 (fl 5 6).1 (fl 5 6).2.1 (fl 5 6).2.2.1 ∈ TW := inC_2 _ (List.mem_of_getElem? (i := 200) rfl) rfl
theorem wd_2_201 : Cond.fieldLink RX5 27 (fl 5 7).1 (fl 5 7).2.1 (fl 5 7).2.2.1 ∈ TW := inC_2 _ (List.mem_of_getElem? (i := 201) rfl) rfl
theorem wd_2_202 : Cond.fieldLink RX11 224 (fl 5 7).1 (fl 5 7).2.1 (fl 5 7).2.2.1 ∈ TW := inC_2 _ (List.mem_of_getElem? (i := 202) rfl) rfl
theorem wd_2_203 : Cond.fieldLink RX5 30 (fl 5 8).1 (fl 5 8).2.1 (fl 5 8).2.2.1 ∈ TW := inC_2 _ (List.mem_of_getElem? (i := 203) rfl) rfl
theorem wd_2_204 : Cond.fieldLink RX5 33 (fl 5 9).1 (fl 5 9).2.1 (fl 5 9).2.2.1 ∈ TW := inC_2 _ (List.mem_of_getElem? (i := 204) rfl) rfl
theorem wd_2_205 : Cond.fieldLink RX5 36 (fl 5 10).1 (fl 5 10).2.1 (fl 5 10).2.2.1 ∈ TW := inC_2 _ (List.mem_of_getElem? (i := 205) rfl) rfl
theorem wd_2_206 : Cond.fieldLink RX5 40 (fl 5 11).1 (fl 5 11).2.1 (fl 5 11).2.2.1 ∈ TW := inC_2 _ (List.mem_of_getElem? (i := 206) rfl) rfl
theorem wd_2_207 : Cond.fieldLink RX11 233 (fl 5 11).1 (fl 5 11).2.1 (fl 5 11).2.2.1 ∈ TW := inC_2 _ (List.mem_of_getElem? (i := 207) rfl) rfl
theorem wd_2_208 : Cond.fieldLink RX5 43 (fl 5 12).1 (fl 5 12).2.1 (fl 5 12).2.2.1 ∈ TW := inC_2 _ (List.mem_of_getElem? (i := 208) rfl) rfl
theorem wd_2_209 : Cond.fieldLink RX5 47 (fl 5 13).1 (fl 5 13).2.1 (fl 5 13).2.2.1 ∈ TW := inC_2 _ (List.mem_of_getElem? (i := 209) rfl) rfl
theorem wd_2_210 : Cond.fieldLink RX5 50 (fl 5 14).1 (fl 5 14).2.1 (fl 5 14).2.2.1 ∈ TW := inC_2 _ (List.mem_of_getElem? (i := 210) rfl) rfl
theorem wd_2_211 : Cond.laysFinal RX5 RX5 "calendar" "LWorksCouncil$Days;" ∈ TW := inC_2 _ (List.mem_of_getElem? (i := 211) rfl) rfl
theorem wd_2_213 : Cond.laysFinal RX5 RX5 "council" "LWorksCouncil$Council;" ∈ TW := inC_2 _ (List.mem_of_getElem? (i := 213) rfl) rfl
theorem wd_2_215 : Cond.lays RX5 RX5 "theWhat" "I" ∈ TW := inC_2 _ (List.mem_of_getElem? (i := 215) rfl) rfl
theorem wd_2_217 : Cond.lays RX5 RX5 "shops" "I" ∈ TW := inC_2 _ (List.mem_of_getElem? (i := 217) rfl) rfl
theorem wd_2_219 : Cond.lays RX5 RX5 "sum" "I" ∈ TW := inC_2 _ (List.mem_of_getElem? (i := 219) rfl) rfl
theorem wd_2_221 : Cond.lays RX5 RX5 "giver" "I" ∈ TW := inC_2 _ (List.mem_of_getElem? (i := 221) rfl) rfl
theorem wd_2_223 : Cond.lays RX5 RX5 "opened" "I" ∈ TW := inC_2 _ (List.mem_of_getElem? (i := 223) rfl) rfl
theorem wd_2_225 : Cond.lays RX5 RX5 "kind" "I" ∈ TW := inC_2 _ (List.mem_of_getElem? (i := 225) rfl) rfl
theorem wd_2_227 : Cond.lays RX5 RX5 "needs" "I" ∈ TW := inC_2 _ (List.mem_of_getElem? (i := 227) rfl) rfl
theorem wd_2_229 : Cond.lays RX5 RX5 "span" "I" ∈ TW := inC_2 _ (List.mem_of_getElem? (i := 229) rfl) rfl
theorem wd_2_231 : Cond.lays RX5 RX5 "passes" "Z" ∈ TW := inC_2 _ (List.mem_of_getElem? (i := 231) rfl) rfl
theorem wd_2_233 : Cond.lays RX5 RX5 "tellings" "I" ∈ TW := inC_2 _ (List.mem_of_getElem? (i := 233) rfl) rfl
theorem wd_2_235 : Cond.laysFinal RX5 RX5 "told" "[I" ∈ TW := inC_2 _ (List.mem_of_getElem? (i := 235) rfl) rfl
theorem wd_2_237 : Cond.laysFinal RX5 RX5 "about" "[I" ∈ TW := inC_2 _ (List.mem_of_getElem? (i := 237) rfl) rfl
theorem wd_2_239 : Cond.laysFinal RX5 RX5 "day" "[I" ∈ TW := inC_2 _ (List.mem_of_getElem? (i := 239) rfl) rfl
theorem wd_3_2 : Cond.fieldLink RX11 10 (fl 11 0).1 (fl 11 0).2.1 (fl 11 0).2.2.1 ∈ TW := inC_3 _ (List.mem_of_getElem? (i := 2) rfl) rfl
theorem wd_3_3 : Cond.fieldLink RX11 19 (fl 11 1).1 (fl 11 1).2.1 (fl 11 1).2.2.1 ∈ TW := inC_3 _ (List.mem_of_getElem? (i := 3) rfl) rfl
theorem wd_3_4 : Cond.fieldLink RX11 26 (fl 11 2).1 (fl 11 2).2.1 (fl 11 2).2.2.1 ∈ TW := inC_3 _ (List.mem_of_getElem? (i := 4) rfl) rfl
theorem wd_3_5 : Cond.fieldLink RX11 33 (fl 11 3).1 (fl 11 3).2.1 (fl 11 3).2.2.1 ∈ TW := inC_3 _ (List.mem_of_getElem? (i := 5) rfl) rfl
theorem wd_3_6 : Cond.fieldLink RX11 39 (fl 11 4).1 (fl 11 4).2.1 (fl 11 4).2.2.1 ∈ TW := inC_3 _ (List.mem_of_getElem? (i := 6) rfl) rfl
theorem wd_3_7 : Cond.fieldLink RX11 43 (fl 11 5).1 (fl 11 5).2.1 (fl 11 5).2.2.1 ∈ TW := inC_3 _ (List.mem_of_getElem? (i := 7) rfl) rfl
theorem wd_3_8 : Cond.fieldLink RX11 50 (fl 11 6).1 (fl 11 6).2.1 (fl 11 6).2.2.1 ∈ TW := inC_3 _ (List.mem_of_getElem? (i := 8) rfl) rfl
theorem wd_3_9 : Cond.fieldLink RX11 57 (fl 11 7).1 (fl 11 7).2.1 (fl 11 7).2.2.1 ∈ TW := inC_3 _ (List.mem_of_getElem? (i := 9) rfl) rfl
theorem wd_3_10 : Cond.fieldLink RX11 64 (fl 11 8).1 (fl 11 8).2.1 (fl 11 8).2.2.1 ∈ TW := inC_3 _ (List.mem_of_getElem? (i := 10) rfl) rfl
theorem wd_3_11 : Cond.fieldLink RX11 71 (fl 11 9).1 (fl 11 9).2.1 (fl 11 9).2.2.1 ∈ TW := inC_3 _ (List.mem_of_getElem? (i := 11) rfl) rfl
theorem wd_3_12 : Cond.fieldLink RX11 78 (fl 11 10).1 (fl 11 10).2.1 (fl 11 10).2.2.1 ∈ TW := inC_3 _ (List.mem_of_getElem? (i := 12) rfl) rfl
theorem wd_3_13 : Cond.fieldLink RX11 84 (fl 11 11).1 (fl 11 11).2.1 (fl 11 11).2.2.1 ∈ TW := inC_3 _ (List.mem_of_getElem? (i := 13) rfl) rfl
theorem wd_3_14 : Cond.fieldLink RX11 87 (fl 11 12).1 (fl 11 12).2.1 (fl 11 12).2.2.1 ∈ TW := inC_3 _ (List.mem_of_getElem? (i := 14) rfl) rfl
theorem wd_3_15 : Cond.fieldLink RX11 91 (fl 11 13).1 (fl 11 13).2.1 (fl 11 13).2.2.1 ∈ TW := inC_3 _ (List.mem_of_getElem? (i := 15) rfl) rfl
theorem wd_3_16 : Cond.fieldLink RX11 94 (fl 11 14).1 (fl 11 14).2.1 (fl 11 14).2.2.1 ∈ TW := inC_3 _ (List.mem_of_getElem? (i := 16) rfl) rfl
theorem wd_3_17 : Cond.fieldLink RX11 97 (fl 11 15).1 (fl 11 15).2.1 (fl 11 15).2.2.1 ∈ TW := inC_3 _ (List.mem_of_getElem? (i := 17) rfl) rfl
theorem wd_3_18 : Cond.laysFinal RX11 RX11 "calendar" "LWorksCouncil$Days;" ∈ TW := inC_3 _ (List.mem_of_getElem? (i := 18) rfl) rfl
theorem wd_3_20 : Cond.laysFinal RX11 RX11 "staff" "LWorksCouncil$Staff;" ∈ TW := inC_3 _ (List.mem_of_getElem? (i := 20) rfl) rfl
theorem wd_3_22 : Cond.laysFinal RX11 RX11 "acts" "LWorksCouncil$Acts;" ∈ TW := inC_3 _ (List.mem_of_getElem? (i := 22) rfl) rfl
theorem wd_3_24 : Cond.laysFinal RX11 RX11 "council" "LWorksCouncil$Council;" ∈ TW := inC_3 _ (List.mem_of_getElem? (i := 24) rfl) rfl
theorem wd_3_26 : Cond.laysFinal RX11 RX11 "matters" "[LWorksCouncil$Matter;" ∈ TW := inC_3 _ (List.mem_of_getElem? (i := 26) rfl) rfl
theorem wd_3_28 : Cond.lays RX11 RX11 "opened" "I" ∈ TW := inC_3 _ (List.mem_of_getElem? (i := 28) rfl) rfl
theorem wd_3_30 : Cond.laysFinal RX11 RX11 "agreements" "LWorksCouncil$Agreements;" ∈ TW := inC_3 _ (List.mem_of_getElem? (i := 30) rfl) rfl
theorem wd_3_32 : Cond.laysFinal RX11 RX11 "deeds" "LWorksCouncil$Deeds;" ∈ TW := inC_3 _ (List.mem_of_getElem? (i := 32) rfl) rfl
theorem wd_3_34 : Cond.laysFinal RX11 RX11 "roster" "LWorksCouncil$Roster;" ∈ TW := inC_3 _ (List.mem_of_getElem? (i := 34) rfl) rfl
theorem wd_3_36 : Cond.laysFinal RX11 RX11 "studies" "LWorksCouncil$Studies;" ∈ TW := inC_3 _ (List.mem_of_getElem? (i := 36) rfl) rfl
theorem wd_3_38 : Cond.laysFinal RX11 RX11 "places" "LWorksCouncil$Plan;" ∈ TW := inC_3 _ (List.mem_of_getElem? (i := 38) rfl) rfl
theorem wd_3_40 : Cond.laysFinal RX11 RX11 "terms" "[[I" ∈ TW := inC_3 _ (List.mem_of_getElem? (i := 40) rfl) rfl
theorem wd_3_42 : Cond.laysFinal RX11 RX11 "settings" "[I" ∈ TW := inC_3 _ (List.mem_of_getElem? (i := 42) rfl) rfl
theorem wd_3_44 : Cond.laysFinal RX11 RX11 "row" "[I" ∈ TW := inC_3 _ (List.mem_of_getElem? (i := 44) rfl) rfl
theorem wd_3_46 : Cond.lays RX11 RX11 "rowLength" "I" ∈ TW := inC_3 _ (List.mem_of_getElem? (i := 46) rfl) rfl
theorem wd_3_48 : Cond.laysFinal RX11 RX11 "refusals" "[I" ∈ TW := inC_3 _ (List.mem_of_getElem? (i := 48) rfl) rfl
theorem wd_3_51 : Cond.methodLink RL 13 yX11_days ∈ TW := inC_3 _ (List.mem_of_getElem? (i := 51) rfl) rfl
theorem wd_3_52 : Cond.instanceMethod yX11_days ∈ TW := inC_3 _ (List.mem_of_getElem? (i := 52) rfl) rfl
theorem wd_3_53 : Cond.selects RX11 yX11_days yX11_days ∈ TW := inC_3 _ (List.mem_of_getElem? (i := 53) rfl) rfl
theorem wd_3_54 : Cond.code yX11_days cX11_days 2 (some .int) ∈ TW := inC_3 _ (List.mem_of_getElem? (i := 54) rfl) rfl
theorem wd_3_55 : Cond.methodLink RX11 103 yX11_refuse ∈ TW := inC_3 _ (List.mem_of_getElem? (i := 55) rfl) rfl
theorem wd_3_56 : Cond.privateMethod yX11_refuse ∈ lw_tbl := inL_3 _ (List.mem_of_getElem? (i := 56) rfl)
theorem wd_3_57 : Cond.instanceMethod yX11_refuse ∈ TW := inC_3 _ (List.mem_of_getElem? (i := 57) rfl) rfl
theorem wd_3_58 : Cond.code yX11_refuse cX11_refuse 2 (some .int) ∈ TW := inC_3 _ (List.mem_of_getElem? (i := 58) rfl) rfl
theorem wd_3_59 : Cond.methodLink RL 18 yX11_feast ∈ TW := inC_3 _ (List.mem_of_getElem? (i := 59) rfl) rfl
theorem wd_3_60 : Cond.instanceMethod yX11_feast ∈ TW := inC_3 _ (List.mem_of_getElem? (i := 60) rfl) rfl
theorem wd_3_61 : Cond.selects RX11 yX11_feast yX11_feast ∈ TW := inC_3 _ (List.mem_of_getElem? (i := 61) rfl) rfl
theorem wd_3_62 : Cond.code yX11_feast cX11_feast 3 (some .int) ∈ TW := inC_3 _ (List.mem_of_getElem? (i := 62) rfl) rfl
theorem wd_3_63 : Cond.methodLink RX11 110 yX11_outside ∈ TW := inC_3 _ (List.mem_of_getElem? (i := 63) rfl) rfl
theorem wd_3_64 : Cond.static yX11_outside ∈ TW := inC_3 _ (List.mem_of_getElem? (i := 64) rfl) rfl
theorem wd_3_65 : Cond.code yX11_outside cX11_outside 3 (some .int) ∈ TW := inC_3 _ (List.mem_of_getElem? (i := 65) rfl) rfl
theorem wd_3_66 : Cond.methodLink RX11 114 yX3_tellFeast ∈ TW := inC_3 _ (List.mem_of_getElem? (i := 66) rfl) rfl
theorem wd_3_67 : Cond.instanceMethod yX3_tellFeast ∈ TW := inC_3 _ (List.mem_of_getElem? (i := 67) rfl) rfl
theorem wd_3_68 : Cond.selects RX3 yX3_tellFeast yX3_tellFeast ∈ TW := inC_3 _ (List.mem_of_getElem? (i := 68) rfl) rfl
theorem wd_3_69 : Cond.code yX3_tellFeast cX3_tellFeast 3 (some .boolean) ∈ TW := inC_3 _ (List.mem_of_getElem? (i := 69) rfl) rfl
theorem wd_3_70 : Cond.methodLink RL 22 yX11_workdays ∈ TW := inC_3 _ (List.mem_of_getElem? (i := 70) rfl) rfl
theorem wd_3_71 : Cond.instanceMethod yX11_workdays ∈ TW := inC_3 _ (List.mem_of_getElem? (i := 71) rfl) rfl
theorem wd_3_72 : Cond.selects RX11 yX11_workdays yX11_workdays ∈ TW := inC_3 _ (List.mem_of_getElem? (i := 72) rfl) rfl
theorem wd_3_73 : Cond.code yX11_workdays cX11_workdays 4 (some .int) ∈ TW := inC_3 _ (List.mem_of_getElem? (i := 73) rfl) rfl
theorem wd_3_74 : Cond.methodLink RX11 118 yX11_worse ∈ TW := inC_3 _ (List.mem_of_getElem? (i := 74) rfl) rfl
theorem wd_3_75 : Cond.static yX11_worse ∈ TW := inC_3 _ (List.mem_of_getElem? (i := 75) rfl) rfl
theorem wd_3_76 : Cond.code yX11_worse cX11_worse 2 (some .int) ∈ TW := inC_3 _ (List.mem_of_getElem? (i := 76) rfl) rfl
theorem wd_3_77 : Cond.methodLink RX11 452 yJ9_min_7cf53 ∈ TW := inC_3 _ (List.mem_of_getElem? (i := 77) rfl) rfl
theorem wd_3_78 : Cond.static yJ9_min_7cf53 ∈ TW := inC_3 _ (List.mem_of_getElem? (i := 78) rfl) rfl
theorem wd_3_79 : Cond.code yJ9_min_7cf53 cJ9_min_7cf53 2 (some .int) ∈ TW := inC_3 _ (List.mem_of_getElem? (i := 79) rfl) rfl
theorem wd_3_80 : Cond.methodLink RX11 122 yX3_workdaysBehind ∈ TW := inC_3 _ (List.mem_of_getElem? (i := 80) rfl) rfl
theorem wd_3_81 : Cond.instanceMethod yX3_workdaysBehind ∈ TW := inC_3 _ (List.mem_of_getElem? (i := 81) rfl) rfl
theorem wd_3_82 : Cond.selects RX3 yX3_workdaysBehind yX3_workdaysBehind ∈ TW := inC_3 _ (List.mem_of_getElem? (i := 82) rfl) rfl
theorem wd_3_83 : Cond.code yX3_workdaysBehind cX3_workdaysBehind 3 (some .int) ∈ TW := inC_3 _ (List.mem_of_getElem? (i := 83) rfl) rfl
theorem wd_3_84 : Cond.methodLink RL 27 yX11_person ∈ TW := inC_3 _ (List.mem_of_getElem? (i := 84) rfl) rfl
theorem wd_3_85 : Cond.instanceMethod yX11_person ∈ TW := inC_3 _ (List.mem_of_getElem? (i := 85) rfl) rfl
theorem wd_3_86 : Cond.selects RX11 yX11_person yX11_person ∈ TW := inC_3 _ (List.mem_of_getElem? (i := 86) rfl) rfl
theorem wd_3_87 : Cond.code yX11_person cX11_person 7 (some .int) ∈ TW := inC_3 _ (List.mem_of_getElem? (i := 87) rfl) rfl
theorem wd_3_88 : Cond.methodLink RX11 125 yX11_isShop ∈ TW := inC_3 _ (List.mem_of_getElem? (i := 88) rfl) rfl
theorem wd_3_89 : Cond.static yX11_isShop ∈ TW := inC_3 _ (List.mem_of_getElem? (i := 89) rfl) rfl
theorem wd_3_90 : Cond.code yX11_isShop cX11_isShop 1 (some .boolean) ∈ TW := inC_3 _ (List.mem_of_getElem? (i := 90) rfl) rfl
theorem wd_3_91 : Cond.methodLink RX11 131 yX11_fullAt ∈ TW := inC_3 _ (List.mem_of_getElem? (i := 91) rfl) rfl
theorem wd_3_92 : Cond.static yX11_fullAt ∈ TW := inC_3 _ (List.mem_of_getElem? (i := 92) rfl) rfl
theorem wd_3_93 : Cond.code yX11_fullAt cX11_fullAt 2 (some .int) ∈ TW := inC_3 _ (List.mem_of_getElem? (i := 93) rfl) rfl
theorem wd_3_94 : Cond.methodLink RX11 134 yX8_forget ∈ TW := inC_3 _ (List.mem_of_getElem? (i := 94) rfl) rfl
theorem wd_3_95 : Cond.instanceMethod yX8_forget ∈ TW := inC_3 _ (List.mem_of_getElem? (i := 95) rfl) rfl
theorem wd_3_96 : Cond.selects RX8 yX8_forget yX8_forget ∈ TW := inC_3 _ (List.mem_of_getElem? (i := 96) rfl) rfl
theorem wd_3_97 : Cond.code yX8_forget cX8_forget 1 none ∈ TW := inC_3 _ (List.mem_of_getElem? (i := 97) rfl) rfl
theorem wd_3_98 : Cond.methodLink RX11 137 yX9_add ∈ TW := inC_3 _ (List.mem_of_getElem? (i := 98) rfl) rfl
theorem wd_3_99 : Cond.instanceMethod yX9_add ∈ TW := inC_3 _ (List.mem_of_getElem? (i := 99) rfl) rfl
theorem wd_3_100 : Cond.selects RX9 yX9_add yX9_add ∈ TW := inC_3 _ (List.mem_of_getElem? (i := 100) rfl) rfl
theorem wd_3_101 : Cond.code yX9_add cX9_add 6 (some .int) ∈ TW := inC_3 _ (List.mem_of_getElem? (i := 101) rfl) rfl
theorem wd_3_102 : Cond.methodLink RL 32 yX11_leave ∈ TW := inC_3 _ (List.mem_of_getElem? (i := 102) rfl) rfl
theorem wd_3_103 : Cond.instanceMethod yX11_leave ∈ TW := inC_3 _ (List.mem_of_getElem? (i := 103) rfl) rfl
theorem wd_3_104 : Cond.selects RX11 yX11_leave yX11_leave ∈ TW := inC_3 _ (List.mem_of_getElem? (i := 104) rfl) rfl
theorem wd_3_105 : Cond.code yX11_leave cX11_leave 2 (some .int) ∈ TW := inC_3 _ (List.mem_of_getElem? (i := 105) rfl) rfl
theorem wd_3_106 : Cond.methodLink RX11 141 yX9_has ∈ TW := inC_3 _ (List.mem_of_getElem? (i := 106) rfl) rfl
theorem wd_3_107 : Cond.instanceMethod yX9_has ∈ TW := inC_3 _ (List.mem_of_getElem? (i := 107) rfl) rfl
theorem wd_3_108 : Cond.selects RX9 yX9_has yX9_has ∈ TW := inC_3 _ (List.mem_of_getElem? (i := 108) rfl) rfl
theorem wd_3_109 : Cond.code yX9_has cX9_has 2 (some .boolean) ∈ TW := inC_3 _ (List.mem_of_getElem? (i := 109) rfl) rfl
theorem wd_3_110 : Cond.methodLink RL 38 yX11_feed ∈ TW := inC_3 _ (List.mem_of_getElem? (i := 110) rfl) rfl
theorem wd_3_111 : Cond.instanceMethod yX11_feed ∈ TW := inC_3 _ (List.mem_of_getElem? (i := 111) rfl) rfl
theorem wd_3_112 : Cond.selects RX11 yX11_feed yX11_feed ∈ TW := inC_3 _ (List.mem_of_getElem? (i := 112) rfl) rfl
theorem wd_3_113 : Cond.code yX11_feed cX11_feed 4 (some .int) ∈ TW := inC_3 _ (List.mem_of_getElem? (i := 113) rfl) rfl
theorem wd_3_114 : Cond.methodLink RX11 148 yX0_fed ∈ TW := inC_3 _ (List.mem_of_getElem? (i := 114) rfl) rfl
theorem wd_3_115 : Cond.instanceMethod yX0_fed ∈ TW := inC_3 _ (List.mem_of_getElem? (i := 115) rfl) rfl
theorem wd_3_116 : Cond.selects RX0 yX0_fed yX0_fed ∈ TW := inC_3 _ (List.mem_of_getElem? (i := 116) rfl) rfl
theorem wd_3_117 : Cond.code yX0_fed cX0_fed 1 (some .int) ∈ TW := inC_3 _ (List.mem_of_getElem? (i := 117) rfl) rfl
theorem wd_3_118 : Cond.methodLink RX11 152 yX0_feedText ∈ TW := inC_3 _ (List.mem_of_getElem? (i := 118) rfl) rfl
theorem wd_3_119 : Cond.instanceMethod yX0_feedText ∈ TW := inC_3 _ (List.mem_of_getElem? (i := 119) rfl) rfl
theorem wd_3_120 : Cond.selects RX0 yX0_feedText yX0_feedText ∈ TW := inC_3 _ (List.mem_of_getElem? (i := 120) rfl) rfl
theorem wd_3_121 : Cond.code yX0_feedText cX0_feedText 5 (some .int) ∈ TW := inC_3 _ (List.mem_of_getElem? (i := 121) rfl) rfl
theorem wd_3_122 : Cond.methodLink RL 43 yX11_act ∈ TW := inC_3 _ (List.mem_of_getElem? (i := 122) rfl) rfl
theorem wd_3_123 : Cond.instanceMethod yX11_act ∈ TW := inC_3 _ (List.mem_of_getElem? (i := 123) rfl) rfl
theorem wd_3_124 : Cond.selects RX11 yX11_act yX11_act ∈ TW := inC_3 _ (List.mem_of_getElem? (i := 124) rfl) rfl
theorem wd_3_125 : Cond.code yX11_act cX11_act 4 (some .int) ∈ TW := inC_3 _ (List.mem_of_getElem? (i := 125) rfl) rfl
theorem wd_3_126 : Cond.methodLink RX11 157 yX0_faultOfText ∈ TW := inC_3 _ (List.mem_of_getElem? (i := 126) rfl) rfl
theorem wd_3_127 : Cond.instanceMethod yX0_faultOfText ∈ TW := inC_3 _ (List.mem_of_getElem? (i := 127) rfl) rfl
theorem wd_3_128 : Cond.selects RX0 yX0_faultOfText yX0_faultOfText ∈ TW := inC_3 _ (List.mem_of_getElem? (i := 128) rfl) rfl
theorem wd_3_129 : Cond.code yX0_faultOfText cX0_faultOfText 1 (some .int) ∈ TW := inC_3 _ (List.mem_of_getElem? (i := 129) rfl) rfl
theorem wd_3_130 : Cond.methodLink RX0 37 yX7_faultOf ∈ TW := inC_3 _ (List.mem_of_getElem? (i := 130) rfl) rfl
theorem wd_3_131 : Cond.instanceMethod yX7_faultOf ∈ TW := inC_3 _ (List.mem_of_getElem? (i := 131) rfl) rfl
theorem wd_3_132 : Cond.selects RX7 yX7_faultOf yX7_faultOf ∈ TW := inC_3 _ (List.mem_of_getElem? (i := 132) rfl) rfl
theorem wd_3_133 : Cond.code yX7_faultOf cX7_faultOf 3 (some .int) ∈ TW := inC_3 _ (List.mem_of_getElem? (i := 133) rfl) rfl
theorem wd_3_134 : Cond.methodLink RX7 45 yX7_begin ∈ TW := inC_3 _ (List.mem_of_getElem? (i := 134) rfl) rfl
theorem wd_3_135 : Cond.privateMethod yX7_begin ∈ lw_tbl := inL_3 _ (List.mem_of_getElem? (i := 135) rfl)
theorem wd_3_136 : Cond.instanceMethod yX7_begin ∈ TW := inC_3 _ (List.mem_of_getElem? (i := 136) rfl) rfl
theorem wd_3_137 : Cond.code yX7_begin cX7_begin 4 none ∈ TW := inC_3 _ (List.mem_of_getElem? (i := 137) rfl) rfl
theorem wd_3_138 : Cond.methodLink RX7 60 yJ9_min_7cf53 ∈ TW := inC_3 _ (List.mem_of_getElem? (i := 138) rfl) rfl
theorem wd_3_139 : Cond.methodLink RX7 66 yX7_openLevel ∈ TW := inC_3 _ (List.mem_of_getElem? (i := 139) rfl) rfl
theorem wd_3_140 : Cond.privateMethod yX7_openLevel ∈ lw_tbl := inL_3 _ (List.mem_of_getElem? (i := 140) rfl)
theorem wd_3_141 : Cond.instanceMethod yX7_openLevel ∈ TW := inC_3 _ (List.mem_of_getElem? (i := 141) rfl) rfl
theorem wd_3_142 : Cond.code yX7_openLevel cX7_openLevel 2 none ∈ TW := inC_3 _ (List.mem_of_getElem? (i := 142) rfl) rfl
theorem wd_3_143 : Cond.methodLink RX7 49 yX7_expect ∈ TW := inC_3 _ (List.mem_of_getElem? (i := 143) rfl) rfl
theorem wd_3_144 : Cond.privateMethod yX7_expect ∈ lw_tbl := inL_3 _ (List.mem_of_getElem? (i := 144) rfl)
theorem wd_3_145 : Cond.instanceMethod yX7_expect ∈ TW := inC_3 _ (List.mem_of_getElem? (i := 145) rfl) rfl
theorem wd_3_146 : Cond.code yX7_expect cX7_expect 4 none ∈ TW := inC_3 _ (List.mem_of_getElem? (i := 146) rfl) rfl
theorem wd_3_147 : Cond.methodLink RX7 70 yX7_sign ∈ TW := inC_3 _ (List.mem_of_getElem? (i := 147) rfl) rfl
theorem wd_3_148 : Cond.privateMethod yX7_sign ∈ lw_tbl := inL_3 _ (List.mem_of_getElem? (i := 148) rfl)
theorem wd_3_149 : Cond.instanceMethod yX7_sign ∈ TW := inC_3 _ (List.mem_of_getElem? (i := 149) rfl) rfl
theorem wd_3_150 : Cond.code yX7_sign cX7_sign 1 (some .int) ∈ TW := inC_3 _ (List.mem_of_getElem? (i := 150) rfl) rfl
theorem wd_3_151 : Cond.methodLink RX7 57 yX7_fail ∈ TW := inC_3 _ (List.mem_of_getElem? (i := 151) rfl) rfl
theorem wd_3_152 : Cond.privateMethod yX7_fail ∈ lw_tbl := inL_3 _ (List.mem_of_getElem? (i := 152) rfl)
theorem wd_3_153 : Cond.instanceMethod yX7_fail ∈ TW := inC_3 _ (List.mem_of_getElem? (i := 153) rfl) rfl
theorem wd_3_154 : Cond.code yX7_fail cX7_fail 1 none ∈ TW := inC_3 _ (List.mem_of_getElem? (i := 154) rfl) rfl
theorem wd_3_155 : Cond.methodLink RX7 53 yX7_ruleHolds ∈ TW := inC_3 _ (List.mem_of_getElem? (i := 155) rfl) rfl
theorem wd_3_156 : Cond.privateMethod yX7_ruleHolds ∈ lw_tbl := inL_3 _ (List.mem_of_getElem? (i := 156) rfl)
theorem wd_3_157 : Cond.instanceMethod yX7_ruleHolds ∈ TW := inC_3 _ (List.mem_of_getElem? (i := 157) rfl) rfl
theorem wd_3_158 : Cond.code yX7_ruleHolds cX7_ruleHolds 3 (some .boolean) ∈ TW := inC_3 _ (List.mem_of_getElem? (i := 158) rfl) rfl
theorem wd_3_159 : Cond.methodLink RX7 74 yX7_readOpenings ∈ TW := inC_3 _ (List.mem_of_getElem? (i := 159) rfl) rfl
theorem wd_3_160 : Cond.privateMethod yX7_readOpenings ∈ lw_tbl := inL_3 _ (List.mem_of_getElem? (i := 160) rfl)
theorem wd_3_161 : Cond.instanceMethod yX7_readOpenings ∈ TW := inC_3 _ (List.mem_of_getElem? (i := 161) rfl) rfl
theorem wd_3_162 : Cond.code yX7_readOpenings cX7_readOpenings 3 none ∈ TW := inC_3 _ (List.mem_of_getElem? (i := 162) rfl) rfl
theorem wd_3_163 : Cond.methodLink RX7 77 yX7_comparisonHolds ∈ TW := inC_3 _ (List.mem_of_getElem? (i := 163) rfl) rfl
theorem wd_3_164 : Cond.privateMethod yX7_comparisonHolds ∈ lw_tbl := inL_3 _ (List.mem_of_getElem? (i := 164) rfl)
theorem wd_3_165 : Cond.instanceMethod yX7_comparisonHolds ∈ TW := inC_3 _ (List.mem_of_getElem? (i := 165) rfl) rfl
theorem wd_3_166 : Cond.code yX7_comparisonHolds cX7_comparisonHolds 4 (some .boolean) ∈ TW := inC_3 _ (List.mem_of_getElem? (i := 166) rfl) rfl
theorem wd_3_167 : Cond.methodLink RX7 90 yX7_sum ∈ TW := inC_3 _ (List.mem_of_getElem? (i := 167) rfl) rfl
theorem wd_3_168 : Cond.privateMethod yX7_sum ∈ lw_tbl := inL_3 _ (List.mem_of_getElem? (i := 168) rfl)
theorem wd_3_169 : Cond.instanceMethod yX7_sum ∈ TW := inC_3 _ (List.mem_of_getElem? (i := 169) rfl) rfl
theorem wd_3_170 : Cond.code yX7_sum cX7_sum 5 (some .int) ∈ TW := inC_3 _ (List.mem_of_getElem? (i := 170) rfl) rfl
theorem wd_3_171 : Cond.methodLink RX7 93 yX7_unit ∈ TW := inC_3 _ (List.mem_of_getElem? (i := 171) rfl) rfl
theorem wd_3_172 : Cond.privateMethod yX7_unit ∈ lw_tbl := inL_3 _ (List.mem_of_getElem? (i := 172) rfl)
theorem wd_3_173 : Cond.instanceMethod yX7_unit ∈ TW := inC_3 _ (List.mem_of_getElem? (i := 173) rfl) rfl
theorem wd_3_174 : Cond.code yX7_unit cX7_unit 4 (some .int) ∈ TW := inC_3 _ (List.mem_of_getElem? (i := 174) rfl) rfl
theorem wd_3_175 : Cond.methodLink RX7 96 yX7_factOf ∈ TW := inC_3 _ (List.mem_of_getElem? (i := 175) rfl) rfl
theorem wd_3_176 : Cond.static yX7_factOf ∈ TW := inC_3 _ (List.mem_of_getElem? (i := 176) rfl) rfl
theorem wd_3_177 : Cond.code yX7_factOf cX7_factOf 1 (some .int) ∈ TW := inC_3 _ (List.mem_of_getElem? (i := 177) rfl) rfl
theorem wd_3_178 : Cond.methodLink RX7 80 yX7_endPart ∈ TW := inC_3 _ (List.mem_of_getElem? (i := 178) rfl) rfl
theorem wd_3_179 : Cond.privateMethod yX7_endPart ∈ lw_tbl := inL_3 _ (List.mem_of_getElem? (i := 179) rfl)
theorem wd_3_180 : Cond.instanceMethod yX7_endPart ∈ TW := inC_3 _ (List.mem_of_getElem? (i := 180) rfl) rfl
theorem wd_3_181 : Cond.code yX7_endPart cX7_endPart 3 none ∈ TW := inC_3 _ (List.mem_of_getElem? (i := 181) rfl) rfl
theorem wd_3_182 : Cond.methodLink RX7 84 yX7_readClosings ∈ TW := inC_3 _ (List.mem_of_getElem? (i := 182) rfl) rfl
theorem wd_3_183 : Cond.privateMethod yX7_readClosings ∈ lw_tbl := inL_3 _ (List.mem_of_getElem? (i := 183) rfl)
theorem wd_3_184 : Cond.instanceMethod yX7_readClosings ∈ TW := inC_3 _ (List.mem_of_getElem? (i := 184) rfl) rfl
theorem wd_3_185 : Cond.code yX7_readClosings cX7_readClosings 3 none ∈ TW := inC_3 _ (List.mem_of_getElem? (i := 185) rfl) rfl
theorem wd_3_186 : Cond.methodLink RX7 87 yX7_joinsNext ∈ TW := inC_3 _ (List.mem_of_getElem? (i := 186) rfl) rfl
theorem wd_3_187 : Cond.privateMethod yX7_joinsNext ∈ lw_tbl := inL_3 _ (List.mem_of_getElem? (i := 187) rfl)
theorem wd_3_188 : Cond.instanceMethod yX7_joinsNext ∈ TW := inC_3 _ (List.mem_of_getElem? (i := 188) rfl) rfl
theorem wd_3_189 : Cond.code yX7_joinsNext cX7_joinsNext 2 (some .boolean) ∈ TW := inC_3 _ (List.mem_of_getElem? (i := 189) rfl) rfl
theorem wd_3_190 : Cond.methodLink RX11 160 yX0_dropText ∈ TW := inC_3 _ (List.mem_of_getElem? (i := 190) rfl) rfl
theorem wd_3_191 : Cond.instanceMethod yX0_dropText ∈ TW := inC_3 _ (List.mem_of_getElem? (i := 191) rfl) rfl
theorem wd_3_192 : Cond.selects RX0 yX0_dropText yX0_dropText ∈ TW := inC_3 _ (List.mem_of_getElem? (i := 192) rfl) rfl
theorem wd_3_193 : Cond.code yX0_dropText cX0_dropText 1 none ∈ TW := inC_3 _ (List.mem_of_getElem? (i := 193) rfl) rfl
theorem wd_3_194 : Cond.methodLink RX11 163 yX0_takeText ∈ TW := inC_3 _ (List.mem_of_getElem? (i := 194) rfl) rfl
theorem wd_3_195 : Cond.instanceMethod yX0_takeText ∈ TW := inC_3 _ (List.mem_of_getElem? (i := 195) rfl) rfl
theorem wd_3_196 : Cond.selects RX0 yX0_takeText yX0_takeText ∈ TW := inC_3 _ (List.mem_of_getElem? (i := 196) rfl) rfl
theorem wd_3_197 : Cond.code yX0_takeText cX0_takeText 2 (some .int) ∈ TW := inC_3 _ (List.mem_of_getElem? (i := 197) rfl) rfl
theorem wd_3_198 : Cond.constant RX0 41 (1000000) ∈ TW := inC_3 _ (List.mem_of_getElem? (i := 198) rfl) rfl
theorem wd_3_199 : Cond.methodLink RL 47 yX11_strike ∈ TW := inC_3 _ (List.mem_of_getElem? (i := 199) rfl) rfl
theorem wd_3_200 : Cond.instanceMethod yX11_strike ∈ TW := inC_3 _ (List.mem_of_getElem? (i := 200) rfl) rfl
theorem wd_3_201 : Cond.selects RX11 yX11_strike yX11_strike ∈ TW := inC_3 _ (List.mem_of_getElem? (i := 201) rfl) rfl
theorem wd_3_202 : Cond.code yX11_strike cX11_strike 4 (some .int) ∈ TW := inC_3 _ (List.mem_of_getElem? (i := 202) rfl) rfl
theorem wd_3_203 : Cond.constant RX11 169 (1000000) ∈ TW := inC_3 _ (List.mem_of_getElem? (i := 203) rfl) rfl
theorem wd_3_204 : Cond.methodLink RL 51 yX11_kind ∈ TW := inC_3 _ (List.mem_of_getElem? (i := 204) rfl) rfl
theorem wd_3_205 : Cond.instanceMethod yX11_kind ∈ TW := inC_3 _ (List.mem_of_getElem? (i := 205) rfl) rfl
theorem wd_3_206 : Cond.selects RX11 yX11_kind yX11_kind ∈ TW := inC_3 _ (List.mem_of_getElem? (i := 206) rfl) rfl
theorem wd_3_207 : Cond.code yX11_kind cX11_kind 9 (some .int) ∈ TW := inC_3 _ (List.mem_of_getElem? (i := 207) rfl) rfl
theorem wd_3_208 : Cond.methodLink RX11 170 yX11_isWhat ∈ TW := inC_3 _ (List.mem_of_getElem? (i := 208) rfl) rfl
theorem wd_3_209 : Cond.static yX11_isWhat ∈ TW := inC_3 _ (List.mem_of_getElem? (i := 209) rfl) rfl
theorem wd_3_210 : Cond.code yX11_isWhat cX11_isWhat 1 (some .boolean) ∈ TW := inC_3 _ (List.mem_of_getElem? (i := 210) rfl) rfl
theorem wd_3_211 : Cond.methodLink RX11 173 yX11_wrongTopic ∈ TW := inC_3 _ (List.mem_of_getElem? (i := 211) rfl) rfl
theorem wd_3_212 : Cond.static yX11_wrongTopic ∈ TW := inC_3 _ (List.mem_of_getElem? (i := 212) rfl) rfl
theorem wd_3_213 : Cond.code yX11_wrongTopic cX11_wrongTopic 2 (some .int) ∈ TW := inC_3 _ (List.mem_of_getElem? (i := 213) rfl) rfl
theorem wd_3_214 : Cond.methodLink RX11 176 yX11_tellFacts ∈ TW := inC_3 _ (List.mem_of_getElem? (i := 214) rfl) rfl
theorem wd_3_215 : Cond.privateMethod yX11_tellFacts ∈ lw_tbl := inL_3 _ (List.mem_of_getElem? (i := 215) rfl)
theorem wd_3_216 : Cond.instanceMethod yX11_tellFacts ∈ TW := inC_3 _ (List.mem_of_getElem? (i := 216) rfl) rfl
theorem wd_3_217 : Cond.code yX11_tellFacts cX11_tellFacts 5 none ∈ TW := inC_3 _ (List.mem_of_getElem? (i := 217) rfl) rfl
theorem wd_3_218 : Cond.methodLink RX11 390 yX9_hereIn ∈ TW := inC_3 _ (List.mem_of_getElem? (i := 218) rfl) rfl
theorem wd_3_219 : Cond.instanceMethod yX9_hereIn ∈ TW := inC_3 _ (List.mem_of_getElem? (i := 219) rfl) rfl
theorem wd_3_220 : Cond.selects RX9 yX9_hereIn yX9_hereIn ∈ TW := inC_3 _ (List.mem_of_getElem? (i := 220) rfl) rfl
theorem wd_3_221 : Cond.code yX9_hereIn cX9_hereIn 4 (some .int) ∈ TW := inC_3 _ (List.mem_of_getElem? (i := 221) rfl) rfl
theorem wd_3_222 : Cond.methodLink RX11 280 yJ6_bitCount_0f7a4 ∈ TW := inC_3 _ (List.mem_of_getElem? (i := 222) rfl) rfl
theorem wd_3_223 : Cond.static yJ6_bitCount_0f7a4 ∈ TW := inC_3 _ (List.mem_of_getElem? (i := 223) rfl) rfl
theorem wd_3_224 : Cond.code yJ6_bitCount_0f7a4 cJ6_bitCount_0f7a4 1 (some .int) ∈ TW := inC_3 _ (List.mem_of_getElem? (i := 224) rfl) rfl
theorem wd_3_225 : Cond.constant RJ6 265 (1431655765) ∈ TW := inC_3 _ (List.mem_of_getElem? (i := 225) rfl) rfl
theorem wd_3_226 : Cond.constant RJ6 266 (858993459) ∈ TW := inC_3 _ (List.mem_of_getElem? (i := 226) rfl) rfl
theorem wd_3_227 : Cond.constant RJ6 267 (252645135) ∈ TW := inC_3 _ (List.mem_of_getElem? (i := 227) rfl) rfl
theorem wd_3_228 : Cond.methodLink RX11 180 yX0_bearingOn ∈ TW := inC_3 _ (List.mem_of_getElem? (i := 228) rfl) rfl
theorem wd_3_229 : Cond.instanceMethod yX0_bearingOn ∈ TW := inC_3 _ (List.mem_of_getElem? (i := 229) rfl) rfl
theorem wd_3_230 : Cond.selects RX0 yX0_bearingOn yX0_bearingOn ∈ TW := inC_3 _ (List.mem_of_getElem? (i := 230) rfl) rfl
theorem wd_3_231 : Cond.code yX0_bearingOn cX0_bearingOn 5 (some .int) ∈ TW := inC_3 _ (List.mem_of_getElem? (i := 231) rfl) rfl
theorem wd_3_232 : Cond.methodLink RX0 42 yX7_holds ∈ TW := inC_3 _ (List.mem_of_getElem? (i := 232) rfl) rfl
theorem wd_3_233 : Cond.instanceMethod yX7_holds ∈ TW := inC_3 _ (List.mem_of_getElem? (i := 233) rfl) rfl
theorem wd_3_234 : Cond.selects RX7 yX7_holds yX7_holds ∈ TW := inC_3 _ (List.mem_of_getElem? (i := 234) rfl) rfl
theorem wd_3_235 : Cond.code yX7_holds cX7_holds 3 (some .boolean) ∈ TW := inC_3 _ (List.mem_of_getElem? (i := 235) rfl) rfl
theorem wd_3_236 : Cond.methodLink RX11 183 yX0_quarrelAmong ∈ TW := inC_3 _ (List.mem_of_getElem? (i := 236) rfl) rfl
theorem wd_3_237 : Cond.instanceMethod yX0_quarrelAmong ∈ TW := inC_3 _ (List.mem_of_getElem? (i := 237) rfl) rfl
theorem wd_3_238 : Cond.selects RX0 yX0_quarrelAmong yX0_quarrelAmong ∈ TW := inC_3 _ (List.mem_of_getElem? (i := 238) rfl) rfl
theorem wd_3_239 : Cond.code yX0_quarrelAmong cX0_quarrelAmong 5 (some .int) ∈ TW := inC_3 _ (List.mem_of_getElem? (i := 239) rfl) rfl
theorem wd_4_0 : Cond.methodLink RX0 46 yX0_kindOf ∈ TW := inC_4 _ (List.mem_of_getElem? (i := 0) rfl) rfl
theorem wd_4_1 : Cond.instanceMethod yX0_kindOf ∈ TW := inC_4 _ (List.mem_of_getElem? (i := 1) rfl) rfl
theorem wd_4_2 : Cond.selects RX0 yX0_kindOf yX0_kindOf ∈ TW := inC_4 _ (List.mem_of_getElem? (i := 2) rfl) rfl
theorem wd_4_3 : Cond.code yX0_kindOf cX0_kindOf 2 (some .int) ∈ TW := inC_4 _ (List.mem_of_getElem? (i := 3) rfl) rfl
theorem wd_4_4 : Cond.methodLink RX11 187 yX0_giverAmong ∈ TW := inC_4 _ (List.mem_of_getElem? (i := 4) rfl) rfl
theorem wd_4_5 : Cond.instanceMethod yX0_giverAmong ∈ TW := inC_4 _ (List.mem_of_getElem? (i := 5) rfl) rfl
theorem wd_4_6 : Cond.selects RX0 yX0_giverAmong yX0_giverAmong ∈ TW := inC_4 _ (List.mem_of_getElem? (i := 6) rfl) rfl
theorem wd_4_7 : Cond.code yX0_giverAmong cX0_giverAmong 4 (some .int) ∈ TW := inC_4 _ (List.mem_of_getElem? (i := 7) rfl) rfl
theorem wd_4_8 : Cond.methodLink RX11 190 yX0_kindOf ∈ TW := inC_4 _ (List.mem_of_getElem? (i := 8) rfl) rfl
theorem wd_4_9 : Cond.methodLink RL 56 yX11_term ∈ TW := inC_4 _ (List.mem_of_getElem? (i := 9) rfl) rfl
theorem wd_4_10 : Cond.instanceMethod yX11_term ∈ TW := inC_4 _ (List.mem_of_getElem? (i := 10) rfl) rfl
theorem wd_4_11 : Cond.selects RX11 yX11_term yX11_term ∈ TW := inC_4 _ (List.mem_of_getElem? (i := 11) rfl) rfl
theorem wd_4_12 : Cond.code yX11_term cX11_term 6 (some .int) ∈ TW := inC_4 _ (List.mem_of_getElem? (i := 12) rfl) rfl
theorem wd_4_13 : Cond.fieldLink RX11 193 "WorksCouncil" "MOST_OF_TERM" "[I" ∈ TW := inC_4 _ (List.mem_of_getElem? (i := 13) rfl) rfl
theorem wd_4_14 : Cond.laysStatic "WorksCouncil" "MOST_OF_TERM" "[I" ∈ lw_tbl := inL_4 _ (List.mem_of_getElem? (i := 14) rfl)
theorem wd_4_15 : Cond.methodLink RL 61 yX11_open ∈ TW := inC_4 _ (List.mem_of_getElem? (i := 15) rfl) rfl
theorem wd_4_16 : Cond.instanceMethod yX11_open ∈ TW := inC_4 _ (List.mem_of_getElem? (i := 16) rfl) rfl
theorem wd_4_17 : Cond.selects RX11 yX11_open yX11_open ∈ TW := inC_4 _ (List.mem_of_getElem? (i := 17) rfl) rfl
theorem wd_4_18 : Cond.code yX11_open cX11_open 8 (some .int) ∈ TW := inC_4 _ (List.mem_of_getElem? (i := 18) rfl) rfl
theorem wd_4_19 : Cond.methodLink RX11 196 yX5_begin ∈ TW := inC_4 _ (List.mem_of_getElem? (i := 19) rfl) rfl
theorem wd_4_20 : Cond.instanceMethod yX5_begin ∈ TW := inC_4 _ (List.mem_of_getElem? (i := 20) rfl) rfl
theorem wd_4_21 : Cond.selects RX5 yX5_begin yX5_begin ∈ TW := inC_4 _ (List.mem_of_getElem? (i := 21) rfl) rfl
theorem wd_4_22 : Cond.code yX5_begin cX5_begin 5 none ∈ TW := inC_4 _ (List.mem_of_getElem? (i := 22) rfl) rfl
theorem wd_4_23 : Cond.methodLink RX11 200 yX5_takeTerms ∈ TW := inC_4 _ (List.mem_of_getElem? (i := 23) rfl) rfl
theorem wd_4_24 : Cond.instanceMethod yX5_takeTerms ∈ TW := inC_4 _ (List.mem_of_getElem? (i := 24) rfl) rfl
theorem wd_4_25 : Cond.selects RX5 yX5_takeTerms yX5_takeTerms ∈ TW := inC_4 _ (List.mem_of_getElem? (i := 25) rfl) rfl
theorem wd_4_26 : Cond.code yX5_takeTerms cX5_takeTerms 5 none ∈ TW := inC_4 _ (List.mem_of_getElem? (i := 26) rfl) rfl
theorem wd_4_27 : Cond.methodLink RL 66 yX11_paper ∈ TW := inC_4 _ (List.mem_of_getElem? (i := 27) rfl) rfl
theorem wd_4_28 : Cond.instanceMethod yX11_paper ∈ TW := inC_4 _ (List.mem_of_getElem? (i := 28) rfl) rfl
theorem wd_4_29 : Cond.selects RX11 yX11_paper yX11_paper ∈ TW := inC_4 _ (List.mem_of_getElem? (i := 29) rfl) rfl
theorem wd_4_30 : Cond.code yX11_paper cX11_paper 5 (some .int) ∈ TW := inC_4 _ (List.mem_of_getElem? (i := 30) rfl) rfl
theorem wd_4_31 : Cond.methodLink RX11 204 yX11_isMatter ∈ TW := inC_4 _ (List.mem_of_getElem? (i := 31) rfl) rfl
theorem wd_4_32 : Cond.privateMethod yX11_isMatter ∈ lw_tbl := inL_4 _ (List.mem_of_getElem? (i := 32) rfl)
theorem wd_4_33 : Cond.instanceMethod yX11_isMatter ∈ TW := inC_4 _ (List.mem_of_getElem? (i := 33) rfl) rfl
theorem wd_4_34 : Cond.code yX11_isMatter cX11_isMatter 2 (some .boolean) ∈ TW := inC_4 _ (List.mem_of_getElem? (i := 34) rfl) rfl
theorem wd_4_35 : Cond.methodLink RX11 207 yX5_withdrawnBy ∈ TW := inC_4 _ (List.mem_of_getElem? (i := 35) rfl) rfl
theorem wd_4_36 : Cond.instanceMethod yX5_withdrawnBy ∈ TW := inC_4 _ (List.mem_of_getElem? (i := 36) rfl) rfl
theorem wd_4_37 : Cond.selects RX5 yX5_withdrawnBy yX5_withdrawnBy ∈ TW := inC_4 _ (List.mem_of_getElem? (i := 37) rfl) rfl
theorem wd_4_38 : Cond.code yX5_withdrawnBy cX5_withdrawnBy 3 (some .boolean) ∈ TW := inC_4 _ (List.mem_of_getElem? (i := 38) rfl) rfl
theorem wd_4_39 : Cond.methodLink RX11 210 yX5_paperDay ∈ TW := inC_4 _ (List.mem_of_getElem? (i := 39) rfl) rfl
theorem wd_4_40 : Cond.instanceMethod yX5_paperDay ∈ TW := inC_4 _ (List.mem_of_getElem? (i := 40) rfl) rfl
theorem wd_4_41 : Cond.selects RX5 yX5_paperDay yX5_paperDay ∈ TW := inC_4 _ (List.mem_of_getElem? (i := 41) rfl) rfl
theorem wd_4_42 : Cond.code yX5_paperDay cX5_paperDay 6 (some .int) ∈ TW := inC_4 _ (List.mem_of_getElem? (i := 42) rfl) rfl
theorem wd_4_43 : Cond.methodLink RX11 213 yX5_isFull ∈ TW := inC_4 _ (List.mem_of_getElem? (i := 43) rfl) rfl
theorem wd_4_44 : Cond.instanceMethod yX5_isFull ∈ TW := inC_4 _ (List.mem_of_getElem? (i := 44) rfl) rfl
theorem wd_4_45 : Cond.selects RX5 yX5_isFull yX5_isFull ∈ TW := inC_4 _ (List.mem_of_getElem? (i := 45) rfl) rfl
theorem wd_4_46 : Cond.code yX5_isFull cX5_isFull 1 (some .boolean) ∈ TW := inC_4 _ (List.mem_of_getElem? (i := 46) rfl) rfl
theorem wd_4_47 : Cond.methodLink RX11 217 yX5_tell ∈ TW := inC_4 _ (List.mem_of_getElem? (i := 47) rfl) rfl
theorem wd_4_48 : Cond.instanceMethod yX5_tell ∈ TW := inC_4 _ (List.mem_of_getElem? (i := 48) rfl) rfl
theorem wd_4_49 : Cond.selects RX5 yX5_tell yX5_tell ∈ TW := inC_4 _ (List.mem_of_getElem? (i := 49) rfl) rfl
theorem wd_4_50 : Cond.code yX5_tell cX5_tell 3 (some .int) ∈ TW := inC_4 _ (List.mem_of_getElem? (i := 50) rfl) rfl
theorem wd_4_51 : Cond.methodLink RL 71 yX11_withdraw ∈ TW := inC_4 _ (List.mem_of_getElem? (i := 51) rfl) rfl
theorem wd_4_52 : Cond.instanceMethod yX11_withdraw ∈ TW := inC_4 _ (List.mem_of_getElem? (i := 52) rfl) rfl
theorem wd_4_53 : Cond.selects RX11 yX11_withdraw yX11_withdraw ∈ TW := inC_4 _ (List.mem_of_getElem? (i := 53) rfl) rfl
theorem wd_4_54 : Cond.code yX11_withdraw cX11_withdraw 3 (some .int) ∈ TW := inC_4 _ (List.mem_of_getElem? (i := 54) rfl) rfl
theorem wd_4_55 : Cond.methodLink RL 75 yX11_state ∈ TW := inC_4 _ (List.mem_of_getElem? (i := 55) rfl) rfl
theorem wd_4_56 : Cond.instanceMethod yX11_state ∈ TW := inC_4 _ (List.mem_of_getElem? (i := 56) rfl) rfl
theorem wd_4_57 : Cond.selects RX11 yX11_state yX11_state ∈ TW := inC_4 _ (List.mem_of_getElem? (i := 57) rfl) rfl
theorem wd_4_58 : Cond.code yX11_state cX11_state 4 (some .int) ∈ TW := inC_4 _ (List.mem_of_getElem? (i := 58) rfl) rfl
theorem wd_4_59 : Cond.methodLink RX11 221 yX5_stateOn ∈ TW := inC_4 _ (List.mem_of_getElem? (i := 59) rfl) rfl
theorem wd_4_60 : Cond.instanceMethod yX5_stateOn ∈ TW := inC_4 _ (List.mem_of_getElem? (i := 60) rfl) rfl
theorem wd_4_61 : Cond.selects RX5 yX5_stateOn yX5_stateOn ∈ TW := inC_4 _ (List.mem_of_getElem? (i := 61) rfl) rfl
theorem wd_4_62 : Cond.code yX5_stateOn cX5_stateOn 6 (some .int) ∈ TW := inC_4 _ (List.mem_of_getElem? (i := 62) rfl) rfl
theorem wd_4_63 : Cond.methodLink RX5 82 yX5_withdrawnBy ∈ TW := inC_4 _ (List.mem_of_getElem? (i := 63) rfl) rfl
theorem wd_4_64 : Cond.methodLink RX5 86 yX5_lastRuling ∈ TW := inC_4 _ (List.mem_of_getElem? (i := 64) rfl) rfl
theorem wd_4_65 : Cond.instanceMethod yX5_lastRuling ∈ TW := inC_4 _ (List.mem_of_getElem? (i := 65) rfl) rfl
theorem wd_4_66 : Cond.selects RX5 yX5_lastRuling yX5_lastRuling ∈ TW := inC_4 _ (List.mem_of_getElem? (i := 66) rfl) rfl
theorem wd_4_67 : Cond.code yX5_lastRuling cX5_lastRuling 4 (some .int) ∈ TW := inC_4 _ (List.mem_of_getElem? (i := 67) rfl) rfl
theorem wd_4_68 : Cond.methodLink RX5 89 yX5_lastAnswer ∈ TW := inC_4 _ (List.mem_of_getElem? (i := 68) rfl) rfl
theorem wd_4_69 : Cond.privateMethod yX5_lastAnswer ∈ lw_tbl := inL_4 _ (List.mem_of_getElem? (i := 69) rfl)
theorem wd_4_70 : Cond.instanceMethod yX5_lastAnswer ∈ TW := inC_4 _ (List.mem_of_getElem? (i := 70) rfl) rfl
theorem wd_4_71 : Cond.code yX5_lastAnswer cX5_lastAnswer 4 (some .int) ∈ TW := inC_4 _ (List.mem_of_getElem? (i := 71) rfl) rfl
theorem wd_4_72 : Cond.methodLink RX5 76 yX2_isVoidBy ∈ TW := inC_4 _ (List.mem_of_getElem? (i := 72) rfl) rfl
theorem wd_4_73 : Cond.instanceMethod yX2_isVoidBy ∈ TW := inC_4 _ (List.mem_of_getElem? (i := 73) rfl) rfl
theorem wd_4_74 : Cond.selects RX2 yX2_isVoidBy yX2_isVoidBy ∈ TW := inC_4 _ (List.mem_of_getElem? (i := 74) rfl) rfl
theorem wd_4_75 : Cond.code yX2_isVoidBy cX2_isVoidBy 3 (some .boolean) ∈ TW := inC_4 _ (List.mem_of_getElem? (i := 75) rfl) rfl
theorem wd_4_76 : Cond.methodLink RX5 92 yX5_wholeSince ∈ TW := inC_4 _ (List.mem_of_getElem? (i := 76) rfl) rfl
theorem wd_4_77 : Cond.instanceMethod yX5_wholeSince ∈ TW := inC_4 _ (List.mem_of_getElem? (i := 77) rfl) rfl
theorem wd_4_78 : Cond.selects RX5 yX5_wholeSince yX5_wholeSince ∈ TW := inC_4 _ (List.mem_of_getElem? (i := 78) rfl) rfl
theorem wd_4_79 : Cond.code yX5_wholeSince cX5_wholeSince 6 (some .int) ∈ TW := inC_4 _ (List.mem_of_getElem? (i := 79) rfl) rfl
theorem wd_4_80 : Cond.methodLink RX5 66 yX5_paperDay ∈ TW := inC_4 _ (List.mem_of_getElem? (i := 80) rfl) rfl
theorem wd_4_81 : Cond.methodLink RX5 70 yJ9_max_7cf53 ∈ TW := inC_4 _ (List.mem_of_getElem? (i := 81) rfl) rfl
theorem wd_4_82 : Cond.static yJ9_max_7cf53 ∈ TW := inC_4 _ (List.mem_of_getElem? (i := 82) rfl) rfl
theorem wd_4_83 : Cond.code yJ9_max_7cf53 cJ9_max_7cf53 2 (some .int) ∈ TW := inC_4 _ (List.mem_of_getElem? (i := 83) rfl) rfl
theorem wd_4_84 : Cond.methodLink RX5 95 yX3_workdaysBehind ∈ TW := inC_4 _ (List.mem_of_getElem? (i := 84) rfl) rfl
theorem wd_4_85 : Cond.methodLink RL 79 yX11_matterOf ∈ TW := inC_4 _ (List.mem_of_getElem? (i := 85) rfl) rfl
theorem wd_4_86 : Cond.instanceMethod yX11_matterOf ∈ TW := inC_4 _ (List.mem_of_getElem? (i := 86) rfl) rfl
theorem wd_4_87 : Cond.selects RX11 yX11_matterOf yX11_matterOf ∈ TW := inC_4 _ (List.mem_of_getElem? (i := 87) rfl) rfl
theorem wd_4_88 : Cond.code yX11_matterOf cX11_matterOf 4 (some .int) ∈ TW := inC_4 _ (List.mem_of_getElem? (i := 88) rfl) rfl
theorem wd_4_89 : Cond.methodLink RX11 227 yX5_wholeSince ∈ TW := inC_4 _ (List.mem_of_getElem? (i := 89) rfl) rfl
theorem wd_4_90 : Cond.methodLink RX11 230 yX5_letsOn ∈ TW := inC_4 _ (List.mem_of_getElem? (i := 90) rfl) rfl
theorem wd_4_91 : Cond.instanceMethod yX5_letsOn ∈ TW := inC_4 _ (List.mem_of_getElem? (i := 91) rfl) rfl
theorem wd_4_92 : Cond.selects RX5 yX5_letsOn yX5_letsOn ∈ TW := inC_4 _ (List.mem_of_getElem? (i := 92) rfl) rfl
theorem wd_4_93 : Cond.code yX5_letsOn cX5_letsOn 2 (some .boolean) ∈ TW := inC_4 _ (List.mem_of_getElem? (i := 93) rfl) rfl
theorem wd_4_94 : Cond.methodLink RX5 98 yX5_stateOn ∈ TW := inC_4 _ (List.mem_of_getElem? (i := 94) rfl) rfl
theorem wd_4_95 : Cond.methodLink RX5 101 yX5_lets ∈ TW := inC_4 _ (List.mem_of_getElem? (i := 95) rfl) rfl
theorem wd_4_96 : Cond.instanceMethod yX5_lets ∈ TW := inC_4 _ (List.mem_of_getElem? (i := 96) rfl) rfl
theorem wd_4_97 : Cond.selects RX5 yX5_lets yX5_lets ∈ TW := inC_4 _ (List.mem_of_getElem? (i := 97) rfl) rfl
theorem wd_4_98 : Cond.code yX5_lets cX5_lets 2 (some .boolean) ∈ TW := inC_4 _ (List.mem_of_getElem? (i := 98) rfl) rfl
theorem wd_4_99 : Cond.methodLink RL 83 yX11_votes ∈ TW := inC_4 _ (List.mem_of_getElem? (i := 99) rfl) rfl
theorem wd_4_100 : Cond.instanceMethod yX11_votes ∈ TW := inC_4 _ (List.mem_of_getElem? (i := 100) rfl) rfl
theorem wd_4_101 : Cond.selects RX11 yX11_votes yX11_votes ∈ TW := inC_4 _ (List.mem_of_getElem? (i := 101) rfl) rfl
theorem wd_4_102 : Cond.code yX11_votes cX11_votes 5 (some .int) ∈ TW := inC_4 _ (List.mem_of_getElem? (i := 102) rfl) rfl
theorem wd_4_103 : Cond.methodLink RL 87 yX11_elect ∈ TW := inC_4 _ (List.mem_of_getElem? (i := 103) rfl) rfl
theorem wd_4_104 : Cond.instanceMethod yX11_elect ∈ TW := inC_4 _ (List.mem_of_getElem? (i := 104) rfl) rfl
theorem wd_4_105 : Cond.selects RX11 yX11_elect yX11_elect ∈ TW := inC_4 _ (List.mem_of_getElem? (i := 105) rfl) rfl
theorem wd_4_106 : Cond.code yX11_elect cX11_elect 3 (some .int) ∈ TW := inC_4 _ (List.mem_of_getElem? (i := 106) rfl) rfl
theorem wd_4_107 : Cond.methodLink RX11 242 yX2_fillSeats ∈ TW := inC_4 _ (List.mem_of_getElem? (i := 107) rfl) rfl
theorem wd_4_108 : Cond.instanceMethod yX2_fillSeats ∈ TW := inC_4 _ (List.mem_of_getElem? (i := 108) rfl) rfl
theorem wd_4_109 : Cond.selects RX2 yX2_fillSeats yX2_fillSeats ∈ TW := inC_4 _ (List.mem_of_getElem? (i := 109) rfl) rfl
theorem wd_4_110 : Cond.code yX2_fillSeats cX2_fillSeats 4 (some .int) ∈ TW := inC_4 _ (List.mem_of_getElem? (i := 110) rfl) rfl
theorem wd_4_111 : Cond.methodLink RX2 47 yX2_nextWinner ∈ TW := inC_4 _ (List.mem_of_getElem? (i := 111) rfl) rfl
theorem wd_4_112 : Cond.privateMethod yX2_nextWinner ∈ lw_tbl := inL_4 _ (List.mem_of_getElem? (i := 112) rfl)
theorem wd_4_113 : Cond.instanceMethod yX2_nextWinner ∈ TW := inC_4 _ (List.mem_of_getElem? (i := 113) rfl) rfl
theorem wd_4_114 : Cond.code yX2_nextWinner cX2_nextWinner 3 (some .int) ∈ TW := inC_4 _ (List.mem_of_getElem? (i := 114) rfl) rfl
theorem wd_4_115 : Cond.methodLink RL 91 yX11_seat ∈ TW := inC_4 _ (List.mem_of_getElem? (i := 115) rfl) rfl
theorem wd_4_116 : Cond.instanceMethod yX11_seat ∈ TW := inC_4 _ (List.mem_of_getElem? (i := 116) rfl) rfl
theorem wd_4_117 : Cond.selects RX11 yX11_seat yX11_seat ∈ TW := inC_4 _ (List.mem_of_getElem? (i := 117) rfl) rfl
theorem wd_4_118 : Cond.code yX11_seat cX11_seat 3 (some .int) ∈ TW := inC_4 _ (List.mem_of_getElem? (i := 118) rfl) rfl
theorem wd_4_119 : Cond.methodLink RX11 245 yX2_hasSeat ∈ TW := inC_4 _ (List.mem_of_getElem? (i := 119) rfl) rfl
theorem wd_4_120 : Cond.instanceMethod yX2_hasSeat ∈ TW := inC_4 _ (List.mem_of_getElem? (i := 120) rfl) rfl
theorem wd_4_121 : Cond.selects RX2 yX2_hasSeat yX2_hasSeat ∈ TW := inC_4 _ (List.mem_of_getElem? (i := 121) rfl) rfl
theorem wd_4_122 : Cond.code yX2_hasSeat cX2_hasSeat 2 (some .boolean) ∈ TW := inC_4 _ (List.mem_of_getElem? (i := 122) rfl) rfl
theorem wd_4_123 : Cond.methodLink RL 95 yX11_sit ∈ TW := inC_4 _ (List.mem_of_getElem? (i := 123) rfl) rfl
theorem wd_4_124 : Cond.instanceMethod yX11_sit ∈ TW := inC_4 _ (List.mem_of_getElem? (i := 124) rfl) rfl
theorem wd_4_125 : Cond.selects RX11 yX11_sit yX11_sit ∈ TW := inC_4 _ (List.mem_of_getElem? (i := 125) rfl) rfl
theorem wd_4_126 : Cond.code yX11_sit cX11_sit 3 (some .int) ∈ TW := inC_4 _ (List.mem_of_getElem? (i := 126) rfl) rfl
theorem wd_4_127 : Cond.methodLink RX11 257 yX2_sitsElsewhere ∈ TW := inC_4 _ (List.mem_of_getElem? (i := 127) rfl) rfl
theorem wd_4_128 : Cond.instanceMethod yX2_sitsElsewhere ∈ TW := inC_4 _ (List.mem_of_getElem? (i := 128) rfl) rfl
theorem wd_4_129 : Cond.selects RX2 yX2_sitsElsewhere yX2_sitsElsewhere ∈ TW := inC_4 _ (List.mem_of_getElem? (i := 129) rfl) rfl
theorem wd_4_130 : Cond.code yX2_sitsElsewhere cX2_sitsElsewhere 4 (some .boolean) ∈ TW := inC_4 _ (List.mem_of_getElem? (i := 130) rfl) rfl
theorem wd_4_131 : Cond.methodLink RL 99 yX11_session ∈ TW := inC_4 _ (List.mem_of_getElem? (i := 131) rfl) rfl
theorem wd_4_132 : Cond.instanceMethod yX11_session ∈ TW := inC_4 _ (List.mem_of_getElem? (i := 132) rfl) rfl
theorem wd_4_133 : Cond.selects RX11 yX11_session yX11_session ∈ TW := inC_4 _ (List.mem_of_getElem? (i := 133) rfl) rfl
theorem wd_4_134 : Cond.code yX11_session cX11_session 3 (some .int) ∈ TW := inC_4 _ (List.mem_of_getElem? (i := 134) rfl) rfl
theorem wd_4_135 : Cond.methodLink RX11 261 yX11_canBePresent ∈ TW := inC_4 _ (List.mem_of_getElem? (i := 135) rfl) rfl
theorem wd_4_136 : Cond.privateMethod yX11_canBePresent ∈ lw_tbl := inL_4 _ (List.mem_of_getElem? (i := 136) rfl)
theorem wd_4_137 : Cond.instanceMethod yX11_canBePresent ∈ TW := inC_4 _ (List.mem_of_getElem? (i := 137) rfl) rfl
theorem wd_4_138 : Cond.code yX11_canBePresent cX11_canBePresent 4 (some .boolean) ∈ TW := inC_4 _ (List.mem_of_getElem? (i := 138) rfl) rfl
theorem wd_4_139 : Cond.methodLink RX11 267 yX2_meet ∈ TW := inC_4 _ (List.mem_of_getElem? (i := 139) rfl) rfl
theorem wd_4_140 : Cond.instanceMethod yX2_meet ∈ TW := inC_4 _ (List.mem_of_getElem? (i := 140) rfl) rfl
theorem wd_4_141 : Cond.selects RX2 yX2_meet yX2_meet ∈ TW := inC_4 _ (List.mem_of_getElem? (i := 141) rfl) rfl
theorem wd_4_142 : Cond.code yX2_meet cX2_meet 4 (some .int) ∈ TW := inC_4 _ (List.mem_of_getElem? (i := 142) rfl) rfl
theorem wd_4_143 : Cond.methodLink RX2 51 yJ6_bitCount_0f7a4 ∈ TW := inC_4 _ (List.mem_of_getElem? (i := 143) rfl) rfl
theorem wd_4_144 : Cond.constant RX2 57 (1000000) ∈ TW := inC_4 _ (List.mem_of_getElem? (i := 144) rfl) rfl
theorem wd_4_145 : Cond.methodLink RL 103 yX11_vote ∈ TW := inC_4 _ (List.mem_of_getElem? (i := 145) rfl) rfl
theorem wd_4_146 : Cond.instanceMethod yX11_vote ∈ TW := inC_4 _ (List.mem_of_getElem? (i := 146) rfl) rfl
theorem wd_4_147 : Cond.selects RX11 yX11_vote yX11_vote ∈ TW := inC_4 _ (List.mem_of_getElem? (i := 147) rfl) rfl
theorem wd_4_148 : Cond.code yX11_vote cX11_vote 9 (some .int) ∈ TW := inC_4 _ (List.mem_of_getElem? (i := 148) rfl) rfl
theorem wd_4_149 : Cond.methodLink RX11 271 yX2_hasSession ∈ TW := inC_4 _ (List.mem_of_getElem? (i := 149) rfl) rfl
theorem wd_4_150 : Cond.instanceMethod yX2_hasSession ∈ TW := inC_4 _ (List.mem_of_getElem? (i := 150) rfl) rfl
theorem wd_4_151 : Cond.selects RX2 yX2_hasSession yX2_hasSession ∈ TW := inC_4 _ (List.mem_of_getElem? (i := 151) rfl) rfl
theorem wd_4_152 : Cond.code yX2_hasSession cX2_hasSession 2 (some .boolean) ∈ TW := inC_4 _ (List.mem_of_getElem? (i := 152) rfl) rfl
theorem wd_4_153 : Cond.methodLink RL 107 yX11_sessionOf ∈ TW := inC_4 _ (List.mem_of_getElem? (i := 153) rfl) rfl
theorem wd_4_154 : Cond.instanceMethod yX11_sessionOf ∈ TW := inC_4 _ (List.mem_of_getElem? (i := 154) rfl) rfl
theorem wd_4_155 : Cond.selects RX11 yX11_sessionOf yX11_sessionOf ∈ TW := inC_4 _ (List.mem_of_getElem? (i := 155) rfl) rfl
theorem wd_4_156 : Cond.code yX11_sessionOf cX11_sessionOf 3 (some .int) ∈ TW := inC_4 _ (List.mem_of_getElem? (i := 156) rfl) rfl
theorem wd_4_157 : Cond.methodLink RL 111 yX11_voids ∈ TW := inC_4 _ (List.mem_of_getElem? (i := 157) rfl) rfl
theorem wd_4_158 : Cond.instanceMethod yX11_voids ∈ TW := inC_4 _ (List.mem_of_getElem? (i := 158) rfl) rfl
theorem wd_4_159 : Cond.selects RX11 yX11_voids yX11_voids ∈ TW := inC_4 _ (List.mem_of_getElem? (i := 159) rfl) rfl
theorem wd_4_160 : Cond.code yX11_voids cX11_voids 2 (some .int) ∈ TW := inC_4 _ (List.mem_of_getElem? (i := 160) rfl) rfl
theorem wd_4_161 : Cond.methodLink RL 115 yX11_set ∈ TW := inC_4 _ (List.mem_of_getElem? (i := 161) rfl) rfl
theorem wd_4_162 : Cond.instanceMethod yX11_set ∈ TW := inC_4 _ (List.mem_of_getElem? (i := 162) rfl) rfl
theorem wd_4_163 : Cond.selects RX11 yX11_set yX11_set ∈ TW := inC_4 _ (List.mem_of_getElem? (i := 163) rfl) rfl
theorem wd_4_164 : Cond.code yX11_set cX11_set 5 (some .int) ∈ TW := inC_4 _ (List.mem_of_getElem? (i := 164) rfl) rfl
theorem wd_4_165 : Cond.fieldLink RX11 294 "WorksCouncil" "LEAST_SETTING" "[I" ∈ TW := inC_4 _ (List.mem_of_getElem? (i := 165) rfl) rfl
theorem wd_4_166 : Cond.laysStatic "WorksCouncil" "LEAST_SETTING" "[I" ∈ lw_tbl := inL_4 _ (List.mem_of_getElem? (i := 166) rfl)
theorem wd_4_167 : Cond.fieldLink RX11 297 "WorksCouncil" "MOST_SETTING" "[I" ∈ TW := inC_4 _ (List.mem_of_getElem? (i := 167) rfl) rfl
theorem wd_4_168 : Cond.laysStatic "WorksCouncil" "MOST_SETTING" "[I" ∈ lw_tbl := inL_4 _ (List.mem_of_getElem? (i := 168) rfl)
theorem wd_4_169 : Cond.methodLink RL 119 yX11_agree ∈ TW := inC_4 _ (List.mem_of_getElem? (i := 169) rfl) rfl
theorem wd_4_170 : Cond.instanceMethod yX11_agree ∈ TW := inC_4 _ (List.mem_of_getElem? (i := 170) rfl) rfl
theorem wd_4_171 : Cond.selects RX11 yX11_agree yX11_agree ∈ TW := inC_4 _ (List.mem_of_getElem? (i := 171) rfl) rfl
theorem wd_4_172 : Cond.code yX11_agree cX11_agree 6 (some .int) ∈ TW := inC_4 _ (List.mem_of_getElem? (i := 172) rfl) rfl
theorem wd_4_173 : Cond.methodLink RX11 300 yX1_isOf ∈ TW := inC_4 _ (List.mem_of_getElem? (i := 173) rfl) rfl
theorem wd_4_174 : Cond.instanceMethod yX1_isOf ∈ TW := inC_4 _ (List.mem_of_getElem? (i := 174) rfl) rfl
theorem wd_4_175 : Cond.selects RX1 yX1_isOf yX1_isOf ∈ TW := inC_4 _ (List.mem_of_getElem? (i := 175) rfl) rfl
theorem wd_4_176 : Cond.code yX1_isOf cX1_isOf 3 (some .boolean) ∈ TW := inC_4 _ (List.mem_of_getElem? (i := 176) rfl) rfl
theorem wd_4_177 : Cond.methodLink RX11 304 yX1_add ∈ TW := inC_4 _ (List.mem_of_getElem? (i := 177) rfl) rfl
theorem wd_4_178 : Cond.instanceMethod yX1_add ∈ TW := inC_4 _ (List.mem_of_getElem? (i := 178) rfl) rfl
theorem wd_4_179 : Cond.selects RX1 yX1_add yX1_add ∈ TW := inC_4 _ (List.mem_of_getElem? (i := 179) rfl) rfl
theorem wd_4_180 : Cond.code yX1_add cX1_add 6 (some .int) ∈ TW := inC_4 _ (List.mem_of_getElem? (i := 180) rfl) rfl
theorem wd_4_181 : Cond.methodLink RL 124 yX11_cancel ∈ TW := inC_4 _ (List.mem_of_getElem? (i := 181) rfl) rfl
theorem wd_4_182 : Cond.instanceMethod yX11_cancel ∈ TW := inC_4 _ (List.mem_of_getElem? (i := 182) rfl) rfl
theorem wd_4_183 : Cond.selects RX11 yX11_cancel yX11_cancel ∈ TW := inC_4 _ (List.mem_of_getElem? (i := 183) rfl) rfl
theorem wd_4_184 : Cond.code yX11_cancel cX11_cancel 2 (some .int) ∈ TW := inC_4 _ (List.mem_of_getElem? (i := 184) rfl) rfl
theorem wd_4_185 : Cond.methodLink RX11 305 yX1_has ∈ TW := inC_4 _ (List.mem_of_getElem? (i := 185) rfl) rfl
theorem wd_4_186 : Cond.instanceMethod yX1_has ∈ TW := inC_4 _ (List.mem_of_getElem? (i := 186) rfl) rfl
theorem wd_4_187 : Cond.selects RX1 yX1_has yX1_has ∈ TW := inC_4 _ (List.mem_of_getElem? (i := 187) rfl) rfl
theorem wd_4_188 : Cond.code yX1_has cX1_has 2 (some .boolean) ∈ TW := inC_4 _ (List.mem_of_getElem? (i := 188) rfl) rfl
theorem wd_4_189 : Cond.methodLink RX11 309 yX1_endBy ∈ TW := inC_4 _ (List.mem_of_getElem? (i := 189) rfl) rfl
theorem wd_4_190 : Cond.instanceMethod yX1_endBy ∈ TW := inC_4 _ (List.mem_of_getElem? (i := 190) rfl) rfl
theorem wd_4_191 : Cond.selects RX1 yX1_endBy yX1_endBy ∈ TW := inC_4 _ (List.mem_of_getElem? (i := 191) rfl) rfl
theorem wd_4_192 : Cond.code yX1_endBy cX1_endBy 3 (some .int) ∈ TW := inC_4 _ (List.mem_of_getElem? (i := 192) rfl) rfl
theorem wd_4_193 : Cond.methodLink RX1 44 yJ9_min_7cf53 ∈ TW := inC_4 _ (List.mem_of_getElem? (i := 193) rfl) rfl
theorem wd_4_194 : Cond.methodLink RL 128 yX11_agreementOf ∈ TW := inC_4 _ (List.mem_of_getElem? (i := 194) rfl) rfl
theorem wd_4_195 : Cond.instanceMethod yX11_agreementOf ∈ TW := inC_4 _ (List.mem_of_getElem? (i := 195) rfl) rfl
theorem wd_4_196 : Cond.selects RX11 yX11_agreementOf yX11_agreementOf ∈ TW := inC_4 _ (List.mem_of_getElem? (i := 196) rfl) rfl
theorem wd_4_197 : Cond.code yX11_agreementOf cX11_agreementOf 3 (some .int) ∈ TW := inC_4 _ (List.mem_of_getElem? (i := 197) rfl) rfl
theorem wd_4_198 : Cond.methodLink RX11 324 yX11_holds ∈ TW := inC_4 _ (List.mem_of_getElem? (i := 198) rfl) rfl
theorem wd_4_199 : Cond.privateMethod yX11_holds ∈ lw_tbl := inL_4 _ (List.mem_of_getElem? (i := 199) rfl)
theorem wd_4_200 : Cond.instanceMethod yX11_holds ∈ TW := inC_4 _ (List.mem_of_getElem? (i := 200) rfl) rfl
theorem wd_4_201 : Cond.code yX11_holds cX11_holds 3 (some .boolean) ∈ TW := inC_4 _ (List.mem_of_getElem? (i := 201) rfl) rfl
theorem wd_4_202 : Cond.methodLink RX11 467 yX5_lets ∈ TW := inC_4 _ (List.mem_of_getElem? (i := 202) rfl) rfl
theorem wd_4_203 : Cond.methodLink RL 132 yX11_contract ∈ TW := inC_4 _ (List.mem_of_getElem? (i := 203) rfl) rfl
theorem wd_4_204 : Cond.instanceMethod yX11_contract ∈ TW := inC_4 _ (List.mem_of_getElem? (i := 204) rfl) rfl
theorem wd_4_205 : Cond.selects RX11 yX11_contract yX11_contract ∈ TW := inC_4 _ (List.mem_of_getElem? (i := 205) rfl) rfl
theorem wd_4_206 : Cond.code yX11_contract cX11_contract 6 (some .int) ∈ TW := inC_4 _ (List.mem_of_getElem? (i := 206) rfl) rfl
theorem wd_4_207 : Cond.methodLink RX11 327 yX11_refuseFar ∈ TW := inC_4 _ (List.mem_of_getElem? (i := 207) rfl) rfl
theorem wd_4_208 : Cond.privateMethod yX11_refuseFar ∈ lw_tbl := inL_4 _ (List.mem_of_getElem? (i := 208) rfl)
theorem wd_4_209 : Cond.instanceMethod yX11_refuseFar ∈ TW := inC_4 _ (List.mem_of_getElem? (i := 209) rfl) rfl
theorem wd_4_210 : Cond.code yX11_refuseFar cX11_refuseFar 2 (some .int) ∈ TW := inC_4 _ (List.mem_of_getElem? (i := 210) rfl) rfl
theorem wd_4_211 : Cond.constant RX11 451 (1000000000) ∈ TW := inC_4 _ (List.mem_of_getElem? (i := 211) rfl) rfl
theorem wd_4_212 : Cond.methodLink RL 136 yX11_after ∈ TW := inC_4 _ (List.mem_of_getElem? (i := 212) rfl) rfl
theorem wd_4_213 : Cond.instanceMethod yX11_after ∈ TW := inC_4 _ (List.mem_of_getElem? (i := 213) rfl) rfl
theorem wd_4_214 : Cond.selects RX11 yX11_after yX11_after ∈ TW := inC_4 _ (List.mem_of_getElem? (i := 214) rfl) rfl
theorem wd_4_215 : Cond.code yX11_after cX11_after 4 (some .int) ∈ TW := inC_4 _ (List.mem_of_getElem? (i := 215) rfl) rfl
theorem wd_4_216 : Cond.methodLink RL 141 yX11_worth ∈ TW := inC_4 _ (List.mem_of_getElem? (i := 216) rfl) rfl
theorem wd_4_217 : Cond.instanceMethod yX11_worth ∈ TW := inC_4 _ (List.mem_of_getElem? (i := 217) rfl) rfl
theorem wd_4_218 : Cond.selects RX11 yX11_worth yX11_worth ∈ TW := inC_4 _ (List.mem_of_getElem? (i := 218) rfl) rfl
theorem wd_4_219 : Cond.code yX11_worth cX11_worth 7 (some .int) ∈ TW := inC_4 _ (List.mem_of_getElem? (i := 219) rfl) rfl
theorem wd_4_220 : Cond.methodLink RX11 339 yX11_agreementInForce ∈ TW := inC_4 _ (List.mem_of_getElem? (i := 220) rfl) rfl
theorem wd_4_221 : Cond.privateMethod yX11_agreementInForce ∈ lw_tbl := inL_4 _ (List.mem_of_getElem? (i := 221) rfl)
theorem wd_4_222 : Cond.instanceMethod yX11_agreementInForce ∈ TW := inC_4 _ (List.mem_of_getElem? (i := 222) rfl) rfl
theorem wd_4_223 : Cond.code yX11_agreementInForce cX11_agreementInForce 6 (some .int) ∈ TW := inC_4 _ (List.mem_of_getElem? (i := 223) rfl) rfl
theorem wd_4_224 : Cond.methodLink RX11 473 yX11_concerns ∈ TW := inC_4 _ (List.mem_of_getElem? (i := 224) rfl) rfl
theorem wd_4_225 : Cond.privateMethod yX11_concerns ∈ lw_tbl := inL_4 _ (List.mem_of_getElem? (i := 225) rfl)
theorem wd_4_226 : Cond.instanceMethod yX11_concerns ∈ TW := inC_4 _ (List.mem_of_getElem? (i := 226) rfl) rfl
theorem wd_4_227 : Cond.code yX11_concerns cX11_concerns 5 (some .boolean) ∈ TW := inC_4 _ (List.mem_of_getElem? (i := 227) rfl) rfl
theorem wd_4_228 : Cond.methodLink RX11 342 yX11_agreementEndedLast ∈ TW := inC_4 _ (List.mem_of_getElem? (i := 228) rfl) rfl
theorem wd_4_229 : Cond.privateMethod yX11_agreementEndedLast ∈ lw_tbl := inL_4 _ (List.mem_of_getElem? (i := 229) rfl)
theorem wd_4_230 : Cond.instanceMethod yX11_agreementEndedLast ∈ TW := inC_4 _ (List.mem_of_getElem? (i := 230) rfl) rfl
theorem wd_4_231 : Cond.code yX11_agreementEndedLast cX11_agreementEndedLast 7 (some .int) ∈ TW := inC_4 _ (List.mem_of_getElem? (i := 231) rfl) rfl
theorem wd_4_232 : Cond.methodLink RX11 345 yX1_worthBy ∈ TW := inC_4 _ (List.mem_of_getElem? (i := 232) rfl) rfl
theorem wd_4_233 : Cond.instanceMethod yX1_worthBy ∈ TW := inC_4 _ (List.mem_of_getElem? (i := 233) rfl) rfl
theorem wd_4_234 : Cond.selects RX1 yX1_worthBy yX1_worthBy ∈ TW := inC_4 _ (List.mem_of_getElem? (i := 234) rfl) rfl
theorem wd_4_235 : Cond.code yX1_worthBy cX1_worthBy 4 (some .int) ∈ TW := inC_4 _ (List.mem_of_getElem? (i := 235) rfl) rfl
theorem wd_4_236 : Cond.methodLink RX1 50 yX1_has ∈ TW := inC_4 _ (List.mem_of_getElem? (i := 236) rfl) rfl
theorem wd_4_237 : Cond.methodLink RX1 54 yJ9_max_7cf53 ∈ TW := inC_4 _ (List.mem_of_getElem? (i := 237) rfl) rfl
theorem wd_4_238 : Cond.methodLink RL 145 yX11_board ∈ TW := inC_4 _ (List.mem_of_getElem? (i := 238) rfl) rfl
theorem wd_4_239 : Cond.instanceMethod yX11_board ∈ TW := inC_4 _ (List.mem_of_getElem? (i := 239) rfl) rfl
theorem wd_5_0 : Cond.selects RX11 yX11_board yX11_board ∈ TW := inC_5 _ (List.mem_of_getElem? (i := 0) rfl) rfl
theorem wd_5_1 : Cond.code yX11_board cX11_board 9 (some .int) ∈ TW := inC_5 _ (List.mem_of_getElem? (i := 1) rfl) rfl
theorem wd_5_2 : Cond.methodLink RL 149 yX11_court ∈ TW := inC_5 _ (List.mem_of_getElem? (i := 2) rfl) rfl
theorem wd_5_3 : Cond.instanceMethod yX11_court ∈ TW := inC_5 _ (List.mem_of_getElem? (i := 3) rfl) rfl
theorem wd_5_4 : Cond.selects RX11 yX11_court yX11_court ∈ TW := inC_5 _ (List.mem_of_getElem? (i := 4) rfl) rfl
theorem wd_5_5 : Cond.code yX11_court cX11_court 3 (some .int) ∈ TW := inC_5 _ (List.mem_of_getElem? (i := 5) rfl) rfl
theorem wd_5_6 : Cond.methodLink RX11 348 yX5_lastRuling ∈ TW := inC_5 _ (List.mem_of_getElem? (i := 6) rfl) rfl
theorem wd_5_7 : Cond.methodLink RL 153 yX11_deed ∈ TW := inC_5 _ (List.mem_of_getElem? (i := 7) rfl) rfl
theorem wd_5_8 : Cond.instanceMethod yX11_deed ∈ TW := inC_5 _ (List.mem_of_getElem? (i := 8) rfl) rfl
theorem wd_5_9 : Cond.selects RX11 yX11_deed yX11_deed ∈ TW := inC_5 _ (List.mem_of_getElem? (i := 9) rfl) rfl
theorem wd_5_10 : Cond.code yX11_deed cX11_deed 7 (some .int) ∈ TW := inC_5 _ (List.mem_of_getElem? (i := 10) rfl) rfl
theorem wd_5_11 : Cond.methodLink RX11 355 yX4_add ∈ TW := inC_5 _ (List.mem_of_getElem? (i := 11) rfl) rfl
theorem wd_5_12 : Cond.instanceMethod yX4_add ∈ TW := inC_5 _ (List.mem_of_getElem? (i := 12) rfl) rfl
theorem wd_5_13 : Cond.selects RX4 yX4_add yX4_add ∈ TW := inC_5 _ (List.mem_of_getElem? (i := 13) rfl) rfl
theorem wd_5_14 : Cond.code yX4_add cX4_add 6 (some .int) ∈ TW := inC_5 _ (List.mem_of_getElem? (i := 14) rfl) rfl
theorem wd_5_15 : Cond.methodLink RL 157 yX11_deedOf ∈ TW := inC_5 _ (List.mem_of_getElem? (i := 15) rfl) rfl
theorem wd_5_16 : Cond.instanceMethod yX11_deedOf ∈ TW := inC_5 _ (List.mem_of_getElem? (i := 16) rfl) rfl
theorem wd_5_17 : Cond.selects RX11 yX11_deedOf yX11_deedOf ∈ TW := inC_5 _ (List.mem_of_getElem? (i := 17) rfl) rfl
theorem wd_5_18 : Cond.code yX11_deedOf cX11_deedOf 4 (some .int) ∈ TW := inC_5 _ (List.mem_of_getElem? (i := 18) rfl) rfl
theorem wd_5_19 : Cond.methodLink RX11 358 yX4_has ∈ TW := inC_5 _ (List.mem_of_getElem? (i := 19) rfl) rfl
theorem wd_5_20 : Cond.instanceMethod yX4_has ∈ TW := inC_5 _ (List.mem_of_getElem? (i := 20) rfl) rfl
theorem wd_5_21 : Cond.selects RX4 yX4_has yX4_has ∈ TW := inC_5 _ (List.mem_of_getElem? (i := 21) rfl) rfl
theorem wd_5_22 : Cond.code yX4_has cX4_has 2 (some .boolean) ∈ TW := inC_5 _ (List.mem_of_getElem? (i := 22) rfl) rfl
theorem wd_5_23 : Cond.methodLink RX11 361 yX11_voidSince ∈ TW := inC_5 _ (List.mem_of_getElem? (i := 23) rfl) rfl
theorem wd_5_24 : Cond.privateMethod yX11_voidSince ∈ lw_tbl := inL_5 _ (List.mem_of_getElem? (i := 24) rfl)
theorem wd_5_25 : Cond.instanceMethod yX11_voidSince ∈ TW := inC_5 _ (List.mem_of_getElem? (i := 25) rfl) rfl
theorem wd_5_26 : Cond.code yX11_voidSince cX11_voidSince 4 (some .int) ∈ TW := inC_5 _ (List.mem_of_getElem? (i := 26) rfl) rfl
theorem wd_5_27 : Cond.methodLink RX11 486 yX5_firstNotLetting ∈ TW := inC_5 _ (List.mem_of_getElem? (i := 27) rfl) rfl
theorem wd_5_28 : Cond.instanceMethod yX5_firstNotLetting ∈ TW := inC_5 _ (List.mem_of_getElem? (i := 28) rfl) rfl
theorem wd_5_29 : Cond.selects RX5 yX5_firstNotLetting yX5_firstNotLetting ∈ TW := inC_5 _ (List.mem_of_getElem? (i := 29) rfl) rfl
theorem wd_5_30 : Cond.code yX5_firstNotLetting cX5_firstNotLetting 5 (some .int) ∈ TW := inC_5 _ (List.mem_of_getElem? (i := 30) rfl) rfl
theorem wd_5_31 : Cond.methodLink RX5 104 yX5_nextTurn ∈ TW := inC_5 _ (List.mem_of_getElem? (i := 31) rfl) rfl
theorem wd_5_32 : Cond.privateMethod yX5_nextTurn ∈ lw_tbl := inL_5 _ (List.mem_of_getElem? (i := 32) rfl)
theorem wd_5_33 : Cond.instanceMethod yX5_nextTurn ∈ TW := inC_5 _ (List.mem_of_getElem? (i := 33) rfl) rfl
theorem wd_5_34 : Cond.code yX5_nextTurn cX5_nextTurn 4 (some .int) ∈ TW := inC_5 _ (List.mem_of_getElem? (i := 34) rfl) rfl
theorem wd_5_35 : Cond.constant RX5 108 (1000000) ∈ TW := inC_5 _ (List.mem_of_getElem? (i := 35) rfl) rfl
theorem wd_5_36 : Cond.methodLink RX5 109 yJ9_min_7cf53 ∈ TW := inC_5 _ (List.mem_of_getElem? (i := 36) rfl) rfl
theorem wd_5_37 : Cond.methodLink RX5 112 yX3_firstDayBeyond ∈ TW := inC_5 _ (List.mem_of_getElem? (i := 37) rfl) rfl
theorem wd_5_38 : Cond.instanceMethod yX3_firstDayBeyond ∈ TW := inC_5 _ (List.mem_of_getElem? (i := 38) rfl) rfl
theorem wd_5_39 : Cond.selects RX3 yX3_firstDayBeyond yX3_firstDayBeyond ∈ TW := inC_5 _ (List.mem_of_getElem? (i := 39) rfl) rfl
theorem wd_5_40 : Cond.code yX3_firstDayBeyond cX3_firstDayBeyond 4 (some .int) ∈ TW := inC_5 _ (List.mem_of_getElem? (i := 40) rfl) rfl
theorem wd_5_41 : Cond.constant RX3 23 (1000000) ∈ TW := inC_5 _ (List.mem_of_getElem? (i := 41) rfl) rfl
theorem wd_5_42 : Cond.methodLink RX11 364 yX4_hungSince ∈ TW := inC_5 _ (List.mem_of_getElem? (i := 42) rfl) rfl
theorem wd_5_43 : Cond.instanceMethod yX4_hungSince ∈ TW := inC_5 _ (List.mem_of_getElem? (i := 43) rfl) rfl
theorem wd_5_44 : Cond.selects RX4 yX4_hungSince yX4_hungSince ∈ TW := inC_5 _ (List.mem_of_getElem? (i := 44) rfl) rfl
theorem wd_5_45 : Cond.code yX4_hungSince cX4_hungSince 5 (some .int) ∈ TW := inC_5 _ (List.mem_of_getElem? (i := 45) rfl) rfl
theorem wd_5_46 : Cond.methodLink RL 161 yX11_hang ∈ TW := inC_5 _ (List.mem_of_getElem? (i := 46) rfl) rfl
theorem wd_5_47 : Cond.instanceMethod yX11_hang ∈ TW := inC_5 _ (List.mem_of_getElem? (i := 47) rfl) rfl
theorem wd_5_48 : Cond.selects RX11 yX11_hang yX11_hang ∈ TW := inC_5 _ (List.mem_of_getElem? (i := 48) rfl) rfl
theorem wd_5_49 : Cond.code yX11_hang cX11_hang 4 (some .int) ∈ TW := inC_5 _ (List.mem_of_getElem? (i := 49) rfl) rfl
theorem wd_5_50 : Cond.methodLink RX11 370 yX4_hangOn ∈ TW := inC_5 _ (List.mem_of_getElem? (i := 50) rfl) rfl
theorem wd_5_51 : Cond.instanceMethod yX4_hangOn ∈ TW := inC_5 _ (List.mem_of_getElem? (i := 51) rfl) rfl
theorem wd_5_52 : Cond.selects RX4 yX4_hangOn yX4_hangOn ∈ TW := inC_5 _ (List.mem_of_getElem? (i := 52) rfl) rfl
theorem wd_5_53 : Cond.code yX4_hangOn cX4_hangOn 6 (some .int) ∈ TW := inC_5 _ (List.mem_of_getElem? (i := 53) rfl) rfl
theorem wd_5_54 : Cond.methodLink RL 165 yX11_need ∈ TW := inC_5 _ (List.mem_of_getElem? (i := 54) rfl) rfl
theorem wd_5_55 : Cond.instanceMethod yX11_need ∈ TW := inC_5 _ (List.mem_of_getElem? (i := 55) rfl) rfl
theorem wd_5_56 : Cond.selects RX11 yX11_need yX11_need ∈ TW := inC_5 _ (List.mem_of_getElem? (i := 56) rfl) rfl
theorem wd_5_57 : Cond.code yX11_need cX11_need 5 (some .int) ∈ TW := inC_5 _ (List.mem_of_getElem? (i := 57) rfl) rfl
theorem wd_5_58 : Cond.methodLink RL 169 yX11_wish ∈ TW := inC_5 _ (List.mem_of_getElem? (i := 58) rfl) rfl
theorem wd_5_59 : Cond.instanceMethod yX11_wish ∈ TW := inC_5 _ (List.mem_of_getElem? (i := 59) rfl) rfl
theorem wd_5_60 : Cond.selects RX11 yX11_wish yX11_wish ∈ TW := inC_5 _ (List.mem_of_getElem? (i := 60) rfl) rfl
theorem wd_5_61 : Cond.code yX11_wish cX11_wish 5 (some .int) ∈ TW := inC_5 _ (List.mem_of_getElem? (i := 61) rfl) rfl
theorem wd_5_62 : Cond.methodLink RX11 376 yX9_wishesAgainst ∈ TW := inC_5 _ (List.mem_of_getElem? (i := 62) rfl) rfl
theorem wd_5_63 : Cond.instanceMethod yX9_wishesAgainst ∈ TW := inC_5 _ (List.mem_of_getElem? (i := 63) rfl) rfl
theorem wd_5_64 : Cond.selects RX9 yX9_wishesAgainst yX9_wishesAgainst ∈ TW := inC_5 _ (List.mem_of_getElem? (i := 64) rfl) rfl
theorem wd_5_65 : Cond.code yX9_wishesAgainst cX9_wishesAgainst 4 (some .boolean) ∈ TW := inC_5 _ (List.mem_of_getElem? (i := 65) rfl) rfl
theorem wd_5_66 : Cond.methodLink RX11 380 yX9_turnWish ∈ TW := inC_5 _ (List.mem_of_getElem? (i := 66) rfl) rfl
theorem wd_5_67 : Cond.instanceMethod yX9_turnWish ∈ TW := inC_5 _ (List.mem_of_getElem? (i := 67) rfl) rfl
theorem wd_5_68 : Cond.selects RX9 yX9_turnWish yX9_turnWish ∈ TW := inC_5 _ (List.mem_of_getElem? (i := 68) rfl) rfl
theorem wd_5_69 : Cond.code yX9_turnWish cX9_turnWish 4 none ∈ TW := inC_5 _ (List.mem_of_getElem? (i := 69) rfl) rfl
theorem wd_5_70 : Cond.methodLink RL 173 yX11_shifts ∈ TW := inC_5 _ (List.mem_of_getElem? (i := 70) rfl) rfl
theorem wd_5_71 : Cond.instanceMethod yX11_shifts ∈ TW := inC_5 _ (List.mem_of_getElem? (i := 71) rfl) rfl
theorem wd_5_72 : Cond.selects RX11 yX11_shifts yX11_shifts ∈ TW := inC_5 _ (List.mem_of_getElem? (i := 72) rfl) rfl
theorem wd_5_73 : Cond.code yX11_shifts cX11_shifts 3 (some .int) ∈ TW := inC_5 _ (List.mem_of_getElem? (i := 73) rfl) rfl
theorem wd_5_74 : Cond.methodLink RX11 384 yX11_bestShifts ∈ TW := inC_5 _ (List.mem_of_getElem? (i := 74) rfl) rfl
theorem wd_5_75 : Cond.privateMethod yX11_bestShifts ∈ lw_tbl := inL_5 _ (List.mem_of_getElem? (i := 75) rfl)
theorem wd_5_76 : Cond.instanceMethod yX11_bestShifts ∈ TW := inC_5 _ (List.mem_of_getElem? (i := 76) rfl) rfl
theorem wd_5_77 : Cond.code yX11_bestShifts cX11_bestShifts 3 (some .int) ∈ TW := inC_5 _ (List.mem_of_getElem? (i := 77) rfl) rfl
theorem wd_5_78 : Cond.methodLink RX11 489 yX8_fewestBroken ∈ TW := inC_5 _ (List.mem_of_getElem? (i := 78) rfl) rfl
theorem wd_5_79 : Cond.instanceMethod yX8_fewestBroken ∈ TW := inC_5 _ (List.mem_of_getElem? (i := 79) rfl) rfl
theorem wd_5_80 : Cond.selects RX8 yX8_fewestBroken yX8_fewestBroken ∈ TW := inC_5 _ (List.mem_of_getElem? (i := 80) rfl) rfl
theorem wd_5_81 : Cond.code yX8_fewestBroken cX8_fewestBroken 5 (some .int) ∈ TW := inC_5 _ (List.mem_of_getElem? (i := 81) rfl) rfl
theorem wd_5_82 : Cond.methodLink RX8 68 yX8_findTeam ∈ TW := inC_5 _ (List.mem_of_getElem? (i := 82) rfl) rfl
theorem wd_5_83 : Cond.privateMethod yX8_findTeam ∈ lw_tbl := inL_5 _ (List.mem_of_getElem? (i := 83) rfl)
theorem wd_5_84 : Cond.instanceMethod yX8_findTeam ∈ TW := inC_5 _ (List.mem_of_getElem? (i := 84) rfl) rfl
theorem wd_5_85 : Cond.code yX8_findTeam cX8_findTeam 5 (some .boolean) ∈ TW := inC_5 _ (List.mem_of_getElem? (i := 85) rfl) rfl
theorem wd_5_86 : Cond.methodLink RX8 72 yX8_listArrangements ∈ TW := inC_5 _ (List.mem_of_getElem? (i := 86) rfl) rfl
theorem wd_5_87 : Cond.privateMethod yX8_listArrangements ∈ lw_tbl := inL_5 _ (List.mem_of_getElem? (i := 87) rfl)
theorem wd_5_88 : Cond.instanceMethod yX8_listArrangements ∈ TW := inC_5 _ (List.mem_of_getElem? (i := 88) rfl) rfl
theorem wd_5_89 : Cond.code yX8_listArrangements cX8_listArrangements 2 none ∈ TW := inC_5 _ (List.mem_of_getElem? (i := 89) rfl) rfl
theorem wd_5_90 : Cond.methodLink RX8 104 yX8_meetsNeed ∈ TW := inC_5 _ (List.mem_of_getElem? (i := 90) rfl) rfl
theorem wd_5_91 : Cond.privateMethod yX8_meetsNeed ∈ lw_tbl := inL_5 _ (List.mem_of_getElem? (i := 91) rfl)
theorem wd_5_92 : Cond.instanceMethod yX8_meetsNeed ∈ TW := inC_5 _ (List.mem_of_getElem? (i := 92) rfl) rfl
theorem wd_5_93 : Cond.code yX8_meetsNeed cX8_meetsNeed 5 (some .boolean) ∈ TW := inC_5 _ (List.mem_of_getElem? (i := 93) rfl) rfl
theorem wd_5_94 : Cond.methodLink RX8 88 yX8_shiftIn ∈ TW := inC_5 _ (List.mem_of_getElem? (i := 94) rfl) rfl
theorem wd_5_95 : Cond.static yX8_shiftIn ∈ TW := inC_5 _ (List.mem_of_getElem? (i := 95) rfl) rfl
theorem wd_5_96 : Cond.code yX8_shiftIn cX8_shiftIn 2 (some .int) ∈ TW := inC_5 _ (List.mem_of_getElem? (i := 96) rfl) rfl
theorem wd_5_97 : Cond.methodLink RX8 108 yX8_markShifts ∈ TW := inC_5 _ (List.mem_of_getElem? (i := 97) rfl) rfl
theorem wd_5_98 : Cond.privateMethod yX8_markShifts ∈ lw_tbl := inL_5 _ (List.mem_of_getElem? (i := 98) rfl)
theorem wd_5_99 : Cond.instanceMethod yX8_markShifts ∈ TW := inC_5 _ (List.mem_of_getElem? (i := 99) rfl) rfl
theorem wd_5_100 : Cond.code yX8_markShifts cX8_markShifts 5 none ∈ TW := inC_5 _ (List.mem_of_getElem? (i := 100) rfl) rfl
theorem wd_5_101 : Cond.methodLink RX8 75 yX8_countBroken ∈ TW := inC_5 _ (List.mem_of_getElem? (i := 101) rfl) rfl
theorem wd_5_102 : Cond.privateMethod yX8_countBroken ∈ lw_tbl := inL_5 _ (List.mem_of_getElem? (i := 102) rfl)
theorem wd_5_103 : Cond.instanceMethod yX8_countBroken ∈ TW := inC_5 _ (List.mem_of_getElem? (i := 103) rfl) rfl
theorem wd_5_104 : Cond.code yX8_countBroken cX8_countBroken 5 none ∈ TW := inC_5 _ (List.mem_of_getElem? (i := 104) rfl) rfl
theorem wd_5_105 : Cond.methodLink RX8 112 yX8_brokenOn ∈ TW := inC_5 _ (List.mem_of_getElem? (i := 105) rfl) rfl
theorem wd_5_106 : Cond.privateMethod yX8_brokenOn ∈ lw_tbl := inL_5 _ (List.mem_of_getElem? (i := 106) rfl)
theorem wd_5_107 : Cond.instanceMethod yX8_brokenOn ∈ TW := inC_5 _ (List.mem_of_getElem? (i := 107) rfl) rfl
theorem wd_5_108 : Cond.code yX8_brokenOn cX8_brokenOn 7 (some .int) ∈ TW := inC_5 _ (List.mem_of_getElem? (i := 108) rfl) rfl
theorem wd_5_109 : Cond.methodLink RX8 121 yX9_wishesAgainst ∈ TW := inC_5 _ (List.mem_of_getElem? (i := 109) rfl) rfl
theorem wd_5_110 : Cond.methodLink RX8 116 yJ9_min_7cf53 ∈ TW := inC_5 _ (List.mem_of_getElem? (i := 110) rfl) rfl
theorem wd_5_111 : Cond.methodLink RX8 79 yX8_search ∈ TW := inC_5 _ (List.mem_of_getElem? (i := 111) rfl) rfl
theorem wd_5_112 : Cond.privateMethod yX8_search ∈ lw_tbl := inL_5 _ (List.mem_of_getElem? (i := 112) rfl)
theorem wd_5_113 : Cond.instanceMethod yX8_search ∈ TW := inC_5 _ (List.mem_of_getElem? (i := 113) rfl) rfl
theorem wd_5_114 : Cond.code yX8_search cX8_search 2 none ∈ TW := inC_5 _ (List.mem_of_getElem? (i := 114) rfl) rfl
theorem wd_5_115 : Cond.constantLong RX8 125 (-1) ∈ TW := inC_5 _ (List.mem_of_getElem? (i := 115) rfl) rfl
theorem wd_5_116 : Cond.methodLink RX8 127 yX8_searchFrom ∈ TW := inC_5 _ (List.mem_of_getElem? (i := 116) rfl) rfl
theorem wd_5_117 : Cond.privateMethod yX8_searchFrom ∈ lw_tbl := inL_5 _ (List.mem_of_getElem? (i := 117) rfl)
theorem wd_5_118 : Cond.instanceMethod yX8_searchFrom ∈ TW := inC_5 _ (List.mem_of_getElem? (i := 118) rfl) rfl
theorem wd_5_119 : Cond.code yX8_searchFrom cX8_searchFrom 5 none ∈ TW := inC_5 _ (List.mem_of_getElem? (i := 119) rfl) rfl
theorem wd_5_120 : Cond.methodLink RX8 131 yX8_keepChosen ∈ TW := inC_5 _ (List.mem_of_getElem? (i := 120) rfl) rfl
theorem wd_5_121 : Cond.privateMethod yX8_keepChosen ∈ lw_tbl := inL_5 _ (List.mem_of_getElem? (i := 121) rfl)
theorem wd_5_122 : Cond.instanceMethod yX8_keepChosen ∈ TW := inC_5 _ (List.mem_of_getElem? (i := 122) rfl) rfl
theorem wd_5_123 : Cond.code yX8_keepChosen cX8_keepChosen 3 none ∈ TW := inC_5 _ (List.mem_of_getElem? (i := 123) rfl) rfl
theorem wd_5_124 : Cond.constantLong RX8 135 (4) ∈ TW := inC_5 _ (List.mem_of_getElem? (i := 124) rfl) rfl
theorem wd_5_125 : Cond.methodLink RX8 137 yX8_isSeen ∈ TW := inC_5 _ (List.mem_of_getElem? (i := 125) rfl) rfl
theorem wd_5_126 : Cond.privateMethod yX8_isSeen ∈ lw_tbl := inL_5 _ (List.mem_of_getElem? (i := 126) rfl)
theorem wd_5_127 : Cond.instanceMethod yX8_isSeen ∈ TW := inC_5 _ (List.mem_of_getElem? (i := 127) rfl) rfl
theorem wd_5_128 : Cond.code yX8_isSeen cX8_isSeen 6 (some .boolean) ∈ TW := inC_5 _ (List.mem_of_getElem? (i := 128) rfl) rfl
theorem wd_5_129 : Cond.constantLong RX8 158 (-7046029254386353131) ∈ TW := inC_5 _ (List.mem_of_getElem? (i := 129) rfl) rfl
theorem wd_5_130 : Cond.constantLong RX8 160 (1023) ∈ TW := inC_5 _ (List.mem_of_getElem? (i := 130) rfl) rfl
theorem wd_5_131 : Cond.methodLink RX8 141 yX8_searchOn ∈ TW := inC_5 _ (List.mem_of_getElem? (i := 131) rfl) rfl
theorem wd_5_132 : Cond.privateMethod yX8_searchOn ∈ lw_tbl := inL_5 _ (List.mem_of_getElem? (i := 132) rfl)
theorem wd_5_133 : Cond.instanceMethod yX8_searchOn ∈ TW := inC_5 _ (List.mem_of_getElem? (i := 133) rfl) rfl
theorem wd_5_134 : Cond.code yX8_searchOn cX8_searchOn 8 none ∈ TW := inC_5 _ (List.mem_of_getElem? (i := 134) rfl) rfl
theorem wd_5_135 : Cond.methodLink RX8 144 yX8_countedBy ∈ TW := inC_5 _ (List.mem_of_getElem? (i := 135) rfl) rfl
theorem wd_5_136 : Cond.privateMethod yX8_countedBy ∈ lw_tbl := inL_5 _ (List.mem_of_getElem? (i := 136) rfl)
theorem wd_5_137 : Cond.instanceMethod yX8_countedBy ∈ TW := inC_5 _ (List.mem_of_getElem? (i := 137) rfl) rfl
theorem wd_5_138 : Cond.code yX8_countedBy cX8_countedBy 3 (some .int) ∈ TW := inC_5 _ (List.mem_of_getElem? (i := 138) rfl) rfl
theorem wd_5_139 : Cond.methodLink RX8 148 yX8_hasTooMany ∈ TW := inC_5 _ (List.mem_of_getElem? (i := 139) rfl) rfl
theorem wd_5_140 : Cond.privateMethod yX8_hasTooMany ∈ lw_tbl := inL_5 _ (List.mem_of_getElem? (i := 140) rfl)
theorem wd_5_141 : Cond.instanceMethod yX8_hasTooMany ∈ TW := inC_5 _ (List.mem_of_getElem? (i := 141) rfl) rfl
theorem wd_5_142 : Cond.code yX8_hasTooMany cX8_hasTooMany 3 (some .boolean) ∈ TW := inC_5 _ (List.mem_of_getElem? (i := 142) rfl) rfl
theorem wd_5_143 : Cond.methodLink RX8 151 yX8_isUnfair ∈ TW := inC_5 _ (List.mem_of_getElem? (i := 143) rfl) rfl
theorem wd_5_144 : Cond.static yX8_isUnfair ∈ TW := inC_5 _ (List.mem_of_getElem? (i := 144) rfl) rfl
theorem wd_5_145 : Cond.code yX8_isUnfair cX8_isUnfair 6 (some .boolean) ∈ TW := inC_5 _ (List.mem_of_getElem? (i := 145) rfl) rfl
theorem wd_5_146 : Cond.methodLink RX8 155 yJ9_max_7cf53 ∈ TW := inC_5 _ (List.mem_of_getElem? (i := 146) rfl) rfl
theorem wd_5_147 : Cond.methodLink RL 177 yX11_shiftOf ∈ TW := inC_5 _ (List.mem_of_getElem? (i := 147) rfl) rfl
theorem wd_5_148 : Cond.instanceMethod yX11_shiftOf ∈ TW := inC_5 _ (List.mem_of_getElem? (i := 148) rfl) rfl
theorem wd_5_149 : Cond.selects RX11 yX11_shiftOf yX11_shiftOf ∈ TW := inC_5 _ (List.mem_of_getElem? (i := 149) rfl) rfl
theorem wd_5_150 : Cond.code yX11_shiftOf cX11_shiftOf 5 (some .int) ∈ TW := inC_5 _ (List.mem_of_getElem? (i := 150) rfl) rfl
theorem wd_5_151 : Cond.methodLink RX11 387 yX8_bestShift ∈ TW := inC_5 _ (List.mem_of_getElem? (i := 151) rfl) rfl
theorem wd_5_152 : Cond.instanceMethod yX8_bestShift ∈ TW := inC_5 _ (List.mem_of_getElem? (i := 152) rfl) rfl
theorem wd_5_153 : Cond.selects RX8 yX8_bestShift yX8_bestShift ∈ TW := inC_5 _ (List.mem_of_getElem? (i := 153) rfl) rfl
theorem wd_5_154 : Cond.code yX8_bestShift cX8_bestShift 4 (some .int) ∈ TW := inC_5 _ (List.mem_of_getElem? (i := 154) rfl) rfl
theorem wd_5_155 : Cond.methodLink RL 181 yX11_bars ∈ TW := inC_5 _ (List.mem_of_getElem? (i := 155) rfl) rfl
theorem wd_5_156 : Cond.instanceMethod yX11_bars ∈ TW := inC_5 _ (List.mem_of_getElem? (i := 156) rfl) rfl
theorem wd_5_157 : Cond.selects RX11 yX11_bars yX11_bars ∈ TW := inC_5 _ (List.mem_of_getElem? (i := 157) rfl) rfl
theorem wd_5_158 : Cond.code yX11_bars cX11_bars 3 (some .int) ∈ TW := inC_5 _ (List.mem_of_getElem? (i := 158) rfl) rfl
theorem wd_5_159 : Cond.methodLink RX11 393 yX8_canBe ∈ TW := inC_5 _ (List.mem_of_getElem? (i := 159) rfl) rfl
theorem wd_5_160 : Cond.instanceMethod yX8_canBe ∈ TW := inC_5 _ (List.mem_of_getElem? (i := 160) rfl) rfl
theorem wd_5_161 : Cond.selects RX8 yX8_canBe yX8_canBe ∈ TW := inC_5 _ (List.mem_of_getElem? (i := 161) rfl) rfl
theorem wd_5_162 : Cond.code yX8_canBe cX8_canBe 3 (some .boolean) ∈ TW := inC_5 _ (List.mem_of_getElem? (i := 162) rfl) rfl
theorem wd_5_163 : Cond.methodLink RX8 82 yX8_forget ∈ TW := inC_5 _ (List.mem_of_getElem? (i := 163) rfl) rfl
theorem wd_5_164 : Cond.methodLink RX8 85 yX8_countNoneBroken ∈ TW := inC_5 _ (List.mem_of_getElem? (i := 164) rfl) rfl
theorem wd_5_165 : Cond.privateMethod yX8_countNoneBroken ∈ lw_tbl := inL_5 _ (List.mem_of_getElem? (i := 165) rfl)
theorem wd_5_166 : Cond.instanceMethod yX8_countNoneBroken ∈ TW := inC_5 _ (List.mem_of_getElem? (i := 166) rfl) rfl
theorem wd_5_167 : Cond.code yX8_countNoneBroken cX8_countNoneBroken 3 none ∈ TW := inC_5 _ (List.mem_of_getElem? (i := 167) rfl) rfl
theorem wd_5_168 : Cond.fieldLink RX11 396 "WorksCouncil" "RULES_BY_SIZE" "[I" ∈ TW := inC_5 _ (List.mem_of_getElem? (i := 168) rfl) rfl
theorem wd_5_169 : Cond.laysStatic "WorksCouncil" "RULES_BY_SIZE" "[I" ∈ lw_tbl := inL_5 _ (List.mem_of_getElem? (i := 169) rfl)
theorem wd_5_170 : Cond.methodLink RL 185 yX11_study ∈ TW := inC_5 _ (List.mem_of_getElem? (i := 170) rfl) rfl
theorem wd_5_171 : Cond.instanceMethod yX11_study ∈ TW := inC_5 _ (List.mem_of_getElem? (i := 171) rfl) rfl
theorem wd_5_172 : Cond.selects RX11 yX11_study yX11_study ∈ TW := inC_5 _ (List.mem_of_getElem? (i := 172) rfl) rfl
theorem wd_5_173 : Cond.code yX11_study cX11_study 4 (some .int) ∈ TW := inC_5 _ (List.mem_of_getElem? (i := 173) rfl) rfl
theorem wd_5_174 : Cond.methodLink RX11 402 yX10_add ∈ TW := inC_5 _ (List.mem_of_getElem? (i := 174) rfl) rfl
theorem wd_5_175 : Cond.instanceMethod yX10_add ∈ TW := inC_5 _ (List.mem_of_getElem? (i := 175) rfl) rfl
theorem wd_5_176 : Cond.selects RX10 yX10_add yX10_add ∈ TW := inC_5 _ (List.mem_of_getElem? (i := 176) rfl) rfl
theorem wd_5_177 : Cond.code yX10_add cX10_add 4 (some .int) ∈ TW := inC_5 _ (List.mem_of_getElem? (i := 177) rfl) rfl
theorem wd_5_178 : Cond.methodLink RL 189 yX11_time ∈ TW := inC_5 _ (List.mem_of_getElem? (i := 178) rfl) rfl
theorem wd_5_179 : Cond.instanceMethod yX11_time ∈ TW := inC_5 _ (List.mem_of_getElem? (i := 179) rfl) rfl
theorem wd_5_180 : Cond.selects RX11 yX11_time yX11_time ∈ TW := inC_5 _ (List.mem_of_getElem? (i := 180) rfl) rfl
theorem wd_5_181 : Cond.code yX11_time cX11_time 4 (some .int) ∈ TW := inC_5 _ (List.mem_of_getElem? (i := 181) rfl) rfl
theorem wd_5_182 : Cond.methodLink RX11 404 yX10_timeOn ∈ TW := inC_5 _ (List.mem_of_getElem? (i := 182) rfl) rfl
theorem wd_5_183 : Cond.instanceMethod yX10_timeOn ∈ TW := inC_5 _ (List.mem_of_getElem? (i := 183) rfl) rfl
theorem wd_5_184 : Cond.selects RX10 yX10_timeOn yX10_timeOn ∈ TW := inC_5 _ (List.mem_of_getElem? (i := 184) rfl) rfl
theorem wd_5_185 : Cond.code yX10_timeOn cX10_timeOn 8 (some .int) ∈ TW := inC_5 _ (List.mem_of_getElem? (i := 185) rfl) rfl
theorem wd_5_186 : Cond.constant RX10 23 (1000000) ∈ TW := inC_5 _ (List.mem_of_getElem? (i := 186) rfl) rfl
theorem wd_5_187 : Cond.methodLink RX10 24 yJ9_min_7cf53 ∈ TW := inC_5 _ (List.mem_of_getElem? (i := 187) rfl) rfl
theorem wd_5_188 : Cond.methodLink RX10 30 yJ9_max_7cf53 ∈ TW := inC_5 _ (List.mem_of_getElem? (i := 188) rfl) rfl
theorem wd_5_189 : Cond.methodLink RL 193 yX11_changed ∈ TW := inC_5 _ (List.mem_of_getElem? (i := 189) rfl) rfl
theorem wd_5_190 : Cond.instanceMethod yX11_changed ∈ TW := inC_5 _ (List.mem_of_getElem? (i := 190) rfl) rfl
theorem wd_5_191 : Cond.selects RX11 yX11_changed yX11_changed ∈ TW := inC_5 _ (List.mem_of_getElem? (i := 191) rfl) rfl
theorem wd_5_192 : Cond.code yX11_changed cX11_changed 6 (some .int) ∈ TW := inC_5 _ (List.mem_of_getElem? (i := 192) rfl) rfl
theorem wd_5_193 : Cond.methodLink RX11 407 yJ9_abs_0f7a4 ∈ TW := inC_5 _ (List.mem_of_getElem? (i := 193) rfl) rfl
theorem wd_5_194 : Cond.static yJ9_abs_0f7a4 ∈ TW := inC_5 _ (List.mem_of_getElem? (i := 194) rfl) rfl
theorem wd_5_195 : Cond.code yJ9_abs_0f7a4 cJ9_abs_0f7a4 1 (some .int) ∈ TW := inC_5 _ (List.mem_of_getElem? (i := 195) rfl) rfl
theorem wd_5_196 : Cond.methodLink RL 197 yX11_weight ∈ TW := inC_5 _ (List.mem_of_getElem? (i := 196) rfl) rfl
theorem wd_5_197 : Cond.instanceMethod yX11_weight ∈ TW := inC_5 _ (List.mem_of_getElem? (i := 197) rfl) rfl
theorem wd_5_198 : Cond.selects RX11 yX11_weight yX11_weight ∈ TW := inC_5 _ (List.mem_of_getElem? (i := 198) rfl) rfl
theorem wd_5_199 : Cond.code yX11_weight cX11_weight 5 (some .int) ∈ TW := inC_5 _ (List.mem_of_getElem? (i := 199) rfl) rfl
theorem wd_5_200 : Cond.methodLink RL 201 yX11_list ∈ TW := inC_5 _ (List.mem_of_getElem? (i := 200) rfl) rfl
theorem wd_5_201 : Cond.instanceMethod yX11_list ∈ TW := inC_5 _ (List.mem_of_getElem? (i := 201) rfl) rfl
theorem wd_5_202 : Cond.selects RX11 yX11_list yX11_list ∈ TW := inC_5 _ (List.mem_of_getElem? (i := 202) rfl) rfl
theorem wd_5_203 : Cond.code yX11_list cX11_list 1 (some .int) ∈ TW := inC_5 _ (List.mem_of_getElem? (i := 203) rfl) rfl
theorem wd_5_204 : Cond.methodLink RX11 415 yX9_tellList ∈ TW := inC_5 _ (List.mem_of_getElem? (i := 204) rfl) rfl
theorem wd_5_205 : Cond.instanceMethod yX9_tellList ∈ TW := inC_5 _ (List.mem_of_getElem? (i := 205) rfl) rfl
theorem wd_5_206 : Cond.selects RX9 yX9_tellList yX9_tellList ∈ TW := inC_5 _ (List.mem_of_getElem? (i := 206) rfl) rfl
theorem wd_5_207 : Cond.code yX9_tellList cX9_tellList 3 none ∈ TW := inC_5 _ (List.mem_of_getElem? (i := 207) rfl) rfl
theorem wd_5_208 : Cond.methodLink RL 206 yX11_right ∈ TW := inC_5 _ (List.mem_of_getElem? (i := 208) rfl) rfl
theorem wd_5_209 : Cond.instanceMethod yX11_right ∈ TW := inC_5 _ (List.mem_of_getElem? (i := 209) rfl) rfl
theorem wd_5_210 : Cond.selects RX11 yX11_right yX11_right ∈ TW := inC_5 _ (List.mem_of_getElem? (i := 210) rfl) rfl
theorem wd_5_211 : Cond.code yX11_right cX11_right 6 (some .int) ∈ TW := inC_5 _ (List.mem_of_getElem? (i := 211) rfl) rfl
theorem wd_5_212 : Cond.methodLink RX11 422 yX9_rightChildren ∈ TW := inC_5 _ (List.mem_of_getElem? (i := 212) rfl) rfl
theorem wd_5_213 : Cond.instanceMethod yX9_rightChildren ∈ TW := inC_5 _ (List.mem_of_getElem? (i := 213) rfl) rfl
theorem wd_5_214 : Cond.selects RX9 yX9_rightChildren yX9_rightChildren ∈ TW := inC_5 _ (List.mem_of_getElem? (i := 214) rfl) rfl
theorem wd_5_215 : Cond.code yX9_rightChildren cX9_rightChildren 5 (some .int) ∈ TW := inC_5 _ (List.mem_of_getElem? (i := 215) rfl) rfl
theorem wd_5_216 : Cond.methodLink RX11 425 yX9_rightHurt ∈ TW := inC_5 _ (List.mem_of_getElem? (i := 216) rfl) rfl
theorem wd_5_217 : Cond.instanceMethod yX9_rightHurt ∈ TW := inC_5 _ (List.mem_of_getElem? (i := 217) rfl) rfl
theorem wd_5_218 : Cond.selects RX9 yX9_rightHurt yX9_rightHurt ∈ TW := inC_5 _ (List.mem_of_getElem? (i := 218) rfl) rfl
theorem wd_5_219 : Cond.code yX9_rightHurt cX9_rightHurt 5 (some .int) ∈ TW := inC_5 _ (List.mem_of_getElem? (i := 219) rfl) rfl
theorem wd_5_220 : Cond.methodLink RL 210 yX11_points ∈ TW := inC_5 _ (List.mem_of_getElem? (i := 220) rfl) rfl
theorem wd_5_221 : Cond.instanceMethod yX11_points ∈ TW := inC_5 _ (List.mem_of_getElem? (i := 221) rfl) rfl
theorem wd_5_222 : Cond.selects RX11 yX11_points yX11_points ∈ TW := inC_5 _ (List.mem_of_getElem? (i := 222) rfl) rfl
theorem wd_5_223 : Cond.code yX11_points cX11_points 2 (some .int) ∈ TW := inC_5 _ (List.mem_of_getElem? (i := 223) rfl) rfl
theorem wd_5_224 : Cond.methodLink RX11 428 yX9_pointsOf ∈ TW := inC_5 _ (List.mem_of_getElem? (i := 224) rfl) rfl
theorem wd_5_225 : Cond.instanceMethod yX9_pointsOf ∈ TW := inC_5 _ (List.mem_of_getElem? (i := 225) rfl) rfl
theorem wd_5_226 : Cond.selects RX9 yX9_pointsOf yX9_pointsOf ∈ TW := inC_5 _ (List.mem_of_getElem? (i := 226) rfl) rfl
theorem wd_5_227 : Cond.code yX9_pointsOf cX9_pointsOf 4 (some .int) ∈ TW := inC_5 _ (List.mem_of_getElem? (i := 227) rfl) rfl
theorem wd_5_228 : Cond.methodLink RL 214 yX11_goes ∈ TW := inC_5 _ (List.mem_of_getElem? (i := 228) rfl) rfl
theorem wd_5_229 : Cond.instanceMethod yX11_goes ∈ TW := inC_5 _ (List.mem_of_getElem? (i := 229) rfl) rfl
theorem wd_5_230 : Cond.selects RX11 yX11_goes yX11_goes ∈ TW := inC_5 _ (List.mem_of_getElem? (i := 230) rfl) rfl
theorem wd_5_231 : Cond.code yX11_goes cX11_goes 5 (some .int) ∈ TW := inC_5 _ (List.mem_of_getElem? (i := 231) rfl) rfl
theorem wd_5_232 : Cond.methodLink RX11 431 yX9_goingAt ∈ TW := inC_5 _ (List.mem_of_getElem? (i := 232) rfl) rfl
theorem wd_5_233 : Cond.instanceMethod yX9_goingAt ∈ TW := inC_5 _ (List.mem_of_getElem? (i := 233) rfl) rfl
theorem wd_5_234 : Cond.selects RX9 yX9_goingAt yX9_goingAt ∈ TW := inC_5 _ (List.mem_of_getElem? (i := 234) rfl) rfl
theorem wd_5_235 : Cond.code yX9_goingAt cX9_goingAt 5 (some .int) ∈ TW := inC_5 _ (List.mem_of_getElem? (i := 235) rfl) rfl
theorem wd_5_236 : Cond.methodLink RX9 50 yX9_countAhead ∈ TW := inC_5 _ (List.mem_of_getElem? (i := 236) rfl) rfl
theorem wd_5_237 : Cond.privateMethod yX9_countAhead ∈ lw_tbl := inL_5 _ (List.mem_of_getElem? (i := 237) rfl)
theorem wd_5_238 : Cond.instanceMethod yX9_countAhead ∈ TW := inC_5 _ (List.mem_of_getElem? (i := 238) rfl) rfl
theorem wd_5_239 : Cond.code yX9_countAhead cX9_countAhead 5 (some .int) ∈ TW := inC_5 _ (List.mem_of_getElem? (i := 239) rfl) rfl
theorem wd_6_0 : Cond.methodLink RX9 54 yX9_goesAhead ∈ TW := inC_6 _ (List.mem_of_getElem? (i := 0) rfl) rfl
theorem wd_6_1 : Cond.privateMethod yX9_goesAhead ∈ lw_tbl := inL_6 _ (List.mem_of_getElem? (i := 1) rfl)
theorem wd_6_2 : Cond.instanceMethod yX9_goesAhead ∈ TW := inC_6 _ (List.mem_of_getElem? (i := 2) rfl) rfl
theorem wd_6_3 : Cond.code yX9_goesAhead cX9_goesAhead 5 (some .boolean) ∈ TW := inC_6 _ (List.mem_of_getElem? (i := 3) rfl) rfl
theorem wd_6_4 : Cond.methodLink RX9 58 yX9_pointsOf ∈ TW := inC_6 _ (List.mem_of_getElem? (i := 4) rfl) rfl
theorem wd_6_5 : Cond.methodLink RL 218 yX11_planned ∈ TW := inC_6 _ (List.mem_of_getElem? (i := 5) rfl) rfl
theorem wd_6_6 : Cond.instanceMethod yX11_planned ∈ TW := inC_6 _ (List.mem_of_getElem? (i := 6) rfl) rfl
theorem wd_6_7 : Cond.selects RX11 yX11_planned yX11_planned ∈ TW := inC_6 _ (List.mem_of_getElem? (i := 7) rfl) rfl
theorem wd_6_8 : Cond.code yX11_planned cX11_planned 4 (some .int) ∈ TW := inC_6 _ (List.mem_of_getElem? (i := 8) rfl) rfl
theorem wd_6_9 : Cond.methodLink RX11 435 yX6_add ∈ TW := inC_6 _ (List.mem_of_getElem? (i := 9) rfl) rfl
theorem wd_6_10 : Cond.instanceMethod yX6_add ∈ TW := inC_6 _ (List.mem_of_getElem? (i := 10) rfl) rfl
theorem wd_6_11 : Cond.selects RX6 yX6_add yX6_add ∈ TW := inC_6 _ (List.mem_of_getElem? (i := 11) rfl) rfl
theorem wd_6_12 : Cond.code yX6_add cX6_add 4 (some .int) ∈ TW := inC_6 _ (List.mem_of_getElem? (i := 12) rfl) rfl
theorem wd_6_13 : Cond.methodLink RL 222 yX11_plan ∈ TW := inC_6 _ (List.mem_of_getElem? (i := 13) rfl) rfl
theorem wd_6_14 : Cond.instanceMethod yX11_plan ∈ TW := inC_6 _ (List.mem_of_getElem? (i := 14) rfl) rfl
theorem wd_6_15 : Cond.selects RX11 yX11_plan yX11_plan ∈ TW := inC_6 _ (List.mem_of_getElem? (i := 15) rfl) rfl
theorem wd_6_16 : Cond.code yX11_plan cX11_plan 1 (some .int) ∈ TW := inC_6 _ (List.mem_of_getElem? (i := 16) rfl) rfl
theorem wd_6_17 : Cond.methodLink RX11 436 yX6_leastLate ∈ TW := inC_6 _ (List.mem_of_getElem? (i := 17) rfl) rfl
theorem wd_6_18 : Cond.instanceMethod yX6_leastLate ∈ TW := inC_6 _ (List.mem_of_getElem? (i := 18) rfl) rfl
theorem wd_6_19 : Cond.selects RX6 yX6_leastLate yX6_leastLate ∈ TW := inC_6 _ (List.mem_of_getElem? (i := 19) rfl) rfl
theorem wd_6_20 : Cond.code yX6_leastLate cX6_leastLate 3 (some .int) ∈ TW := inC_6 _ (List.mem_of_getElem? (i := 20) rfl) rfl
theorem wd_6_21 : Cond.methodLink RX6 40 yX6_settleFrom ∈ TW := inC_6 _ (List.mem_of_getElem? (i := 21) rfl) rfl
theorem wd_6_22 : Cond.privateMethod yX6_settleFrom ∈ lw_tbl := inL_6 _ (List.mem_of_getElem? (i := 22) rfl)
theorem wd_6_23 : Cond.instanceMethod yX6_settleFrom ∈ TW := inC_6 _ (List.mem_of_getElem? (i := 23) rfl) rfl
theorem wd_6_24 : Cond.code yX6_settleFrom cX6_settleFrom 3 none ∈ TW := inC_6 _ (List.mem_of_getElem? (i := 24) rfl) rfl
theorem wd_6_25 : Cond.methodLink RX6 44 yX6_leastLateFrom ∈ TW := inC_6 _ (List.mem_of_getElem? (i := 25) rfl) rfl
theorem wd_6_26 : Cond.privateMethod yX6_leastLateFrom ∈ lw_tbl := inL_6 _ (List.mem_of_getElem? (i := 26) rfl)
theorem wd_6_27 : Cond.instanceMethod yX6_leastLateFrom ∈ TW := inC_6 _ (List.mem_of_getElem? (i := 27) rfl) rfl
theorem wd_6_28 : Cond.code yX6_leastLateFrom cX6_leastLateFrom 5 (some .int) ∈ TW := inC_6 _ (List.mem_of_getElem? (i := 28) rfl) rfl
theorem wd_6_29 : Cond.methodLink RX6 55 yX6_firstPlace ∈ TW := inC_6 _ (List.mem_of_getElem? (i := 29) rfl) rfl
theorem wd_6_30 : Cond.privateMethod yX6_firstPlace ∈ lw_tbl := inL_6 _ (List.mem_of_getElem? (i := 30) rfl)
theorem wd_6_31 : Cond.instanceMethod yX6_firstPlace ∈ TW := inC_6 _ (List.mem_of_getElem? (i := 31) rfl) rfl
theorem wd_6_32 : Cond.code yX6_firstPlace cX6_firstPlace 4 (some .int) ∈ TW := inC_6 _ (List.mem_of_getElem? (i := 32) rfl) rfl
theorem wd_6_33 : Cond.methodLink RX6 58 yJ9_max_7cf53 ∈ TW := inC_6 _ (List.mem_of_getElem? (i := 33) rfl) rfl
theorem wd_6_34 : Cond.methodLink RX6 48 yX6_keepPlaces ∈ TW := inC_6 _ (List.mem_of_getElem? (i := 34) rfl) rfl
theorem wd_6_35 : Cond.privateMethod yX6_keepPlaces ∈ lw_tbl := inL_6 _ (List.mem_of_getElem? (i := 35) rfl)
theorem wd_6_36 : Cond.instanceMethod yX6_keepPlaces ∈ TW := inC_6 _ (List.mem_of_getElem? (i := 36) rfl) rfl
theorem wd_6_37 : Cond.code yX6_keepPlaces cX6_keepPlaces 3 none ∈ TW := inC_6 _ (List.mem_of_getElem? (i := 37) rfl) rfl
theorem wd_6_38 : Cond.methodLink RX6 52 yX6_settleOn ∈ TW := inC_6 _ (List.mem_of_getElem? (i := 38) rfl) rfl
theorem wd_6_39 : Cond.privateMethod yX6_settleOn ∈ lw_tbl := inL_6 _ (List.mem_of_getElem? (i := 39) rfl)
theorem wd_6_40 : Cond.instanceMethod yX6_settleOn ∈ TW := inC_6 _ (List.mem_of_getElem? (i := 40) rfl) rfl
theorem wd_6_41 : Cond.code yX6_settleOn cX6_settleOn 4 none ∈ TW := inC_6 _ (List.mem_of_getElem? (i := 41) rfl) rfl
theorem wd_6_42 : Cond.methodLink RL 226 yX11_placeOf ∈ TW := inC_6 _ (List.mem_of_getElem? (i := 42) rfl) rfl
theorem wd_6_43 : Cond.instanceMethod yX11_placeOf ∈ TW := inC_6 _ (List.mem_of_getElem? (i := 43) rfl) rfl
theorem wd_6_44 : Cond.selects RX11 yX11_placeOf yX11_placeOf ∈ TW := inC_6 _ (List.mem_of_getElem? (i := 44) rfl) rfl
theorem wd_6_45 : Cond.code yX11_placeOf cX11_placeOf 2 (some .int) ∈ TW := inC_6 _ (List.mem_of_getElem? (i := 45) rfl) rfl
theorem wd_6_46 : Cond.methodLink RL 230 yX11_put ∈ TW := inC_6 _ (List.mem_of_getElem? (i := 46) rfl) rfl
theorem wd_6_47 : Cond.instanceMethod yX11_put ∈ TW := inC_6 _ (List.mem_of_getElem? (i := 47) rfl) rfl
theorem wd_6_48 : Cond.selects RX11 yX11_put yX11_put ∈ TW := inC_6 _ (List.mem_of_getElem? (i := 48) rfl) rfl
theorem wd_6_49 : Cond.code yX11_put cX11_put 2 (some .int) ∈ TW := inC_6 _ (List.mem_of_getElem? (i := 49) rfl) rfl
theorem wd_6_50 : Cond.methodLink RL 234 yX11_check ∈ TW := inC_6 _ (List.mem_of_getElem? (i := 50) rfl) rfl
theorem wd_6_51 : Cond.instanceMethod yX11_check ∈ TW := inC_6 _ (List.mem_of_getElem? (i := 51) rfl) rfl
theorem wd_6_52 : Cond.selects RX11 yX11_check yX11_check ∈ TW := inC_6 _ (List.mem_of_getElem? (i := 52) rfl) rfl
theorem wd_6_53 : Cond.code yX11_check cX11_check 5 (some .int) ∈ TW := inC_6 _ (List.mem_of_getElem? (i := 53) rfl) rfl
theorem wd_6_54 : Cond.methodLink RL 238 yX11_count ∈ TW := inC_6 _ (List.mem_of_getElem? (i := 54) rfl) rfl
theorem wd_6_55 : Cond.instanceMethod yX11_count ∈ TW := inC_6 _ (List.mem_of_getElem? (i := 55) rfl) rfl
theorem wd_6_56 : Cond.selects RX11 yX11_count yX11_count ∈ TW := inC_6 _ (List.mem_of_getElem? (i := 56) rfl) rfl
theorem wd_6_57 : Cond.code yX11_count cX11_count 2 (some .int) ∈ TW := inC_6 _ (List.mem_of_getElem? (i := 57) rfl) rfl
theorem wd_6_58 : Cond.methodLink RX11 445 yX11_countHolding ∈ TW := inC_6 _ (List.mem_of_getElem? (i := 58) rfl) rfl
theorem wd_6_59 : Cond.privateMethod yX11_countHolding ∈ lw_tbl := inL_6 _ (List.mem_of_getElem? (i := 59) rfl)
theorem wd_6_60 : Cond.instanceMethod yX11_countHolding ∈ TW := inC_6 _ (List.mem_of_getElem? (i := 60) rfl) rfl
theorem wd_6_61 : Cond.code yX11_countHolding cX11_countHolding 3 (some .int) ∈ TW := inC_6 _ (List.mem_of_getElem? (i := 61) rfl) rfl
theorem wd_6_62 : Cond.methodLink RX11 448 yX11_countVoid ∈ TW := inC_6 _ (List.mem_of_getElem? (i := 62) rfl) rfl
theorem wd_6_63 : Cond.privateMethod yX11_countVoid ∈ lw_tbl := inL_6 _ (List.mem_of_getElem? (i := 63) rfl)
theorem wd_6_64 : Cond.instanceMethod yX11_countVoid ∈ TW := inC_6 _ (List.mem_of_getElem? (i := 64) rfl) rfl
theorem wd_6_65 : Cond.code yX11_countVoid cX11_countVoid 3 (some .int) ∈ TW := inC_6 _ (List.mem_of_getElem? (i := 65) rfl) rfl
theorem wd_6_66 : Cond.classLink RL 10 RX12 ∈ TW := inC_6 _ (List.mem_of_getElem? (i := 66) rfl) rfl
theorem wd_6_67 : Cond.instantiable RX12 107 ∈ TW := inC_6 _ (List.mem_of_getElem? (i := 67) rfl) rfl
theorem wd_6_68 : Cond.methodLink RL 12 yX12_init ∈ TW := inC_6 _ (List.mem_of_getElem? (i := 68) rfl) rfl
theorem wd_6_69 : Cond.instanceMethod yX12_init ∈ TW := inC_6 _ (List.mem_of_getElem? (i := 69) rfl) rfl
theorem wd_6_70 : Cond.code yX12_init cX12_init 2 none ∈ TW := inC_6 _ (List.mem_of_getElem? (i := 70) rfl) rfl
theorem wd_6_71 : Cond.methodLink RX12 1 Lib.objectInit ∈ TW := inC_6 _ (List.mem_of_getElem? (i := 71) rfl) rfl
theorem wd_6_72 : Cond.fieldLink RX12 273 (fl 12 0).1 (fl 12 0).2.1 (fl 12 0).2.2.1 ∈ TW := inC_6 _ (List.mem_of_getElem? (i := 72) rfl) rfl
theorem wd_6_73 : Cond.fieldLink RX12 7 (fl 12 1).1 (fl 12 1).2.1 (fl 12 1).2.2.1 ∈ TW := inC_6 _ (List.mem_of_getElem? (i := 73) rfl) rfl
theorem wd_6_74 : Cond.fieldLink RX12 266 (fl 12 2).1 (fl 12 2).2.1 (fl 12 2).2.2.1 ∈ TW := inC_6 _ (List.mem_of_getElem? (i := 74) rfl) rfl
theorem wd_6_75 : Cond.fieldLink RX12 13 (fl 12 3).1 (fl 12 3).2.1 (fl 12 3).2.2.1 ∈ TW := inC_6 _ (List.mem_of_getElem? (i := 75) rfl) rfl
theorem wd_6_76 : Cond.fieldLink RX12 17 (fl 12 4).1 (fl 12 4).2.1 (fl 12 4).2.2.1 ∈ TW := inC_6 _ (List.mem_of_getElem? (i := 76) rfl) rfl
theorem wd_6_77 : Cond.fieldLink RX12 20 (fl 12 5).1 (fl 12 5).2.1 (fl 12 5).2.2.1 ∈ TW := inC_6 _ (List.mem_of_getElem? (i := 77) rfl) rfl
theorem wd_6_78 : Cond.fieldLink RX12 23 (fl 12 6).1 (fl 12 6).2.1 (fl 12 6).2.2.1 ∈ TW := inC_6 _ (List.mem_of_getElem? (i := 78) rfl) rfl
theorem wd_6_79 : Cond.fieldLink RX12 26 (fl 12 7).1 (fl 12 7).2.1 (fl 12 7).2.2.1 ∈ TW := inC_6 _ (List.mem_of_getElem? (i := 79) rfl) rfl
theorem wd_6_80 : Cond.fieldLink RX12 29 (fl 12 8).1 (fl 12 8).2.1 (fl 12 8).2.2.1 ∈ TW := inC_6 _ (List.mem_of_getElem? (i := 80) rfl) rfl
theorem wd_6_81 : Cond.fieldLink RX12 32 (fl 12 9).1 (fl 12 9).2.1 (fl 12 9).2.2.1 ∈ TW := inC_6 _ (List.mem_of_getElem? (i := 81) rfl) rfl
theorem wd_6_82 : Cond.fieldLink RX12 35 (fl 12 10).1 (fl 12 10).2.1 (fl 12 10).2.2.1 ∈ TW := inC_6 _ (List.mem_of_getElem? (i := 82) rfl) rfl
theorem wd_6_83 : Cond.fieldLink RX12 287 (fl 12 11).1 (fl 12 11).2.1 (fl 12 11).2.2.1 ∈ TW := inC_6 _ (List.mem_of_getElem? (i := 83) rfl) rfl
theorem wd_6_84 : Cond.fieldLink RX12 347 (fl 12 12).1 (fl 12 12).2.1 (fl 12 12).2.2.1 ∈ TW := inC_6 _ (List.mem_of_getElem? (i := 84) rfl) rfl
theorem wd_6_85 : Cond.fieldLink RX12 38 (fl 12 13).1 (fl 12 13).2.1 (fl 12 13).2.2.1 ∈ TW := inC_6 _ (List.mem_of_getElem? (i := 85) rfl) rfl
theorem wd_6_86 : Cond.fieldLink RX12 41 (fl 12 14).1 (fl 12 14).2.1 (fl 12 14).2.2.1 ∈ TW := inC_6 _ (List.mem_of_getElem? (i := 86) rfl) rfl
theorem wd_6_87 : Cond.fieldLink RX12 44 (fl 12 15).1 (fl 12 15).2.1 (fl 12 15).2.2.1 ∈ TW := inC_6 _ (List.mem_of_getElem? (i := 87) rfl) rfl
theorem wd_6_88 : Cond.fieldLink RX12 47 (fl 12 16).1 (fl 12 16).2.1 (fl 12 16).2.2.1 ∈ TW := inC_6 _ (List.mem_of_getElem? (i := 88) rfl) rfl
theorem wd_6_89 : Cond.fieldLink RX12 298 (fl 12 17).1 (fl 12 17).2.1 (fl 12 17).2.2.1 ∈ TW := inC_6 _ (List.mem_of_getElem? (i := 89) rfl) rfl
theorem wd_6_90 : Cond.fieldLink RX12 302 (fl 12 18).1 (fl 12 18).2.1 (fl 12 18).2.2.1 ∈ TW := inC_6 _ (List.mem_of_getElem? (i := 90) rfl) rfl
theorem wd_6_91 : Cond.fieldLink RX12 295 (fl 12 19).1 (fl 12 19).2.1 (fl 12 19).2.2.1 ∈ TW := inC_6 _ (List.mem_of_getElem? (i := 91) rfl) rfl
theorem wd_6_92 : Cond.fieldLink RX12 292 (fl 12 20).1 (fl 12 20).2.1 (fl 12 20).2.2.1 ∈ TW := inC_6 _ (List.mem_of_getElem? (i := 92) rfl) rfl
theorem wd_6_93 : Cond.fieldLink RX12 312 (fl 12 21).1 (fl 12 21).2.1 (fl 12 21).2.2.1 ∈ TW := inC_6 _ (List.mem_of_getElem? (i := 93) rfl) rfl
theorem wd_6_94 : Cond.fieldLink RX12 330 (fl 12 22).1 (fl 12 22).2.1 (fl 12 22).2.2.1 ∈ TW := inC_6 _ (List.mem_of_getElem? (i := 94) rfl) rfl
theorem wd_6_95 : Cond.fieldLink RX12 50 (fl 12 23).1 (fl 12 23).2.1 (fl 12 23).2.2.1 ∈ TW := inC_6 _ (List.mem_of_getElem? (i := 95) rfl) rfl
theorem wd_6_96 : Cond.fieldLink RX12 53 (fl 12 24).1 (fl 12 24).2.1 (fl 12 24).2.2.1 ∈ TW := inC_6 _ (List.mem_of_getElem? (i := 96) rfl) rfl
theorem wd_6_97 : Cond.fieldLink RX12 321 (fl 12 25).1 (fl 12 25).2.1 (fl 12 25).2.2.1 ∈ TW := inC_6 _ (List.mem_of_getElem? (i := 97) rfl) rfl
theorem wd_6_98 : Cond.fieldLink RX12 56 (fl 12 26).1 (fl 12 26).2.1 (fl 12 26).2.2.1 ∈ TW := inC_6 _ (List.mem_of_getElem? (i := 98) rfl) rfl
theorem wd_6_99 : Cond.fieldLink RX12 327 (fl 12 27).1 (fl 12 27).2.1 (fl 12 27).2.2.1 ∈ TW := inC_6 _ (List.mem_of_getElem? (i := 99) rfl) rfl
theorem wd_6_100 : Cond.fieldLink RX12 59 (fl 12 28).1 (fl 12 28).2.1 (fl 12 28).2.2.1 ∈ TW := inC_6 _ (List.mem_of_getElem? (i := 100) rfl) rfl
theorem wd_6_101 : Cond.fieldLink RX12 62 (fl 12 29).1 (fl 12 29).2.1 (fl 12 29).2.2.1 ∈ TW := inC_6 _ (List.mem_of_getElem? (i := 101) rfl) rfl
theorem wd_6_102 : Cond.fieldLink RX12 65 (fl 12 30).1 (fl 12 30).2.1 (fl 12 30).2.2.1 ∈ TW := inC_6 _ (List.mem_of_getElem? (i := 102) rfl) rfl
theorem wd_6_103 : Cond.fieldLink RX12 68 (fl 12 31).1 (fl 12 31).2.1 (fl 12 31).2.2.1 ∈ TW := inC_6 _ (List.mem_of_getElem? (i := 103) rfl) rfl
theorem wd_6_104 : Cond.fieldLink RX12 381 (fl 12 32).1 (fl 12 32).2.1 (fl 12 32).2.2.1 ∈ TW := inC_6 _ (List.mem_of_getElem? (i := 104) rfl) rfl
theorem wd_6_105 : Cond.fieldLink RX12 71 (fl 12 33).1 (fl 12 33).2.1 (fl 12 33).2.2.1 ∈ TW := inC_6 _ (List.mem_of_getElem? (i := 105) rfl) rfl
theorem wd_6_106 : Cond.fieldLink RX12 74 (fl 12 34).1 (fl 12 34).2.1 (fl 12 34).2.2.1 ∈ TW := inC_6 _ (List.mem_of_getElem? (i := 106) rfl) rfl
theorem wd_6_107 : Cond.fieldLink RX12 77 (fl 12 35).1 (fl 12 35).2.1 (fl 12 35).2.2.1 ∈ TW := inC_6 _ (List.mem_of_getElem? (i := 107) rfl) rfl
theorem wd_6_108 : Cond.fieldLink RX12 80 (fl 12 36).1 (fl 12 36).2.1 (fl 12 36).2.2.1 ∈ TW := inC_6 _ (List.mem_of_getElem? (i := 108) rfl) rfl
theorem wd_6_109 : Cond.fieldLink RX12 83 (fl 12 37).1 (fl 12 37).2.1 (fl 12 37).2.2.1 ∈ TW := inC_6 _ (List.mem_of_getElem? (i := 109) rfl) rfl
theorem wd_6_110 : Cond.fieldLink RX12 86 (fl 12 38).1 (fl 12 38).2.1 (fl 12 38).2.2.1 ∈ TW := inC_6 _ (List.mem_of_getElem? (i := 110) rfl) rfl
theorem wd_6_111 : Cond.fieldLink RX12 89 (fl 12 39).1 (fl 12 39).2.1 (fl 12 39).2.2.1 ∈ TW := inC_6 _ (List.mem_of_getElem? (i := 111) rfl) rfl
theorem wd_6_112 : Cond.fieldLink RX12 92 (fl 12 40).1 (fl 12 40).2.1 (fl 12 40).2.2.1 ∈ TW := inC_6 _ (List.mem_of_getElem? (i := 112) rfl) rfl
theorem wd_6_113 : Cond.fieldLink RX12 95 (fl 12 41).1 (fl 12 41).2.1 (fl 12 41).2.2.1 ∈ TW := inC_6 _ (List.mem_of_getElem? (i := 113) rfl) rfl
theorem wd_6_114 : Cond.fieldLink RX12 98 (fl 12 42).1 (fl 12 42).2.1 (fl 12 42).2.2.1 ∈ TW := inC_6 _ (List.mem_of_getElem? (i := 114) rfl) rfl
theorem wd_6_115 : Cond.fieldLink RX12 101 (fl 12 43).1 (fl 12 43).2.1 (fl 12 43).2.2.1 ∈ TW := inC_6 _ (List.mem_of_getElem? (i := 115) rfl) rfl
theorem wd_6_116 : Cond.fieldLink RX12 104 (fl 12 44).1 (fl 12 44).2.1 (fl 12 44).2.2.1 ∈ TW := inC_6 _ (List.mem_of_getElem? (i := 116) rfl) rfl
theorem wd_6_117 : Cond.fieldLink RX12 107 (fl 12 45).1 (fl 12 45).2.1 (fl 12 45).2.2.1 ∈ TW := inC_6 _ (List.mem_of_getElem? (i := 117) rfl) rfl
theorem wd_6_118 : Cond.fieldLink RX12 110 (fl 12 46).1 (fl 12 46).2.1 (fl 12 46).2.2.1 ∈ TW := inC_6 _ (List.mem_of_getElem? (i := 118) rfl) rfl
theorem wd_6_119 : Cond.fieldLink RX12 113 (fl 12 47).1 (fl 12 47).2.1 (fl 12 47).2.2.1 ∈ TW := inC_6 _ (List.mem_of_getElem? (i := 119) rfl) rfl
theorem wd_6_120 : Cond.fieldLink RX12 357 (fl 12 48).1 (fl 12 48).2.1 (fl 12 48).2.2.1 ∈ TW := inC_6 _ (List.mem_of_getElem? (i := 120) rfl) rfl
theorem wd_6_121 : Cond.fieldLink RX12 116 (fl 12 49).1 (fl 12 49).2.1 (fl 12 49).2.2.1 ∈ TW := inC_6 _ (List.mem_of_getElem? (i := 121) rfl) rfl
theorem wd_6_122 : Cond.fieldLink RX12 119 (fl 12 50).1 (fl 12 50).2.1 (fl 12 50).2.2.1 ∈ TW := inC_6 _ (List.mem_of_getElem? (i := 122) rfl) rfl
theorem wd_6_123 : Cond.fieldLink RX12 122 (fl 12 51).1 (fl 12 51).2.1 (fl 12 51).2.2.1 ∈ TW := inC_6 _ (List.mem_of_getElem? (i := 123) rfl) rfl
theorem wd_6_124 : Cond.fieldLink RX12 421 (fl 12 52).1 (fl 12 52).2.1 (fl 12 52).2.2.1 ∈ TW := inC_6 _ (List.mem_of_getElem? (i := 124) rfl) rfl
theorem wd_6_125 : Cond.fieldLink RX12 125 (fl 12 53).1 (fl 12 53).2.1 (fl 12 53).2.2.1 ∈ TW := inC_6 _ (List.mem_of_getElem? (i := 125) rfl) rfl
theorem wd_6_126 : Cond.fieldLink RX12 128 (fl 12 54).1 (fl 12 54).2.1 (fl 12 54).2.2.1 ∈ TW := inC_6 _ (List.mem_of_getElem? (i := 126) rfl) rfl
theorem wd_6_127 : Cond.fieldLink RX12 131 (fl 12 55).1 (fl 12 55).2.1 (fl 12 55).2.2.1 ∈ TW := inC_6 _ (List.mem_of_getElem? (i := 127) rfl) rfl
theorem wd_6_128 : Cond.fieldLink RX12 134 (fl 12 56).1 (fl 12 56).2.1 (fl 12 56).2.2.1 ∈ TW := inC_6 _ (List.mem_of_getElem? (i := 128) rfl) rfl
theorem wd_6_129 : Cond.fieldLink RX12 427 (fl 12 57).1 (fl 12 57).2.1 (fl 12 57).2.2.1 ∈ TW := inC_6 _ (List.mem_of_getElem? (i := 129) rfl) rfl
theorem wd_6_130 : Cond.fieldLink RX12 137 (fl 12 58).1 (fl 12 58).2.1 (fl 12 58).2.2.1 ∈ TW := inC_6 _ (List.mem_of_getElem? (i := 130) rfl) rfl
theorem wd_6_131 : Cond.fieldLink RX12 140 (fl 12 59).1 (fl 12 59).2.1 (fl 12 59).2.2.1 ∈ TW := inC_6 _ (List.mem_of_getElem? (i := 131) rfl) rfl
theorem wd_6_132 : Cond.fieldLink RX12 143 (fl 12 60).1 (fl 12 60).2.1 (fl 12 60).2.2.1 ∈ TW := inC_6 _ (List.mem_of_getElem? (i := 132) rfl) rfl
theorem wd_6_133 : Cond.fieldLink RX12 146 (fl 12 61).1 (fl 12 61).2.1 (fl 12 61).2.2.1 ∈ TW := inC_6 _ (List.mem_of_getElem? (i := 133) rfl) rfl
theorem wd_6_134 : Cond.fieldLink RX12 149 (fl 12 62).1 (fl 12 62).2.1 (fl 12 62).2.2.1 ∈ TW := inC_6 _ (List.mem_of_getElem? (i := 134) rfl) rfl
theorem wd_6_135 : Cond.fieldLink RX12 152 (fl 12 63).1 (fl 12 63).2.1 (fl 12 63).2.2.1 ∈ TW := inC_6 _ (List.mem_of_getElem? (i := 135) rfl) rfl
theorem wd_6_136 : Cond.fieldLink RX12 155 (fl 12 64).1 (fl 12 64).2.1 (fl 12 64).2.2.1 ∈ TW := inC_6 _ (List.mem_of_getElem? (i := 136) rfl) rfl
theorem wd_6_137 : Cond.fieldLink RX12 158 (fl 12 65).1 (fl 12 65).2.1 (fl 12 65).2.2.1 ∈ TW := inC_6 _ (List.mem_of_getElem? (i := 137) rfl) rfl
theorem wd_6_138 : Cond.fieldLink RX12 161 (fl 12 66).1 (fl 12 66).2.1 (fl 12 66).2.2.1 ∈ TW := inC_6 _ (List.mem_of_getElem? (i := 138) rfl) rfl
theorem wd_6_139 : Cond.fieldLink RX12 445 (fl 12 67).1 (fl 12 67).2.1 (fl 12 67).2.2.1 ∈ TW := inC_6 _ (List.mem_of_getElem? (i := 139) rfl) rfl
theorem wd_6_140 : Cond.fieldLink RX12 164 (fl 12 68).1 (fl 12 68).2.1 (fl 12 68).2.2.1 ∈ TW := inC_6 _ (List.mem_of_getElem? (i := 140) rfl) rfl
theorem wd_6_141 : Cond.fieldLink RX12 167 (fl 12 69).1 (fl 12 69).2.1 (fl 12 69).2.2.1 ∈ TW := inC_6 _ (List.mem_of_getElem? (i := 141) rfl) rfl
theorem wd_6_142 : Cond.fieldLink RX12 170 (fl 12 70).1 (fl 12 70).2.1 (fl 12 70).2.2.1 ∈ TW := inC_6 _ (List.mem_of_getElem? (i := 142) rfl) rfl
theorem wd_6_143 : Cond.fieldLink RX12 173 (fl 12 71).1 (fl 12 71).2.1 (fl 12 71).2.2.1 ∈ TW := inC_6 _ (List.mem_of_getElem? (i := 143) rfl) rfl
theorem wd_6_144 : Cond.fieldLink RX12 176 (fl 12 72).1 (fl 12 72).2.1 (fl 12 72).2.2.1 ∈ TW := inC_6 _ (List.mem_of_getElem? (i := 144) rfl) rfl
theorem wd_6_145 : Cond.fieldLink RX12 448 (fl 12 73).1 (fl 12 73).2.1 (fl 12 73).2.2.1 ∈ TW := inC_6 _ (List.mem_of_getElem? (i := 145) rfl) rfl
theorem wd_6_146 : Cond.fieldLink RX12 179 (fl 12 74).1 (fl 12 74).2.1 (fl 12 74).2.2.1 ∈ TW := inC_6 _ (List.mem_of_getElem? (i := 146) rfl) rfl
theorem wd_6_147 : Cond.fieldLink RX12 182 (fl 12 75).1 (fl 12 75).2.1 (fl 12 75).2.2.1 ∈ TW := inC_6 _ (List.mem_of_getElem? (i := 147) rfl) rfl
theorem wd_6_148 : Cond.fieldLink RX12 185 (fl 12 76).1 (fl 12 76).2.1 (fl 12 76).2.2.1 ∈ TW := inC_6 _ (List.mem_of_getElem? (i := 148) rfl) rfl
theorem wd_6_149 : Cond.fieldLink RX12 188 (fl 12 77).1 (fl 12 77).2.1 (fl 12 77).2.2.1 ∈ TW := inC_6 _ (List.mem_of_getElem? (i := 149) rfl) rfl
theorem wd_6_150 : Cond.fieldLink RX12 191 (fl 12 78).1 (fl 12 78).2.1 (fl 12 78).2.2.1 ∈ TW := inC_6 _ (List.mem_of_getElem? (i := 150) rfl) rfl
theorem wd_6_151 : Cond.fieldLink RX12 194 (fl 12 79).1 (fl 12 79).2.1 (fl 12 79).2.2.1 ∈ TW := inC_6 _ (List.mem_of_getElem? (i := 151) rfl) rfl
theorem wd_6_152 : Cond.fieldLink RX12 460 (fl 12 80).1 (fl 12 80).2.1 (fl 12 80).2.2.1 ∈ TW := inC_6 _ (List.mem_of_getElem? (i := 152) rfl) rfl
theorem wd_6_153 : Cond.fieldLink RX12 197 (fl 12 81).1 (fl 12 81).2.1 (fl 12 81).2.2.1 ∈ TW := inC_6 _ (List.mem_of_getElem? (i := 153) rfl) rfl
theorem wd_6_154 : Cond.fieldLink RX12 200 (fl 12 82).1 (fl 12 82).2.1 (fl 12 82).2.2.1 ∈ TW := inC_6 _ (List.mem_of_getElem? (i := 154) rfl) rfl
theorem wd_6_155 : Cond.fieldLink RX12 203 (fl 12 83).1 (fl 12 83).2.1 (fl 12 83).2.2.1 ∈ TW := inC_6 _ (List.mem_of_getElem? (i := 155) rfl) rfl
theorem wd_6_156 : Cond.fieldLink RX12 206 (fl 12 84).1 (fl 12 84).2.1 (fl 12 84).2.2.1 ∈ TW := inC_6 _ (List.mem_of_getElem? (i := 156) rfl) rfl
theorem wd_6_157 : Cond.fieldLink RX12 209 (fl 12 85).1 (fl 12 85).2.1 (fl 12 85).2.2.1 ∈ TW := inC_6 _ (List.mem_of_getElem? (i := 157) rfl) rfl
theorem wd_6_158 : Cond.fieldLink RX12 466 (fl 12 86).1 (fl 12 86).2.1 (fl 12 86).2.2.1 ∈ TW := inC_6 _ (List.mem_of_getElem? (i := 158) rfl) rfl
theorem wd_6_159 : Cond.fieldLink RX12 212 (fl 12 87).1 (fl 12 87).2.1 (fl 12 87).2.2.1 ∈ TW := inC_6 _ (List.mem_of_getElem? (i := 159) rfl) rfl
theorem wd_6_160 : Cond.fieldLink RX12 215 (fl 12 88).1 (fl 12 88).2.1 (fl 12 88).2.2.1 ∈ TW := inC_6 _ (List.mem_of_getElem? (i := 160) rfl) rfl
theorem wd_6_161 : Cond.fieldLink RX12 218 (fl 12 89).1 (fl 12 89).2.1 (fl 12 89).2.2.1 ∈ TW := inC_6 _ (List.mem_of_getElem? (i := 161) rfl) rfl
theorem wd_6_162 : Cond.fieldLink RX12 472 (fl 12 90).1 (fl 12 90).2.1 (fl 12 90).2.2.1 ∈ TW := inC_6 _ (List.mem_of_getElem? (i := 162) rfl) rfl
theorem wd_6_163 : Cond.fieldLink RX12 478 (fl 12 91).1 (fl 12 91).2.1 (fl 12 91).2.2.1 ∈ TW := inC_6 _ (List.mem_of_getElem? (i := 163) rfl) rfl
theorem wd_6_164 : Cond.fieldLink RX12 222 (fl 12 92).1 (fl 12 92).2.1 (fl 12 92).2.2.1 ∈ TW := inC_6 _ (List.mem_of_getElem? (i := 164) rfl) rfl
theorem wd_6_165 : Cond.fieldLink RX12 225 (fl 12 93).1 (fl 12 93).2.1 (fl 12 93).2.2.1 ∈ TW := inC_6 _ (List.mem_of_getElem? (i := 165) rfl) rfl
theorem wd_6_166 : Cond.fieldLink RX12 228 (fl 12 94).1 (fl 12 94).2.1 (fl 12 94).2.2.1 ∈ TW := inC_6 _ (List.mem_of_getElem? (i := 166) rfl) rfl
theorem wd_6_167 : Cond.fieldLink RX12 231 (fl 12 95).1 (fl 12 95).2.1 (fl 12 95).2.2.1 ∈ TW := inC_6 _ (List.mem_of_getElem? (i := 167) rfl) rfl
theorem wd_6_168 : Cond.fieldLink RX12 234 (fl 12 96).1 (fl 12 96).2.1 (fl 12 96).2.2.1 ∈ TW := inC_6 _ (List.mem_of_getElem? (i := 168) rfl) rfl
theorem wd_6_169 : Cond.fieldLink RX12 511 (fl 12 97).1 (fl 12 97).2.1 (fl 12 97).2.2.1 ∈ TW := inC_6 _ (List.mem_of_getElem? (i := 169) rfl) rfl
theorem wd_6_170 : Cond.fieldLink RX12 237 (fl 12 98).1 (fl 12 98).2.1 (fl 12 98).2.2.1 ∈ TW := inC_6 _ (List.mem_of_getElem? (i := 170) rfl) rfl
theorem wd_6_171 : Cond.fieldLink RX12 240 (fl 12 99).1 (fl 12 99).2.1 (fl 12 99).2.2.1 ∈ TW := inC_6 _ (List.mem_of_getElem? (i := 171) rfl) rfl
theorem wd_6_172 : Cond.fieldLink RX12 243 (fl 12 100).1 (fl 12 100).2.1 (fl 12 100).2.2.1 ∈ TW := inC_6 _ (List.mem_of_getElem? (i := 172) rfl) rfl
theorem wd_6_173 : Cond.fieldLink RX12 246 (fl 12 101).1 (fl 12 101).2.1 (fl 12 101).2.2.1 ∈ TW := inC_6 _ (List.mem_of_getElem? (i := 173) rfl) rfl
theorem wd_6_174 : Cond.fieldLink RX12 249 (fl 12 102).1 (fl 12 102).2.1 (fl 12 102).2.2.1 ∈ TW := inC_6 _ (List.mem_of_getElem? (i := 174) rfl) rfl
theorem wd_6_175 : Cond.fieldLink RX12 252 (fl 12 103).1 (fl 12 103).2.1 (fl 12 103).2.2.1 ∈ TW := inC_6 _ (List.mem_of_getElem? (i := 175) rfl) rfl
theorem wd_6_176 : Cond.fieldLink RX12 255 (fl 12 104).1 (fl 12 104).2.1 (fl 12 104).2.2.1 ∈ TW := inC_6 _ (List.mem_of_getElem? (i := 176) rfl) rfl
theorem wd_6_177 : Cond.fieldLink RX12 258 (fl 12 105).1 (fl 12 105).2.1 (fl 12 105).2.2.1 ∈ TW := inC_6 _ (List.mem_of_getElem? (i := 177) rfl) rfl
theorem wd_6_178 : Cond.fieldLink RX12 520 (fl 12 106).1 (fl 12 106).2.1 (fl 12 106).2.2.1 ∈ TW := inC_6 _ (List.mem_of_getElem? (i := 178) rfl) rfl
theorem wd_6_179 : Cond.lays RX12 RX12 "day" "I" ∈ TW := inC_6 _ (List.mem_of_getElem? (i := 179) rfl) rfl
theorem wd_6_181 : Cond.laysFinal RX12 RX12 "isFeast" "[Z" ∈ TW := inC_6 _ (List.mem_of_getElem? (i := 181) rfl) rfl
theorem wd_6_183 : Cond.lays RX12 RX12 "people" "I" ∈ TW := inC_6 _ (List.mem_of_getElem? (i := 183) rfl) rfl
theorem wd_6_185 : Cond.laysFinal RX12 RX12 "shop" "[I" ∈ TW := inC_6 _ (List.mem_of_getElem? (i := 185) rfl) rfl
theorem wd_6_187 : Cond.laysFinal RX12 RX12 "born" "[I" ∈ TW := inC_6 _ (List.mem_of_getElem? (i := 187) rfl) rfl
theorem wd_6_189 : Cond.laysFinal RX12 RX12 "came" "[I" ∈ TW := inC_6 _ (List.mem_of_getElem? (i := 189) rfl) rfl
theorem wd_6_191 : Cond.laysFinal RX12 RX12 "first" "[I" ∈ TW := inC_6 _ (List.mem_of_getElem? (i := 191) rfl) rfl
theorem wd_6_193 : Cond.laysFinal RX12 RX12 "counted" "[I" ∈ TW := inC_6 _ (List.mem_of_getElem? (i := 193) rfl) rfl
theorem wd_6_195 : Cond.laysFinal RX12 RX12 "hasLeft" "[Z" ∈ TW := inC_6 _ (List.mem_of_getElem? (i := 195) rfl) rfl
theorem wd_6_197 : Cond.laysFinal RX12 RX12 "refused" "[I" ∈ TW := inC_6 _ (List.mem_of_getElem? (i := 197) rfl) rfl
theorem wd_6_199 : Cond.laysFinal RX12 RX12 "text" "[I" ∈ TW := inC_6 _ (List.mem_of_getElem? (i := 199) rfl) rfl
theorem wd_6_201 : Cond.lays RX12 RX12 "textMany" "I" ∈ TW := inC_6 _ (List.mem_of_getElem? (i := 201) rfl) rfl
theorem wd_6_203 : Cond.lays RX12 RX12 "acts" "I" ∈ TW := inC_6 _ (List.mem_of_getElem? (i := 203) rfl) rfl
theorem wd_6_205 : Cond.laysFinal RX12 RX12 "actText" "[I" ∈ TW := inC_6 _ (List.mem_of_getElem? (i := 205) rfl) rfl
theorem wd_6_207 : Cond.laysFinal RX12 RX12 "actMany" "[I" ∈ TW := inC_6 _ (List.mem_of_getElem? (i := 207) rfl) rfl
theorem wd_6_209 : Cond.laysFinal RX12 RX12 "actFrom" "[I" ∈ TW := inC_6 _ (List.mem_of_getElem? (i := 209) rfl) rfl
theorem wd_6_211 : Cond.laysFinal RX12 RX12 "struckFrom" "[I" ∈ TW := inC_6 _ (List.mem_of_getElem? (i := 211) rfl) rfl
theorem wd_6_213 : Cond.lays RX12 RX12 "isTold" "Z" ∈ TW := inC_6 _ (List.mem_of_getElem? (i := 213) rfl) rfl
theorem wd_6_215 : Cond.lays RX12 RX12 "base" "I" ∈ TW := inC_6 _ (List.mem_of_getElem? (i := 215) rfl) rfl
theorem wd_6_217 : Cond.lays RX12 RX12 "end" "I" ∈ TW := inC_6 _ (List.mem_of_getElem? (i := 217) rfl) rfl
theorem wd_6_219 : Cond.lays RX12 RX12 "at" "I" ∈ TW := inC_6 _ (List.mem_of_getElem? (i := 219) rfl) rfl
theorem wd_6_221 : Cond.lays RX12 RX12 "isBad" "Z" ∈ TW := inC_6 _ (List.mem_of_getElem? (i := 221) rfl) rfl
theorem wd_6_223 : Cond.lays RX12 RX12 "deep" "I" ∈ TW := inC_6 _ (List.mem_of_getElem? (i := 223) rfl) rfl
theorem wd_6_225 : Cond.laysFinal RX12 RX12 "facts" "[I" ∈ TW := inC_6 _ (List.mem_of_getElem? (i := 225) rfl) rfl
theorem wd_6_227 : Cond.laysFinal RX12 RX12 "signs" "[I" ∈ TW := inC_6 _ (List.mem_of_getElem? (i := 227) rfl) rfl
theorem wd_6_229 : Cond.lays RX12 RX12 "signMany" "I" ∈ TW := inC_6 _ (List.mem_of_getElem? (i := 229) rfl) rfl
theorem wd_6_231 : Cond.laysFinal RX12 RX12 "values" "[Z" ∈ TW := inC_6 _ (List.mem_of_getElem? (i := 231) rfl) rfl
theorem wd_6_233 : Cond.lays RX12 RX12 "valueMany" "I" ∈ TW := inC_6 _ (List.mem_of_getElem? (i := 233) rfl) rfl
theorem wd_6_235 : Cond.laysFinal RX12 RX12 "doesHold" "[Z" ∈ TW := inC_6 _ (List.mem_of_getElem? (i := 235) rfl) rfl
theorem wd_6_237 : Cond.laysFinal RX12 RX12 "needs" "[I" ∈ TW := inC_6 _ (List.mem_of_getElem? (i := 237) rfl) rfl
theorem wd_6_239 : Cond.laysFinal RX12 RX12 "spans" "[I" ∈ TW := inC_6 _ (List.mem_of_getElem? (i := 239) rfl) rfl
theorem wd_7_1 : Cond.laysFinal RX12 RX12 "silence" "[I" ∈ TW := inC_7 _ (List.mem_of_getElem? (i := 1) rfl) rfl
theorem wd_7_3 : Cond.lays RX12 RX12 "matters" "I" ∈ TW := inC_7 _ (List.mem_of_getElem? (i := 3) rfl) rfl
theorem wd_7_5 : Cond.laysFinal RX12 RX12 "mWhat" "[I" ∈ TW := inC_7 _ (List.mem_of_getElem? (i := 5) rfl) rfl
theorem wd_7_7 : Cond.laysFinal RX12 RX12 "mShops" "[I" ∈ TW := inC_7 _ (List.mem_of_getElem? (i := 7) rfl) rfl
theorem wd_7_9 : Cond.laysFinal RX12 RX12 "mSum" "[I" ∈ TW := inC_7 _ (List.mem_of_getElem? (i := 9) rfl) rfl
theorem wd_7_11 : Cond.laysFinal RX12 RX12 "mKind" "[I" ∈ TW := inC_7 _ (List.mem_of_getElem? (i := 11) rfl) rfl
theorem wd_7_13 : Cond.laysFinal RX12 RX12 "mAct" "[I" ∈ TW := inC_7 _ (List.mem_of_getElem? (i := 13) rfl) rfl
theorem wd_7_15 : Cond.laysFinal RX12 RX12 "mDay" "[I" ∈ TW := inC_7 _ (List.mem_of_getElem? (i := 15) rfl) rfl
theorem wd_7_17 : Cond.laysFinal RX12 RX12 "mNeeds" "[I" ∈ TW := inC_7 _ (List.mem_of_getElem? (i := 17) rfl) rfl
theorem wd_7_19 : Cond.laysFinal RX12 RX12 "mSpan" "[I" ∈ TW := inC_7 _ (List.mem_of_getElem? (i := 19) rfl) rfl
theorem wd_7_21 : Cond.laysFinal RX12 RX12 "mSilence" "[I" ∈ TW := inC_7 _ (List.mem_of_getElem? (i := 21) rfl) rfl
theorem wd_7_23 : Cond.laysFinal RX12 RX12 "told" "[I" ∈ TW := inC_7 _ (List.mem_of_getElem? (i := 23) rfl) rfl
theorem wd_7_25 : Cond.laysFinal RX12 RX12 "tWhat" "[I" ∈ TW := inC_7 _ (List.mem_of_getElem? (i := 25) rfl) rfl
theorem wd_7_27 : Cond.laysFinal RX12 RX12 "tDay" "[I" ∈ TW := inC_7 _ (List.mem_of_getElem? (i := 27) rfl) rfl
theorem wd_7_29 : Cond.laysFinal RX12 RX12 "tOf" "[I" ∈ TW := inC_7 _ (List.mem_of_getElem? (i := 29) rfl) rfl
theorem wd_7_31 : Cond.laysFinal RX12 RX12 "tSession" "[I" ∈ TW := inC_7 _ (List.mem_of_getElem? (i := 31) rfl) rfl
theorem wd_7_33 : Cond.laysFinal RX12 RX12 "votesOf" "[I" ∈ TW := inC_7 _ (List.mem_of_getElem? (i := 33) rfl) rfl
theorem wd_7_35 : Cond.lays RX12 RX12 "seats" "I" ∈ TW := inC_7 _ (List.mem_of_getElem? (i := 35) rfl) rfl
theorem wd_7_37 : Cond.laysFinal RX12 RX12 "seatShop" "[I" ∈ TW := inC_7 _ (List.mem_of_getElem? (i := 37) rfl) rfl
theorem wd_7_39 : Cond.laysFinal RX12 RX12 "member" "[I" ∈ TW := inC_7 _ (List.mem_of_getElem? (i := 39) rfl) rfl
theorem wd_7_41 : Cond.laysFinal RX12 RX12 "settings" "[I" ∈ TW := inC_7 _ (List.mem_of_getElem? (i := 41) rfl) rfl
theorem wd_7_43 : Cond.lays RX12 RX12 "sessions" "I" ∈ TW := inC_7 _ (List.mem_of_getElem? (i := 43) rfl) rfl
theorem wd_7_45 : Cond.laysFinal RX12 RX12 "sDay" "[I" ∈ TW := inC_7 _ (List.mem_of_getElem? (i := 45) rfl) rfl
theorem wd_7_47 : Cond.laysFinal RX12 RX12 "sPresent" "[I" ∈ TW := inC_7 _ (List.mem_of_getElem? (i := 47) rfl) rfl
theorem wd_7_49 : Cond.laysFinal RX12 RX12 "sRight" "[Z" ∈ TW := inC_7 _ (List.mem_of_getElem? (i := 49) rfl) rfl
theorem wd_7_51 : Cond.laysFinal RX12 RX12 "voidOn" "[I" ∈ TW := inC_7 _ (List.mem_of_getElem? (i := 51) rfl) rfl
theorem wd_7_53 : Cond.lays RX12 RX12 "agreements" "I" ∈ TW := inC_7 _ (List.mem_of_getElem? (i := 53) rfl) rfl
theorem wd_7_55 : Cond.laysFinal RX12 RX12 "aMatter" "[I" ∈ TW := inC_7 _ (List.mem_of_getElem? (i := 55) rfl) rfl
theorem wd_7_57 : Cond.laysFinal RX12 RX12 "aValue" "[I" ∈ TW := inC_7 _ (List.mem_of_getElem? (i := 57) rfl) rfl
theorem wd_7_59 : Cond.laysFinal RX12 RX12 "aFrom" "[I" ∈ TW := inC_7 _ (List.mem_of_getElem? (i := 59) rfl) rfl
theorem wd_7_61 : Cond.laysFinal RX12 RX12 "aTo" "[I" ∈ TW := inC_7 _ (List.mem_of_getElem? (i := 61) rfl) rfl
theorem wd_7_63 : Cond.laysFinal RX12 RX12 "aMade" "[I" ∈ TW := inC_7 _ (List.mem_of_getElem? (i := 63) rfl) rfl
theorem wd_7_65 : Cond.laysFinal RX12 RX12 "isCancelled" "[Z" ∈ TW := inC_7 _ (List.mem_of_getElem? (i := 65) rfl) rfl
theorem wd_7_67 : Cond.laysFinal RX12 RX12 "contractValue" "[I" ∈ TW := inC_7 _ (List.mem_of_getElem? (i := 67) rfl) rfl
theorem wd_7_69 : Cond.laysFinal RX12 RX12 "contractLet" "[I" ∈ TW := inC_7 _ (List.mem_of_getElem? (i := 69) rfl) rfl
theorem wd_7_71 : Cond.laysFinal RX12 RX12 "isAfter" "[Z" ∈ TW := inC_7 _ (List.mem_of_getElem? (i := 71) rfl) rfl
theorem wd_7_73 : Cond.lays RX12 RX12 "deeds" "I" ∈ TW := inC_7 _ (List.mem_of_getElem? (i := 73) rfl) rfl
theorem wd_7_75 : Cond.laysFinal RX12 RX12 "dMatter" "[I" ∈ TW := inC_7 _ (List.mem_of_getElem? (i := 75) rfl) rfl
theorem wd_7_77 : Cond.laysFinal RX12 RX12 "dDay" "[I" ∈ TW := inC_7 _ (List.mem_of_getElem? (i := 77) rfl) rfl
theorem wd_7_79 : Cond.laysFinal RX12 RX12 "dShops" "[I" ∈ TW := inC_7 _ (List.mem_of_getElem? (i := 79) rfl) rfl
theorem wd_7_81 : Cond.laysFinal RX12 RX12 "dSum" "[I" ∈ TW := inC_7 _ (List.mem_of_getElem? (i := 81) rfl) rfl
theorem wd_7_83 : Cond.laysFinal RX12 RX12 "dKind" "[I" ∈ TW := inC_7 _ (List.mem_of_getElem? (i := 83) rfl) rfl
theorem wd_7_85 : Cond.lays RX12 RX12 "hangs" "I" ∈ TW := inC_7 _ (List.mem_of_getElem? (i := 85) rfl) rfl
theorem wd_7_87 : Cond.laysFinal RX12 RX12 "hangOn" "[I" ∈ TW := inC_7 _ (List.mem_of_getElem? (i := 87) rfl) rfl
theorem wd_7_89 : Cond.laysFinal RX12 RX12 "hangDay" "[I" ∈ TW := inC_7 _ (List.mem_of_getElem? (i := 89) rfl) rfl
theorem wd_7_91 : Cond.laysFinal RX12 RX12 "hangSum" "[I" ∈ TW := inC_7 _ (List.mem_of_getElem? (i := 91) rfl) rfl
theorem wd_7_93 : Cond.laysFinal RX12 RX12 "needOf" "[I" ∈ TW := inC_7 _ (List.mem_of_getElem? (i := 93) rfl) rfl
theorem wd_7_95 : Cond.laysFinal RX12 RX12 "isWish" "[Z" ∈ TW := inC_7 _ (List.mem_of_getElem? (i := 95) rfl) rfl
theorem wd_7_97 : Cond.laysFinal RX12 RX12 "four" "[I" ∈ TW := inC_7 _ (List.mem_of_getElem? (i := 97) rfl) rfl
theorem wd_7_99 : Cond.lays RX12 RX12 "fourMany" "I" ∈ TW := inC_7 _ (List.mem_of_getElem? (i := 99) rfl) rfl
theorem wd_7_101 : Cond.laysFinal RX12 RX12 "dayWay" "[I" ∈ TW := inC_7 _ (List.mem_of_getElem? (i := 101) rfl) rfl
theorem wd_7_103 : Cond.laysFinal RX12 RX12 "broken" "[I" ∈ TW := inC_7 _ (List.mem_of_getElem? (i := 103) rfl) rfl
theorem wd_7_105 : Cond.laysFinal RX12 RX12 "bestWay" "[I" ∈ TW := inC_7 _ (List.mem_of_getElem? (i := 105) rfl) rfl
theorem wd_7_107 : Cond.laysFinal RX12 RX12 "needed" "[I" ∈ TW := inC_7 _ (List.mem_of_getElem? (i := 107) rfl) rfl
theorem wd_7_109 : Cond.laysFinal RX12 RX12 "shiftsIn" "[I" ∈ TW := inC_7 _ (List.mem_of_getElem? (i := 109) rfl) rfl
theorem wd_7_111 : Cond.lays RX12 RX12 "neededMany" "I" ∈ TW := inC_7 _ (List.mem_of_getElem? (i := 111) rfl) rfl
theorem wd_7_113 : Cond.laysFinal RX12 RX12 "wayPlace" "[I" ∈ TW := inC_7 _ (List.mem_of_getElem? (i := 113) rfl) rfl
theorem wd_7_115 : Cond.laysFinal RX12 RX12 "shiftsAhead" "[I" ∈ TW := inC_7 _ (List.mem_of_getElem? (i := 115) rfl) rfl
theorem wd_7_117 : Cond.lays RX12 RX12 "keptShop" "I" ∈ TW := inC_7 _ (List.mem_of_getElem? (i := 117) rfl) rfl
theorem wd_7_119 : Cond.lays RX12 RX12 "keptRules" "I" ∈ TW := inC_7 _ (List.mem_of_getElem? (i := 119) rfl) rfl
theorem wd_7_121 : Cond.lays RX12 RX12 "keptBest" "I" ∈ TW := inC_7 _ (List.mem_of_getElem? (i := 121) rfl) rfl
theorem wd_7_123 : Cond.laysFinal RX12 RX12 "studies" "[I" ∈ TW := inC_7 _ (List.mem_of_getElem? (i := 123) rfl) rfl
theorem wd_7_125 : Cond.laysFinal RX12 RX12 "studyDay" "[I" ∈ TW := inC_7 _ (List.mem_of_getElem? (i := 125) rfl) rfl
theorem wd_7_127 : Cond.laysFinal RX12 RX12 "studyTime" "[I" ∈ TW := inC_7 _ (List.mem_of_getElem? (i := 127) rfl) rfl
theorem wd_7_129 : Cond.laysFinal RX12 RX12 "weights" "[I" ∈ TW := inC_7 _ (List.mem_of_getElem? (i := 129) rfl) rfl
theorem wd_7_131 : Cond.lays RX12 RX12 "listed" "I" ∈ TW := inC_7 _ (List.mem_of_getElem? (i := 131) rfl) rfl
theorem wd_7_133 : Cond.lays RX12 RX12 "planned" "I" ∈ TW := inC_7 _ (List.mem_of_getElem? (i := 133) rfl) rfl
theorem wd_7_135 : Cond.laysFinal RX12 RX12 "pLong" "[I" ∈ TW := inC_7 _ (List.mem_of_getElem? (i := 135) rfl) rfl
theorem wd_7_137 : Cond.laysFinal RX12 RX12 "pDue" "[I" ∈ TW := inC_7 _ (List.mem_of_getElem? (i := 137) rfl) rfl
theorem wd_7_139 : Cond.laysFinal RX12 RX12 "pWaits" "[I" ∈ TW := inC_7 _ (List.mem_of_getElem? (i := 139) rfl) rfl
theorem wd_7_141 : Cond.laysFinal RX12 RX12 "placeAt" "[I" ∈ TW := inC_7 _ (List.mem_of_getElem? (i := 141) rfl) rfl
theorem wd_7_143 : Cond.laysFinal RX12 RX12 "bestPlace" "[I" ∈ TW := inC_7 _ (List.mem_of_getElem? (i := 143) rfl) rfl
theorem wd_7_145 : Cond.laysFinal RX12 RX12 "lateBy" "[I" ∈ TW := inC_7 _ (List.mem_of_getElem? (i := 145) rfl) rfl
theorem wd_7_147 : Cond.laysFinal RX12 RX12 "full" "[I" ∈ TW := inC_7 _ (List.mem_of_getElem? (i := 147) rfl) rfl
theorem wd_7_149 : Cond.laysFinal RX12 RX12 "row" "[I" ∈ TW := inC_7 _ (List.mem_of_getElem? (i := 149) rfl) rfl
theorem wd_7_151 : Cond.lays RX12 RX12 "rowMany" "I" ∈ TW := inC_7 _ (List.mem_of_getElem? (i := 151) rfl) rfl
theorem wd_7_154 : Cond.methodLink RL 17 yX12_days ∈ TW := inC_7 _ (List.mem_of_getElem? (i := 154) rfl) rfl
theorem wd_7_155 : Cond.instanceMethod yX12_days ∈ TW := inC_7 _ (List.mem_of_getElem? (i := 155) rfl) rfl
theorem wd_7_156 : Cond.selects RX12 yX12_days yX12_days ∈ TW := inC_7 _ (List.mem_of_getElem? (i := 156) rfl) rfl
theorem wd_7_157 : Cond.code yX12_days cX12_days 2 (some .int) ∈ TW := inC_7 _ (List.mem_of_getElem? (i := 157) rfl) rfl
theorem wd_7_158 : Cond.methodLink RX12 269 yX12_refuse ∈ TW := inC_7 _ (List.mem_of_getElem? (i := 158) rfl) rfl
theorem wd_7_159 : Cond.privateMethod yX12_refuse ∈ lw_tbl := inL_7 _ (List.mem_of_getElem? (i := 159) rfl)
theorem wd_7_160 : Cond.instanceMethod yX12_refuse ∈ TW := inC_7 _ (List.mem_of_getElem? (i := 160) rfl) rfl
theorem wd_7_161 : Cond.code yX12_refuse cX12_refuse 2 (some .int) ∈ TW := inC_7 _ (List.mem_of_getElem? (i := 161) rfl) rfl
theorem wd_7_162 : Cond.methodLink RL 21 yX12_feast ∈ TW := inC_7 _ (List.mem_of_getElem? (i := 162) rfl) rfl
theorem wd_7_163 : Cond.instanceMethod yX12_feast ∈ TW := inC_7 _ (List.mem_of_getElem? (i := 163) rfl) rfl
theorem wd_7_164 : Cond.selects RX12 yX12_feast yX12_feast ∈ TW := inC_7 _ (List.mem_of_getElem? (i := 164) rfl) rfl
theorem wd_7_165 : Cond.code yX12_feast cX12_feast 3 (some .int) ∈ TW := inC_7 _ (List.mem_of_getElem? (i := 165) rfl) rfl
theorem wd_7_166 : Cond.methodLink RL 26 yX12_workdays ∈ TW := inC_7 _ (List.mem_of_getElem? (i := 166) rfl) rfl
theorem wd_7_167 : Cond.instanceMethod yX12_workdays ∈ TW := inC_7 _ (List.mem_of_getElem? (i := 167) rfl) rfl
theorem wd_7_168 : Cond.selects RX12 yX12_workdays yX12_workdays ∈ TW := inC_7 _ (List.mem_of_getElem? (i := 168) rfl) rfl
theorem wd_7_169 : Cond.code yX12_workdays cX12_workdays 3 (some .int) ∈ TW := inC_7 _ (List.mem_of_getElem? (i := 169) rfl) rfl
theorem wd_7_170 : Cond.methodLink RX12 276 yX12_workdaysIn ∈ TW := inC_7 _ (List.mem_of_getElem? (i := 170) rfl) rfl
theorem wd_7_171 : Cond.privateMethod yX12_workdaysIn ∈ lw_tbl := inL_7 _ (List.mem_of_getElem? (i := 171) rfl)
theorem wd_7_172 : Cond.instanceMethod yX12_workdaysIn ∈ TW := inC_7 _ (List.mem_of_getElem? (i := 172) rfl) rfl
theorem wd_7_173 : Cond.code yX12_workdaysIn cX12_workdaysIn 5 (some .int) ∈ TW := inC_7 _ (List.mem_of_getElem? (i := 173) rfl) rfl
theorem wd_7_174 : Cond.methodLink RL 31 yX12_person ∈ TW := inC_7 _ (List.mem_of_getElem? (i := 174) rfl) rfl
theorem wd_7_175 : Cond.instanceMethod yX12_person ∈ TW := inC_7 _ (List.mem_of_getElem? (i := 175) rfl) rfl
theorem wd_7_176 : Cond.selects RX12 yX12_person yX12_person ∈ TW := inC_7 _ (List.mem_of_getElem? (i := 176) rfl) rfl
theorem wd_7_177 : Cond.code yX12_person cX12_person 6 (some .int) ∈ TW := inC_7 _ (List.mem_of_getElem? (i := 177) rfl) rfl
theorem wd_7_178 : Cond.methodLink RX12 280 yX12_isShop ∈ TW := inC_7 _ (List.mem_of_getElem? (i := 178) rfl) rfl
theorem wd_7_179 : Cond.static yX12_isShop ∈ TW := inC_7 _ (List.mem_of_getElem? (i := 179) rfl) rfl
theorem wd_7_180 : Cond.code yX12_isShop cX12_isShop 1 (some .boolean) ∈ TW := inC_7 _ (List.mem_of_getElem? (i := 180) rfl) rfl
theorem wd_7_181 : Cond.methodLink RX12 262 yX12_in ∈ TW := inC_7 _ (List.mem_of_getElem? (i := 181) rfl) rfl
theorem wd_7_182 : Cond.static yX12_in ∈ TW := inC_7 _ (List.mem_of_getElem? (i := 182) rfl) rfl
theorem wd_7_183 : Cond.code yX12_in cX12_in 3 (some .boolean) ∈ TW := inC_7 _ (List.mem_of_getElem? (i := 183) rfl) rfl
theorem wd_7_184 : Cond.methodLink RL 35 yX12_leave ∈ TW := inC_7 _ (List.mem_of_getElem? (i := 184) rfl) rfl
theorem wd_7_185 : Cond.instanceMethod yX12_leave ∈ TW := inC_7 _ (List.mem_of_getElem? (i := 185) rfl) rfl
theorem wd_7_186 : Cond.selects RX12 yX12_leave yX12_leave ∈ TW := inC_7 _ (List.mem_of_getElem? (i := 186) rfl) rfl
theorem wd_7_187 : Cond.code yX12_leave cX12_leave 2 (some .int) ∈ TW := inC_7 _ (List.mem_of_getElem? (i := 187) rfl) rfl
theorem wd_7_188 : Cond.methodLink RX12 284 yX12_isPerson ∈ TW := inC_7 _ (List.mem_of_getElem? (i := 188) rfl) rfl
theorem wd_7_189 : Cond.privateMethod yX12_isPerson ∈ lw_tbl := inL_7 _ (List.mem_of_getElem? (i := 189) rfl)
theorem wd_7_190 : Cond.instanceMethod yX12_isPerson ∈ TW := inC_7 _ (List.mem_of_getElem? (i := 190) rfl) rfl
theorem wd_7_191 : Cond.code yX12_isPerson cX12_isPerson 2 (some .boolean) ∈ TW := inC_7 _ (List.mem_of_getElem? (i := 191) rfl) rfl
theorem wd_7_192 : Cond.methodLink RL 42 yX12_feed ∈ TW := inC_7 _ (List.mem_of_getElem? (i := 192) rfl) rfl
theorem wd_7_193 : Cond.instanceMethod yX12_feed ∈ TW := inC_7 _ (List.mem_of_getElem? (i := 193) rfl) rfl
theorem wd_7_194 : Cond.selects RX12 yX12_feed yX12_feed ∈ TW := inC_7 _ (List.mem_of_getElem? (i := 194) rfl) rfl
theorem wd_7_195 : Cond.code yX12_feed cX12_feed 5 (some .int) ∈ TW := inC_7 _ (List.mem_of_getElem? (i := 195) rfl) rfl
theorem wd_7_196 : Cond.constantLong RX12 290 (255) ∈ TW := inC_7 _ (List.mem_of_getElem? (i := 196) rfl) rfl
theorem wd_7_197 : Cond.methodLink RL 46 yX12_act ∈ TW := inC_7 _ (List.mem_of_getElem? (i := 197) rfl) rfl
theorem wd_7_198 : Cond.instanceMethod yX12_act ∈ TW := inC_7 _ (List.mem_of_getElem? (i := 198) rfl) rfl
theorem wd_7_199 : Cond.selects RX12 yX12_act yX12_act ∈ TW := inC_7 _ (List.mem_of_getElem? (i := 199) rfl) rfl
theorem wd_7_200 : Cond.code yX12_act cX12_act 4 (some .int) ∈ TW := inC_7 _ (List.mem_of_getElem? (i := 200) rfl) rfl
theorem wd_7_201 : Cond.methodLink RX12 305 yX12_byteHere ∈ TW := inC_7 _ (List.mem_of_getElem? (i := 201) rfl) rfl
theorem wd_7_202 : Cond.privateMethod yX12_byteHere ∈ lw_tbl := inL_7 _ (List.mem_of_getElem? (i := 202) rfl)
theorem wd_7_203 : Cond.instanceMethod yX12_byteHere ∈ TW := inC_7 _ (List.mem_of_getElem? (i := 203) rfl) rfl
theorem wd_7_204 : Cond.code yX12_byteHere cX12_byteHere 1 (some .int) ∈ TW := inC_7 _ (List.mem_of_getElem? (i := 204) rfl) rfl
theorem wd_7_205 : Cond.methodLink RX12 350 yX12_readRule ∈ TW := inC_7 _ (List.mem_of_getElem? (i := 205) rfl) rfl
theorem wd_7_206 : Cond.privateMethod yX12_readRule ∈ lw_tbl := inL_7 _ (List.mem_of_getElem? (i := 206) rfl)
theorem wd_7_207 : Cond.instanceMethod yX12_readRule ∈ TW := inC_7 _ (List.mem_of_getElem? (i := 207) rfl) rfl
theorem wd_7_208 : Cond.code yX12_readRule cX12_readRule 3 (some .boolean) ∈ TW := inC_7 _ (List.mem_of_getElem? (i := 208) rfl) rfl
theorem wd_7_209 : Cond.methodLink RX12 333 yX12_opens ∈ TW := inC_7 _ (List.mem_of_getElem? (i := 209) rfl) rfl
theorem wd_7_210 : Cond.privateMethod yX12_opens ∈ lw_tbl := inL_7 _ (List.mem_of_getElem? (i := 210) rfl)
theorem wd_7_211 : Cond.instanceMethod yX12_opens ∈ TW := inC_7 _ (List.mem_of_getElem? (i := 211) rfl) rfl
theorem wd_7_212 : Cond.code yX12_opens cX12_opens 2 none ∈ TW := inC_7 _ (List.mem_of_getElem? (i := 212) rfl) rfl
theorem wd_7_213 : Cond.methodLink RX12 337 yX12_readTest ∈ TW := inC_7 _ (List.mem_of_getElem? (i := 213) rfl) rfl
theorem wd_7_214 : Cond.privateMethod yX12_readTest ∈ lw_tbl := inL_7 _ (List.mem_of_getElem? (i := 214) rfl)
theorem wd_7_215 : Cond.instanceMethod yX12_readTest ∈ TW := inC_7 _ (List.mem_of_getElem? (i := 215) rfl) rfl
theorem wd_7_216 : Cond.code yX12_readTest cX12_readTest 4 (some .boolean) ∈ TW := inC_7 _ (List.mem_of_getElem? (i := 216) rfl) rfl
theorem wd_7_217 : Cond.methodLink RX12 318 yX12_readSum ∈ TW := inC_7 _ (List.mem_of_getElem? (i := 217) rfl) rfl
theorem wd_7_218 : Cond.privateMethod yX12_readSum ∈ lw_tbl := inL_7 _ (List.mem_of_getElem? (i := 218) rfl)
theorem wd_7_219 : Cond.instanceMethod yX12_readSum ∈ TW := inC_7 _ (List.mem_of_getElem? (i := 219) rfl) rfl
theorem wd_7_220 : Cond.code yX12_readSum cX12_readSum 5 (some .int) ∈ TW := inC_7 _ (List.mem_of_getElem? (i := 220) rfl) rfl
theorem wd_7_221 : Cond.methodLink RX12 315 yX12_readUnit ∈ TW := inC_7 _ (List.mem_of_getElem? (i := 221) rfl) rfl
theorem wd_7_222 : Cond.privateMethod yX12_readUnit ∈ lw_tbl := inL_7 _ (List.mem_of_getElem? (i := 222) rfl)
theorem wd_7_223 : Cond.instanceMethod yX12_readUnit ∈ TW := inC_7 _ (List.mem_of_getElem? (i := 223) rfl) rfl
theorem wd_7_224 : Cond.code yX12_readUnit cX12_readUnit 4 (some .int) ∈ TW := inC_7 _ (List.mem_of_getElem? (i := 224) rfl) rfl
theorem wd_7_225 : Cond.methodLink RX12 309 yX12_factOf ∈ TW := inC_7 _ (List.mem_of_getElem? (i := 225) rfl) rfl
theorem wd_7_226 : Cond.static yX12_factOf ∈ TW := inC_7 _ (List.mem_of_getElem? (i := 226) rfl) rfl
theorem wd_7_227 : Cond.code yX12_factOf cX12_factOf 1 (some .int) ∈ TW := inC_7 _ (List.mem_of_getElem? (i := 227) rfl) rfl
theorem wd_7_228 : Cond.methodLink RX12 341 yX12_partEnds ∈ TW := inC_7 _ (List.mem_of_getElem? (i := 228) rfl) rfl
theorem wd_7_229 : Cond.privateMethod yX12_partEnds ∈ lw_tbl := inL_7 _ (List.mem_of_getElem? (i := 229) rfl)
theorem wd_7_230 : Cond.instanceMethod yX12_partEnds ∈ TW := inC_7 _ (List.mem_of_getElem? (i := 230) rfl) rfl
theorem wd_7_231 : Cond.code yX12_partEnds cX12_partEnds 1 none ∈ TW := inC_7 _ (List.mem_of_getElem? (i := 231) rfl) rfl
theorem wd_7_232 : Cond.methodLink RX12 324 yX12_topSign ∈ TW := inC_7 _ (List.mem_of_getElem? (i := 232) rfl) rfl
theorem wd_7_233 : Cond.privateMethod yX12_topSign ∈ lw_tbl := inL_7 _ (List.mem_of_getElem? (i := 233) rfl)
theorem wd_7_234 : Cond.instanceMethod yX12_topSign ∈ TW := inC_7 _ (List.mem_of_getElem? (i := 234) rfl) rfl
theorem wd_7_235 : Cond.code yX12_topSign cX12_topSign 1 (some .int) ∈ TW := inC_7 _ (List.mem_of_getElem? (i := 235) rfl) rfl
theorem wd_7_236 : Cond.methodLink RX12 344 yX12_orsEnd ∈ TW := inC_7 _ (List.mem_of_getElem? (i := 236) rfl) rfl
theorem wd_7_237 : Cond.privateMethod yX12_orsEnd ∈ lw_tbl := inL_7 _ (List.mem_of_getElem? (i := 237) rfl)
theorem wd_7_238 : Cond.instanceMethod yX12_orsEnd ∈ TW := inC_7 _ (List.mem_of_getElem? (i := 238) rfl) rfl
theorem wd_7_239 : Cond.code yX12_orsEnd cX12_orsEnd 1 none ∈ TW := inC_7 _ (List.mem_of_getElem? (i := 239) rfl) rfl
theorem wd_8_0 : Cond.constant RX12 353 (1000000) ∈ TW := inC_8 _ (List.mem_of_getElem? (i := 0) rfl) rfl
theorem wd_8_1 : Cond.methodLink RL 50 yX12_strike ∈ TW := inC_8 _ (List.mem_of_getElem? (i := 1) rfl) rfl
theorem wd_8_2 : Cond.instanceMethod yX12_strike ∈ TW := inC_8 _ (List.mem_of_getElem? (i := 2) rfl) rfl
theorem wd_8_3 : Cond.selects RX12 yX12_strike yX12_strike ∈ TW := inC_8 _ (List.mem_of_getElem? (i := 3) rfl) rfl
theorem wd_8_4 : Cond.code yX12_strike cX12_strike 3 (some .int) ∈ TW := inC_8 _ (List.mem_of_getElem? (i := 4) rfl) rfl
theorem wd_8_5 : Cond.methodLink RL 55 yX12_kind ∈ TW := inC_8 _ (List.mem_of_getElem? (i := 5) rfl) rfl
theorem wd_8_6 : Cond.instanceMethod yX12_kind ∈ TW := inC_8 _ (List.mem_of_getElem? (i := 6) rfl) rfl
theorem wd_8_7 : Cond.selects RX12 yX12_kind yX12_kind ∈ TW := inC_8 _ (List.mem_of_getElem? (i := 7) rfl) rfl
theorem wd_8_8 : Cond.code yX12_kind cX12_kind 7 (some .int) ∈ TW := inC_8 _ (List.mem_of_getElem? (i := 8) rfl) rfl
theorem wd_8_9 : Cond.methodLink RX12 367 yX12_isWhat ∈ TW := inC_8 _ (List.mem_of_getElem? (i := 9) rfl) rfl
theorem wd_8_10 : Cond.static yX12_isWhat ∈ TW := inC_8 _ (List.mem_of_getElem? (i := 10) rfl) rfl
theorem wd_8_11 : Cond.code yX12_isWhat cX12_isWhat 1 (some .boolean) ∈ TW := inC_8 _ (List.mem_of_getElem? (i := 11) rfl) rfl
theorem wd_8_12 : Cond.methodLink RX12 370 yX12_wrongSums ∈ TW := inC_8 _ (List.mem_of_getElem? (i := 12) rfl) rfl
theorem wd_8_13 : Cond.static yX12_wrongSums ∈ TW := inC_8 _ (List.mem_of_getElem? (i := 13) rfl) rfl
theorem wd_8_14 : Cond.code yX12_wrongSums cX12_wrongSums 2 (some .int) ∈ TW := inC_8 _ (List.mem_of_getElem? (i := 14) rfl) rfl
theorem wd_8_15 : Cond.methodLink RX12 373 yX12_givingAct ∈ TW := inC_8 _ (List.mem_of_getElem? (i := 15) rfl) rfl
theorem wd_8_16 : Cond.privateMethod yX12_givingAct ∈ lw_tbl := inL_8 _ (List.mem_of_getElem? (i := 16) rfl)
theorem wd_8_17 : Cond.instanceMethod yX12_givingAct ∈ TW := inC_8 _ (List.mem_of_getElem? (i := 17) rfl) rfl
theorem wd_8_18 : Cond.code yX12_givingAct cX12_givingAct 7 (some .int) ∈ TW := inC_8 _ (List.mem_of_getElem? (i := 18) rfl) rfl
theorem wd_8_19 : Cond.methodLink RX12 360 yX12_findFacts ∈ TW := inC_8 _ (List.mem_of_getElem? (i := 19) rfl) rfl
theorem wd_8_20 : Cond.privateMethod yX12_findFacts ∈ lw_tbl := inL_8 _ (List.mem_of_getElem? (i := 20) rfl)
theorem wd_8_21 : Cond.instanceMethod yX12_findFacts ∈ TW := inC_8 _ (List.mem_of_getElem? (i := 21) rfl) rfl
theorem wd_8_22 : Cond.code yX12_findFacts cX12_findFacts 5 none ∈ TW := inC_8 _ (List.mem_of_getElem? (i := 22) rfl) rfl
theorem wd_8_23 : Cond.methodLink RX12 354 yX12_ones ∈ TW := inC_8 _ (List.mem_of_getElem? (i := 23) rfl) rfl
theorem wd_8_24 : Cond.static yX12_ones ∈ TW := inC_8 _ (List.mem_of_getElem? (i := 24) rfl) rfl
theorem wd_8_25 : Cond.code yX12_ones cX12_ones 3 (some .int) ∈ TW := inC_8 _ (List.mem_of_getElem? (i := 25) rfl) rfl
theorem wd_8_26 : Cond.methodLink RX12 364 yX12_kindIn ∈ TW := inC_8 _ (List.mem_of_getElem? (i := 26) rfl) rfl
theorem wd_8_27 : Cond.privateMethod yX12_kindIn ∈ lw_tbl := inL_8 _ (List.mem_of_getElem? (i := 27) rfl)
theorem wd_8_28 : Cond.instanceMethod yX12_kindIn ∈ TW := inC_8 _ (List.mem_of_getElem? (i := 28) rfl) rfl
theorem wd_8_29 : Cond.code yX12_kindIn cX12_kindIn 2 (some .int) ∈ TW := inC_8 _ (List.mem_of_getElem? (i := 29) rfl) rfl
theorem wd_8_30 : Cond.methodLink RX12 377 yX12_quarrel ∈ TW := inC_8 _ (List.mem_of_getElem? (i := 30) rfl) rfl
theorem wd_8_31 : Cond.privateMethod yX12_quarrel ∈ lw_tbl := inL_8 _ (List.mem_of_getElem? (i := 31) rfl)
theorem wd_8_32 : Cond.instanceMethod yX12_quarrel ∈ TW := inC_8 _ (List.mem_of_getElem? (i := 32) rfl) rfl
theorem wd_8_33 : Cond.code yX12_quarrel cX12_quarrel 4 (some .int) ∈ TW := inC_8 _ (List.mem_of_getElem? (i := 33) rfl) rfl
theorem wd_8_34 : Cond.methodLink RL 60 yX12_term ∈ TW := inC_8 _ (List.mem_of_getElem? (i := 34) rfl) rfl
theorem wd_8_35 : Cond.instanceMethod yX12_term ∈ TW := inC_8 _ (List.mem_of_getElem? (i := 35) rfl) rfl
theorem wd_8_36 : Cond.selects RX12 yX12_term yX12_term ∈ TW := inC_8 _ (List.mem_of_getElem? (i := 36) rfl) rfl
theorem wd_8_37 : Cond.code yX12_term cX12_term 5 (some .int) ∈ TW := inC_8 _ (List.mem_of_getElem? (i := 37) rfl) rfl
theorem wd_8_38 : Cond.methodLink RL 65 yX12_open ∈ TW := inC_8 _ (List.mem_of_getElem? (i := 38) rfl) rfl
theorem wd_8_39 : Cond.instanceMethod yX12_open ∈ TW := inC_8 _ (List.mem_of_getElem? (i := 39) rfl) rfl
theorem wd_8_40 : Cond.selects RX12 yX12_open yX12_open ∈ TW := inC_8 _ (List.mem_of_getElem? (i := 40) rfl) rfl
theorem wd_8_41 : Cond.code yX12_open cX12_open 7 (some .int) ∈ TW := inC_8 _ (List.mem_of_getElem? (i := 41) rfl) rfl
theorem wd_8_42 : Cond.methodLink RL 70 yX12_paper ∈ TW := inC_8 _ (List.mem_of_getElem? (i := 42) rfl) rfl
theorem wd_8_43 : Cond.instanceMethod yX12_paper ∈ TW := inC_8 _ (List.mem_of_getElem? (i := 43) rfl) rfl
theorem wd_8_44 : Cond.selects RX12 yX12_paper yX12_paper ∈ TW := inC_8 _ (List.mem_of_getElem? (i := 44) rfl) rfl
theorem wd_8_45 : Cond.code yX12_paper cX12_paper 4 (some .int) ∈ TW := inC_8 _ (List.mem_of_getElem? (i := 45) rfl) rfl
theorem wd_8_46 : Cond.methodLink RX12 405 yX12_isMatter ∈ TW := inC_8 _ (List.mem_of_getElem? (i := 46) rfl) rfl
theorem wd_8_47 : Cond.privateMethod yX12_isMatter ∈ lw_tbl := inL_8 _ (List.mem_of_getElem? (i := 47) rfl)
theorem wd_8_48 : Cond.instanceMethod yX12_isMatter ∈ TW := inC_8 _ (List.mem_of_getElem? (i := 48) rfl) rfl
theorem wd_8_49 : Cond.code yX12_isMatter cX12_isMatter 2 (some .boolean) ∈ TW := inC_8 _ (List.mem_of_getElem? (i := 49) rfl) rfl
theorem wd_8_50 : Cond.methodLink RX12 388 yX12_isWithdrawn ∈ TW := inC_8 _ (List.mem_of_getElem? (i := 50) rfl) rfl
theorem wd_8_51 : Cond.privateMethod yX12_isWithdrawn ∈ lw_tbl := inL_8 _ (List.mem_of_getElem? (i := 51) rfl)
theorem wd_8_52 : Cond.instanceMethod yX12_isWithdrawn ∈ TW := inC_8 _ (List.mem_of_getElem? (i := 52) rfl) rfl
theorem wd_8_53 : Cond.code yX12_isWithdrawn cX12_isWithdrawn 5 (some .boolean) ∈ TW := inC_8 _ (List.mem_of_getElem? (i := 53) rfl) rfl
theorem wd_8_54 : Cond.methodLink RX12 384 yX12_givenOn ∈ TW := inC_8 _ (List.mem_of_getElem? (i := 54) rfl) rfl
theorem wd_8_55 : Cond.privateMethod yX12_givenOn ∈ lw_tbl := inL_8 _ (List.mem_of_getElem? (i := 55) rfl)
theorem wd_8_56 : Cond.instanceMethod yX12_givenOn ∈ TW := inC_8 _ (List.mem_of_getElem? (i := 56) rfl) rfl
theorem wd_8_57 : Cond.code yX12_givenOn cX12_givenOn 7 (some .int) ∈ TW := inC_8 _ (List.mem_of_getElem? (i := 57) rfl) rfl
theorem wd_8_58 : Cond.methodLink RX12 408 yX12_tell ∈ TW := inC_8 _ (List.mem_of_getElem? (i := 58) rfl) rfl
theorem wd_8_59 : Cond.privateMethod yX12_tell ∈ lw_tbl := inL_8 _ (List.mem_of_getElem? (i := 59) rfl)
theorem wd_8_60 : Cond.instanceMethod yX12_tell ∈ TW := inC_8 _ (List.mem_of_getElem? (i := 60) rfl) rfl
theorem wd_8_61 : Cond.code yX12_tell cX12_tell 6 none ∈ TW := inC_8 _ (List.mem_of_getElem? (i := 61) rfl) rfl
theorem wd_8_62 : Cond.methodLink RL 74 yX12_withdraw ∈ TW := inC_8 _ (List.mem_of_getElem? (i := 62) rfl) rfl
theorem wd_8_63 : Cond.instanceMethod yX12_withdraw ∈ TW := inC_8 _ (List.mem_of_getElem? (i := 63) rfl) rfl
theorem wd_8_64 : Cond.selects RX12 yX12_withdraw yX12_withdraw ∈ TW := inC_8 _ (List.mem_of_getElem? (i := 64) rfl) rfl
theorem wd_8_65 : Cond.code yX12_withdraw cX12_withdraw 2 (some .int) ∈ TW := inC_8 _ (List.mem_of_getElem? (i := 65) rfl) rfl
theorem wd_8_66 : Cond.methodLink RL 78 yX12_state ∈ TW := inC_8 _ (List.mem_of_getElem? (i := 66) rfl) rfl
theorem wd_8_67 : Cond.instanceMethod yX12_state ∈ TW := inC_8 _ (List.mem_of_getElem? (i := 67) rfl) rfl
theorem wd_8_68 : Cond.selects RX12 yX12_state yX12_state ∈ TW := inC_8 _ (List.mem_of_getElem? (i := 68) rfl) rfl
theorem wd_8_69 : Cond.code yX12_state cX12_state 4 (some .int) ∈ TW := inC_8 _ (List.mem_of_getElem? (i := 69) rfl) rfl
theorem wd_8_70 : Cond.methodLink RX12 402 yX12_stateOf ∈ TW := inC_8 _ (List.mem_of_getElem? (i := 70) rfl) rfl
theorem wd_8_71 : Cond.privateMethod yX12_stateOf ∈ lw_tbl := inL_8 _ (List.mem_of_getElem? (i := 71) rfl)
theorem wd_8_72 : Cond.instanceMethod yX12_stateOf ∈ TW := inC_8 _ (List.mem_of_getElem? (i := 72) rfl) rfl
theorem wd_8_73 : Cond.code yX12_stateOf cX12_stateOf 5 (some .int) ∈ TW := inC_8 _ (List.mem_of_getElem? (i := 73) rfl) rfl
theorem wd_8_74 : Cond.methodLink RX12 392 yX12_ruling ∈ TW := inC_8 _ (List.mem_of_getElem? (i := 74) rfl) rfl
theorem wd_8_75 : Cond.privateMethod yX12_ruling ∈ lw_tbl := inL_8 _ (List.mem_of_getElem? (i := 75) rfl)
theorem wd_8_76 : Cond.instanceMethod yX12_ruling ∈ TW := inC_8 _ (List.mem_of_getElem? (i := 76) rfl) rfl
theorem wd_8_77 : Cond.code yX12_ruling cX12_ruling 6 (some .int) ∈ TW := inC_8 _ (List.mem_of_getElem? (i := 77) rfl) rfl
theorem wd_8_78 : Cond.methodLink RX12 396 yX12_answer ∈ TW := inC_8 _ (List.mem_of_getElem? (i := 78) rfl) rfl
theorem wd_8_79 : Cond.privateMethod yX12_answer ∈ lw_tbl := inL_8 _ (List.mem_of_getElem? (i := 79) rfl)
theorem wd_8_80 : Cond.instanceMethod yX12_answer ∈ TW := inC_8 _ (List.mem_of_getElem? (i := 80) rfl) rfl
theorem wd_8_81 : Cond.code yX12_answer cX12_answer 6 (some .int) ∈ TW := inC_8 _ (List.mem_of_getElem? (i := 81) rfl) rfl
theorem wd_8_82 : Cond.methodLink RX12 399 yX12_wholeSince ∈ TW := inC_8 _ (List.mem_of_getElem? (i := 82) rfl) rfl
theorem wd_8_83 : Cond.privateMethod yX12_wholeSince ∈ lw_tbl := inL_8 _ (List.mem_of_getElem? (i := 83) rfl)
theorem wd_8_84 : Cond.instanceMethod yX12_wholeSince ∈ TW := inC_8 _ (List.mem_of_getElem? (i := 84) rfl) rfl
theorem wd_8_85 : Cond.code yX12_wholeSince cX12_wholeSince 7 (some .int) ∈ TW := inC_8 _ (List.mem_of_getElem? (i := 85) rfl) rfl
theorem wd_8_86 : Cond.methodLink RL 82 yX12_matterOf ∈ TW := inC_8 _ (List.mem_of_getElem? (i := 86) rfl) rfl
theorem wd_8_87 : Cond.instanceMethod yX12_matterOf ∈ TW := inC_8 _ (List.mem_of_getElem? (i := 87) rfl) rfl
theorem wd_8_88 : Cond.selects RX12 yX12_matterOf yX12_matterOf ∈ TW := inC_8 _ (List.mem_of_getElem? (i := 88) rfl) rfl
theorem wd_8_89 : Cond.code yX12_matterOf cX12_matterOf 4 (some .int) ∈ TW := inC_8 _ (List.mem_of_getElem? (i := 89) rfl) rfl
theorem wd_8_90 : Cond.methodLink RX12 412 yX12_lets ∈ TW := inC_8 _ (List.mem_of_getElem? (i := 90) rfl) rfl
theorem wd_8_91 : Cond.privateMethod yX12_lets ∈ lw_tbl := inL_8 _ (List.mem_of_getElem? (i := 91) rfl)
theorem wd_8_92 : Cond.instanceMethod yX12_lets ∈ TW := inC_8 _ (List.mem_of_getElem? (i := 92) rfl) rfl
theorem wd_8_93 : Cond.code yX12_lets cX12_lets 4 (some .boolean) ∈ TW := inC_8 _ (List.mem_of_getElem? (i := 93) rfl) rfl
theorem wd_8_94 : Cond.methodLink RL 86 yX12_votes ∈ TW := inC_8 _ (List.mem_of_getElem? (i := 94) rfl) rfl
theorem wd_8_95 : Cond.instanceMethod yX12_votes ∈ TW := inC_8 _ (List.mem_of_getElem? (i := 95) rfl) rfl
theorem wd_8_96 : Cond.selects RX12 yX12_votes yX12_votes ∈ TW := inC_8 _ (List.mem_of_getElem? (i := 96) rfl) rfl
theorem wd_8_97 : Cond.code yX12_votes cX12_votes 4 (some .int) ∈ TW := inC_8 _ (List.mem_of_getElem? (i := 97) rfl) rfl
theorem wd_8_98 : Cond.methodLink RL 90 yX12_elect ∈ TW := inC_8 _ (List.mem_of_getElem? (i := 98) rfl) rfl
theorem wd_8_99 : Cond.instanceMethod yX12_elect ∈ TW := inC_8 _ (List.mem_of_getElem? (i := 99) rfl) rfl
theorem wd_8_100 : Cond.selects RX12 yX12_elect yX12_elect ∈ TW := inC_8 _ (List.mem_of_getElem? (i := 100) rfl) rfl
theorem wd_8_101 : Cond.code yX12_elect cX12_elect 8 (some .int) ∈ TW := inC_8 _ (List.mem_of_getElem? (i := 101) rfl) rfl
theorem wd_8_102 : Cond.methodLink RL 94 yX12_seat ∈ TW := inC_8 _ (List.mem_of_getElem? (i := 102) rfl) rfl
theorem wd_8_103 : Cond.instanceMethod yX12_seat ∈ TW := inC_8 _ (List.mem_of_getElem? (i := 103) rfl) rfl
theorem wd_8_104 : Cond.selects RX12 yX12_seat yX12_seat ∈ TW := inC_8 _ (List.mem_of_getElem? (i := 104) rfl) rfl
theorem wd_8_105 : Cond.code yX12_seat cX12_seat 3 (some .int) ∈ TW := inC_8 _ (List.mem_of_getElem? (i := 105) rfl) rfl
theorem wd_8_106 : Cond.methodLink RX12 415 yX12_isSeat ∈ TW := inC_8 _ (List.mem_of_getElem? (i := 106) rfl) rfl
theorem wd_8_107 : Cond.privateMethod yX12_isSeat ∈ lw_tbl := inL_8 _ (List.mem_of_getElem? (i := 107) rfl)
theorem wd_8_108 : Cond.instanceMethod yX12_isSeat ∈ TW := inC_8 _ (List.mem_of_getElem? (i := 108) rfl) rfl
theorem wd_8_109 : Cond.code yX12_isSeat cX12_isSeat 2 (some .boolean) ∈ TW := inC_8 _ (List.mem_of_getElem? (i := 109) rfl) rfl
theorem wd_8_110 : Cond.methodLink RL 98 yX12_sit ∈ TW := inC_8 _ (List.mem_of_getElem? (i := 110) rfl) rfl
theorem wd_8_111 : Cond.instanceMethod yX12_sit ∈ TW := inC_8 _ (List.mem_of_getElem? (i := 111) rfl) rfl
theorem wd_8_112 : Cond.selects RX12 yX12_sit yX12_sit ∈ TW := inC_8 _ (List.mem_of_getElem? (i := 112) rfl) rfl
theorem wd_8_113 : Cond.code yX12_sit cX12_sit 5 (some .int) ∈ TW := inC_8 _ (List.mem_of_getElem? (i := 113) rfl) rfl
theorem wd_8_114 : Cond.methodLink RL 102 yX12_session ∈ TW := inC_8 _ (List.mem_of_getElem? (i := 114) rfl) rfl
theorem wd_8_115 : Cond.instanceMethod yX12_session ∈ TW := inC_8 _ (List.mem_of_getElem? (i := 115) rfl) rfl
theorem wd_8_116 : Cond.selects RX12 yX12_session yX12_session ∈ TW := inC_8 _ (List.mem_of_getElem? (i := 116) rfl) rfl
theorem wd_8_117 : Cond.code yX12_session cX12_session 3 (some .int) ∈ TW := inC_8 _ (List.mem_of_getElem? (i := 117) rfl) rfl
theorem wd_8_118 : Cond.methodLink RX12 418 yX12_allSit ∈ TW := inC_8 _ (List.mem_of_getElem? (i := 118) rfl) rfl
theorem wd_8_119 : Cond.privateMethod yX12_allSit ∈ lw_tbl := inL_8 _ (List.mem_of_getElem? (i := 119) rfl)
theorem wd_8_120 : Cond.instanceMethod yX12_allSit ∈ TW := inC_8 _ (List.mem_of_getElem? (i := 120) rfl) rfl
theorem wd_8_121 : Cond.code yX12_allSit cX12_allSit 4 (some .boolean) ∈ TW := inC_8 _ (List.mem_of_getElem? (i := 121) rfl) rfl
theorem wd_8_122 : Cond.methodLink RL 106 yX12_vote ∈ TW := inC_8 _ (List.mem_of_getElem? (i := 122) rfl) rfl
theorem wd_8_123 : Cond.instanceMethod yX12_vote ∈ TW := inC_8 _ (List.mem_of_getElem? (i := 123) rfl) rfl
theorem wd_8_124 : Cond.selects RX12 yX12_vote yX12_vote ∈ TW := inC_8 _ (List.mem_of_getElem? (i := 124) rfl) rfl
theorem wd_8_125 : Cond.code yX12_vote cX12_vote 6 (some .int) ∈ TW := inC_8 _ (List.mem_of_getElem? (i := 125) rfl) rfl
theorem wd_8_126 : Cond.methodLink RL 110 yX12_sessionOf ∈ TW := inC_8 _ (List.mem_of_getElem? (i := 126) rfl) rfl
theorem wd_8_127 : Cond.instanceMethod yX12_sessionOf ∈ TW := inC_8 _ (List.mem_of_getElem? (i := 127) rfl) rfl
theorem wd_8_128 : Cond.selects RX12 yX12_sessionOf yX12_sessionOf ∈ TW := inC_8 _ (List.mem_of_getElem? (i := 128) rfl) rfl
theorem wd_8_129 : Cond.code yX12_sessionOf cX12_sessionOf 3 (some .int) ∈ TW := inC_8 _ (List.mem_of_getElem? (i := 129) rfl) rfl
theorem wd_8_130 : Cond.methodLink RX12 424 yX12_isSession ∈ TW := inC_8 _ (List.mem_of_getElem? (i := 130) rfl) rfl
theorem wd_8_131 : Cond.privateMethod yX12_isSession ∈ lw_tbl := inL_8 _ (List.mem_of_getElem? (i := 131) rfl)
theorem wd_8_132 : Cond.instanceMethod yX12_isSession ∈ TW := inC_8 _ (List.mem_of_getElem? (i := 132) rfl) rfl
theorem wd_8_133 : Cond.code yX12_isSession cX12_isSession 2 (some .boolean) ∈ TW := inC_8 _ (List.mem_of_getElem? (i := 133) rfl) rfl
theorem wd_8_134 : Cond.methodLink RL 114 yX12_voids ∈ TW := inC_8 _ (List.mem_of_getElem? (i := 134) rfl) rfl
theorem wd_8_135 : Cond.instanceMethod yX12_voids ∈ TW := inC_8 _ (List.mem_of_getElem? (i := 135) rfl) rfl
theorem wd_8_136 : Cond.selects RX12 yX12_voids yX12_voids ∈ TW := inC_8 _ (List.mem_of_getElem? (i := 136) rfl) rfl
theorem wd_8_137 : Cond.code yX12_voids cX12_voids 5 (some .int) ∈ TW := inC_8 _ (List.mem_of_getElem? (i := 137) rfl) rfl
theorem wd_8_138 : Cond.methodLink RL 118 yX12_set ∈ TW := inC_8 _ (List.mem_of_getElem? (i := 138) rfl) rfl
theorem wd_8_139 : Cond.instanceMethod yX12_set ∈ TW := inC_8 _ (List.mem_of_getElem? (i := 139) rfl) rfl
theorem wd_8_140 : Cond.selects RX12 yX12_set yX12_set ∈ TW := inC_8 _ (List.mem_of_getElem? (i := 140) rfl) rfl
theorem wd_8_141 : Cond.code yX12_set cX12_set 4 (some .int) ∈ TW := inC_8 _ (List.mem_of_getElem? (i := 141) rfl) rfl
theorem wd_8_142 : Cond.methodLink RL 123 yX12_agree ∈ TW := inC_8 _ (List.mem_of_getElem? (i := 142) rfl) rfl
theorem wd_8_143 : Cond.instanceMethod yX12_agree ∈ TW := inC_8 _ (List.mem_of_getElem? (i := 143) rfl) rfl
theorem wd_8_144 : Cond.selects RX12 yX12_agree yX12_agree ∈ TW := inC_8 _ (List.mem_of_getElem? (i := 144) rfl) rfl
theorem wd_8_145 : Cond.code yX12_agree cX12_agree 7 (some .int) ∈ TW := inC_8 _ (List.mem_of_getElem? (i := 145) rfl) rfl
theorem wd_8_146 : Cond.methodLink RX12 430 yX12_agrees ∈ TW := inC_8 _ (List.mem_of_getElem? (i := 146) rfl) rfl
theorem wd_8_147 : Cond.privateMethod yX12_agrees ∈ lw_tbl := inL_8 _ (List.mem_of_getElem? (i := 147) rfl)
theorem wd_8_148 : Cond.instanceMethod yX12_agrees ∈ TW := inC_8 _ (List.mem_of_getElem? (i := 148) rfl) rfl
theorem wd_8_149 : Cond.code yX12_agrees cX12_agrees 4 (some .boolean) ∈ TW := inC_8 _ (List.mem_of_getElem? (i := 149) rfl) rfl
theorem wd_8_150 : Cond.methodLink RL 127 yX12_cancel ∈ TW := inC_8 _ (List.mem_of_getElem? (i := 150) rfl) rfl
theorem wd_8_151 : Cond.instanceMethod yX12_cancel ∈ TW := inC_8 _ (List.mem_of_getElem? (i := 151) rfl) rfl
theorem wd_8_152 : Cond.selects RX12 yX12_cancel yX12_cancel ∈ TW := inC_8 _ (List.mem_of_getElem? (i := 152) rfl) rfl
theorem wd_8_153 : Cond.code yX12_cancel cX12_cancel 2 (some .int) ∈ TW := inC_8 _ (List.mem_of_getElem? (i := 153) rfl) rfl
theorem wd_8_154 : Cond.methodLink RX12 433 yX12_isAgreement ∈ TW := inC_8 _ (List.mem_of_getElem? (i := 154) rfl) rfl
theorem wd_8_155 : Cond.privateMethod yX12_isAgreement ∈ lw_tbl := inL_8 _ (List.mem_of_getElem? (i := 155) rfl)
theorem wd_8_156 : Cond.instanceMethod yX12_isAgreement ∈ TW := inC_8 _ (List.mem_of_getElem? (i := 156) rfl) rfl
theorem wd_8_157 : Cond.code yX12_isAgreement cX12_isAgreement 2 (some .boolean) ∈ TW := inC_8 _ (List.mem_of_getElem? (i := 157) rfl) rfl
theorem wd_8_158 : Cond.methodLink RL 131 yX12_agreementOf ∈ TW := inC_8 _ (List.mem_of_getElem? (i := 158) rfl) rfl
theorem wd_8_159 : Cond.instanceMethod yX12_agreementOf ∈ TW := inC_8 _ (List.mem_of_getElem? (i := 159) rfl) rfl
theorem wd_8_160 : Cond.selects RX12 yX12_agreementOf yX12_agreementOf ∈ TW := inC_8 _ (List.mem_of_getElem? (i := 160) rfl) rfl
theorem wd_8_161 : Cond.code yX12_agreementOf cX12_agreementOf 3 (some .int) ∈ TW := inC_8 _ (List.mem_of_getElem? (i := 161) rfl) rfl
theorem wd_8_162 : Cond.methodLink RX12 436 yX12_holdsNow ∈ TW := inC_8 _ (List.mem_of_getElem? (i := 162) rfl) rfl
theorem wd_8_163 : Cond.privateMethod yX12_holdsNow ∈ lw_tbl := inL_8 _ (List.mem_of_getElem? (i := 163) rfl)
theorem wd_8_164 : Cond.instanceMethod yX12_holdsNow ∈ TW := inC_8 _ (List.mem_of_getElem? (i := 164) rfl) rfl
theorem wd_8_165 : Cond.code yX12_holdsNow cX12_holdsNow 2 (some .boolean) ∈ TW := inC_8 _ (List.mem_of_getElem? (i := 165) rfl) rfl
theorem wd_8_166 : Cond.methodLink RL 135 yX12_contract ∈ TW := inC_8 _ (List.mem_of_getElem? (i := 166) rfl) rfl
theorem wd_8_167 : Cond.instanceMethod yX12_contract ∈ TW := inC_8 _ (List.mem_of_getElem? (i := 167) rfl) rfl
theorem wd_8_168 : Cond.selects RX12 yX12_contract yX12_contract ∈ TW := inC_8 _ (List.mem_of_getElem? (i := 168) rfl) rfl
theorem wd_8_169 : Cond.code yX12_contract cX12_contract 5 (some .int) ∈ TW := inC_8 _ (List.mem_of_getElem? (i := 169) rfl) rfl
theorem wd_8_170 : Cond.methodLink RX12 439 yX12_refuseFar ∈ TW := inC_8 _ (List.mem_of_getElem? (i := 170) rfl) rfl
theorem wd_8_171 : Cond.privateMethod yX12_refuseFar ∈ lw_tbl := inL_8 _ (List.mem_of_getElem? (i := 171) rfl)
theorem wd_8_172 : Cond.instanceMethod yX12_refuseFar ∈ TW := inC_8 _ (List.mem_of_getElem? (i := 172) rfl) rfl
theorem wd_8_173 : Cond.code yX12_refuseFar cX12_refuseFar 2 (some .int) ∈ TW := inC_8 _ (List.mem_of_getElem? (i := 173) rfl) rfl
theorem wd_8_174 : Cond.constant RX12 261 (1000000000) ∈ TW := inC_8 _ (List.mem_of_getElem? (i := 174) rfl) rfl
theorem wd_8_175 : Cond.methodLink RL 140 yX12_after ∈ TW := inC_8 _ (List.mem_of_getElem? (i := 175) rfl) rfl
theorem wd_8_176 : Cond.instanceMethod yX12_after ∈ TW := inC_8 _ (List.mem_of_getElem? (i := 176) rfl) rfl
theorem wd_8_177 : Cond.selects RX12 yX12_after yX12_after ∈ TW := inC_8 _ (List.mem_of_getElem? (i := 177) rfl) rfl
theorem wd_8_178 : Cond.code yX12_after cX12_after 4 (some .int) ∈ TW := inC_8 _ (List.mem_of_getElem? (i := 178) rfl) rfl
theorem wd_8_179 : Cond.methodLink RL 144 yX12_worth ∈ TW := inC_8 _ (List.mem_of_getElem? (i := 179) rfl) rfl
theorem wd_8_180 : Cond.instanceMethod yX12_worth ∈ TW := inC_8 _ (List.mem_of_getElem? (i := 180) rfl) rfl
theorem wd_8_181 : Cond.selects RX12 yX12_worth yX12_worth ∈ TW := inC_8 _ (List.mem_of_getElem? (i := 181) rfl) rfl
theorem wd_8_182 : Cond.code yX12_worth cX12_worth 7 (some .int) ∈ TW := inC_8 _ (List.mem_of_getElem? (i := 182) rfl) rfl
theorem wd_8_183 : Cond.methodLink RX12 442 yX12_agreementFor ∈ TW := inC_8 _ (List.mem_of_getElem? (i := 183) rfl) rfl
theorem wd_8_184 : Cond.privateMethod yX12_agreementFor ∈ lw_tbl := inL_8 _ (List.mem_of_getElem? (i := 184) rfl)
theorem wd_8_185 : Cond.instanceMethod yX12_agreementFor ∈ TW := inC_8 _ (List.mem_of_getElem? (i := 185) rfl) rfl
theorem wd_8_186 : Cond.code yX12_agreementFor cX12_agreementFor 10 (some .int) ∈ TW := inC_8 _ (List.mem_of_getElem? (i := 186) rfl) rfl
theorem wd_8_187 : Cond.methodLink RL 148 yX12_board ∈ TW := inC_8 _ (List.mem_of_getElem? (i := 187) rfl) rfl
theorem wd_8_188 : Cond.instanceMethod yX12_board ∈ TW := inC_8 _ (List.mem_of_getElem? (i := 188) rfl) rfl
theorem wd_8_189 : Cond.selects RX12 yX12_board yX12_board ∈ TW := inC_8 _ (List.mem_of_getElem? (i := 189) rfl) rfl
theorem wd_8_190 : Cond.code yX12_board cX12_board 7 (some .int) ∈ TW := inC_8 _ (List.mem_of_getElem? (i := 190) rfl) rfl
theorem wd_8_191 : Cond.methodLink RL 152 yX12_court ∈ TW := inC_8 _ (List.mem_of_getElem? (i := 191) rfl) rfl
theorem wd_8_192 : Cond.instanceMethod yX12_court ∈ TW := inC_8 _ (List.mem_of_getElem? (i := 192) rfl) rfl
theorem wd_8_193 : Cond.selects RX12 yX12_court yX12_court ∈ TW := inC_8 _ (List.mem_of_getElem? (i := 193) rfl) rfl
theorem wd_8_194 : Cond.code yX12_court cX12_court 2 (some .int) ∈ TW := inC_8 _ (List.mem_of_getElem? (i := 194) rfl) rfl
theorem wd_8_195 : Cond.methodLink RL 156 yX12_deed ∈ TW := inC_8 _ (List.mem_of_getElem? (i := 195) rfl) rfl
theorem wd_8_196 : Cond.instanceMethod yX12_deed ∈ TW := inC_8 _ (List.mem_of_getElem? (i := 196) rfl) rfl
theorem wd_8_197 : Cond.selects RX12 yX12_deed yX12_deed ∈ TW := inC_8 _ (List.mem_of_getElem? (i := 197) rfl) rfl
theorem wd_8_198 : Cond.code yX12_deed cX12_deed 6 (some .int) ∈ TW := inC_8 _ (List.mem_of_getElem? (i := 198) rfl) rfl
theorem wd_8_199 : Cond.methodLink RL 160 yX12_deedOf ∈ TW := inC_8 _ (List.mem_of_getElem? (i := 199) rfl) rfl
theorem wd_8_200 : Cond.instanceMethod yX12_deedOf ∈ TW := inC_8 _ (List.mem_of_getElem? (i := 200) rfl) rfl
theorem wd_8_201 : Cond.selects RX12 yX12_deedOf yX12_deedOf ∈ TW := inC_8 _ (List.mem_of_getElem? (i := 201) rfl) rfl
theorem wd_8_202 : Cond.code yX12_deedOf cX12_deedOf 4 (some .int) ∈ TW := inC_8 _ (List.mem_of_getElem? (i := 202) rfl) rfl
theorem wd_8_203 : Cond.methodLink RX12 451 yX12_isDeed ∈ TW := inC_8 _ (List.mem_of_getElem? (i := 203) rfl) rfl
theorem wd_8_204 : Cond.privateMethod yX12_isDeed ∈ lw_tbl := inL_8 _ (List.mem_of_getElem? (i := 204) rfl)
theorem wd_8_205 : Cond.instanceMethod yX12_isDeed ∈ TW := inC_8 _ (List.mem_of_getElem? (i := 205) rfl) rfl
theorem wd_8_206 : Cond.code yX12_isDeed cX12_isDeed 2 (some .boolean) ∈ TW := inC_8 _ (List.mem_of_getElem? (i := 206) rfl) rfl
theorem wd_8_207 : Cond.methodLink RX12 454 yX12_voidSince ∈ TW := inC_8 _ (List.mem_of_getElem? (i := 207) rfl) rfl
theorem wd_8_208 : Cond.privateMethod yX12_voidSince ∈ lw_tbl := inL_8 _ (List.mem_of_getElem? (i := 208) rfl)
theorem wd_8_209 : Cond.instanceMethod yX12_voidSince ∈ TW := inC_8 _ (List.mem_of_getElem? (i := 209) rfl) rfl
theorem wd_8_210 : Cond.code yX12_voidSince cX12_voidSince 5 (some .int) ∈ TW := inC_8 _ (List.mem_of_getElem? (i := 210) rfl) rfl
theorem wd_8_211 : Cond.methodLink RX12 457 yX12_hung ∈ TW := inC_8 _ (List.mem_of_getElem? (i := 211) rfl) rfl
theorem wd_8_212 : Cond.privateMethod yX12_hung ∈ lw_tbl := inL_8 _ (List.mem_of_getElem? (i := 212) rfl)
theorem wd_8_213 : Cond.instanceMethod yX12_hung ∈ TW := inC_8 _ (List.mem_of_getElem? (i := 213) rfl) rfl
theorem wd_8_214 : Cond.code yX12_hung cX12_hung 5 (some .int) ∈ TW := inC_8 _ (List.mem_of_getElem? (i := 214) rfl) rfl
theorem wd_8_215 : Cond.methodLink RL 164 yX12_hang ∈ TW := inC_8 _ (List.mem_of_getElem? (i := 215) rfl) rfl
theorem wd_8_216 : Cond.instanceMethod yX12_hang ∈ TW := inC_8 _ (List.mem_of_getElem? (i := 216) rfl) rfl
theorem wd_8_217 : Cond.selects RX12 yX12_hang yX12_hang ∈ TW := inC_8 _ (List.mem_of_getElem? (i := 217) rfl) rfl
theorem wd_8_218 : Cond.code yX12_hang cX12_hang 5 (some .int) ∈ TW := inC_8 _ (List.mem_of_getElem? (i := 218) rfl) rfl
theorem wd_8_219 : Cond.methodLink RL 168 yX12_need ∈ TW := inC_8 _ (List.mem_of_getElem? (i := 219) rfl) rfl
theorem wd_8_220 : Cond.instanceMethod yX12_need ∈ TW := inC_8 _ (List.mem_of_getElem? (i := 220) rfl) rfl
theorem wd_8_221 : Cond.selects RX12 yX12_need yX12_need ∈ TW := inC_8 _ (List.mem_of_getElem? (i := 221) rfl) rfl
theorem wd_8_222 : Cond.code yX12_need cX12_need 4 (some .int) ∈ TW := inC_8 _ (List.mem_of_getElem? (i := 222) rfl) rfl
theorem wd_8_223 : Cond.methodLink RL 172 yX12_wish ∈ TW := inC_8 _ (List.mem_of_getElem? (i := 223) rfl) rfl
theorem wd_8_224 : Cond.instanceMethod yX12_wish ∈ TW := inC_8 _ (List.mem_of_getElem? (i := 224) rfl) rfl
theorem wd_8_225 : Cond.selects RX12 yX12_wish yX12_wish ∈ TW := inC_8 _ (List.mem_of_getElem? (i := 225) rfl) rfl
theorem wd_8_226 : Cond.code yX12_wish cX12_wish 7 (some .int) ∈ TW := inC_8 _ (List.mem_of_getElem? (i := 226) rfl) rfl
theorem wd_8_227 : Cond.methodLink RL 176 yX12_shifts ∈ TW := inC_8 _ (List.mem_of_getElem? (i := 227) rfl) rfl
theorem wd_8_228 : Cond.instanceMethod yX12_shifts ∈ TW := inC_8 _ (List.mem_of_getElem? (i := 228) rfl) rfl
theorem wd_8_229 : Cond.selects RX12 yX12_shifts yX12_shifts ∈ TW := inC_8 _ (List.mem_of_getElem? (i := 229) rfl) rfl
theorem wd_8_230 : Cond.code yX12_shifts cX12_shifts 4 (some .int) ∈ TW := inC_8 _ (List.mem_of_getElem? (i := 230) rfl) rfl
theorem wd_8_231 : Cond.methodLink RX12 496 yX12_findShifts ∈ TW := inC_8 _ (List.mem_of_getElem? (i := 231) rfl) rfl
theorem wd_8_232 : Cond.privateMethod yX12_findShifts ∈ lw_tbl := inL_8 _ (List.mem_of_getElem? (i := 232) rfl)
theorem wd_8_233 : Cond.instanceMethod yX12_findShifts ∈ TW := inC_8 _ (List.mem_of_getElem? (i := 233) rfl) rfl
theorem wd_8_234 : Cond.code yX12_findShifts cX12_findShifts 3 (some .int) ∈ TW := inC_8 _ (List.mem_of_getElem? (i := 234) rfl) rfl
theorem wd_8_235 : Cond.methodLink RX12 475 yX12_findFour ∈ TW := inC_8 _ (List.mem_of_getElem? (i := 235) rfl) rfl
theorem wd_8_236 : Cond.privateMethod yX12_findFour ∈ lw_tbl := inL_8 _ (List.mem_of_getElem? (i := 236) rfl)
theorem wd_8_237 : Cond.instanceMethod yX12_findFour ∈ TW := inC_8 _ (List.mem_of_getElem? (i := 237) rfl) rfl
theorem wd_8_238 : Cond.code yX12_findFour cX12_findFour 3 none ∈ TW := inC_8 _ (List.mem_of_getElem? (i := 238) rfl) rfl
theorem wd_8_239 : Cond.methodLink RX12 481 yX12_seekShifts ∈ TW := inC_8 _ (List.mem_of_getElem? (i := 239) rfl) rfl
theorem wd_9_0 : Cond.privateMethod yX12_seekShifts ∈ lw_tbl := inL_9 _ (List.mem_of_getElem? (i := 0) rfl)
theorem wd_9_1 : Cond.instanceMethod yX12_seekShifts ∈ TW := inC_9 _ (List.mem_of_getElem? (i := 1) rfl) rfl
theorem wd_9_2 : Cond.code yX12_seekShifts cX12_seekShifts 7 (some .int) ∈ TW := inC_9 _ (List.mem_of_getElem? (i := 2) rfl) rfl
theorem wd_9_3 : Cond.methodLink RX12 484 yX12_findNeeded ∈ TW := inC_9 _ (List.mem_of_getElem? (i := 3) rfl) rfl
theorem wd_9_4 : Cond.privateMethod yX12_findNeeded ∈ lw_tbl := inL_9 _ (List.mem_of_getElem? (i := 4) rfl)
theorem wd_9_5 : Cond.instanceMethod yX12_findNeeded ∈ TW := inC_9 _ (List.mem_of_getElem? (i := 5) rfl) rfl
theorem wd_9_6 : Cond.code yX12_findNeeded cX12_findNeeded 3 none ∈ TW := inC_9 _ (List.mem_of_getElem? (i := 6) rfl) rfl
theorem wd_9_7 : Cond.methodLink RX12 469 yX12_isNeeded ∈ TW := inC_9 _ (List.mem_of_getElem? (i := 7) rfl) rfl
theorem wd_9_8 : Cond.privateMethod yX12_isNeeded ∈ lw_tbl := inL_9 _ (List.mem_of_getElem? (i := 8) rfl)
theorem wd_9_9 : Cond.instanceMethod yX12_isNeeded ∈ TW := inC_9 _ (List.mem_of_getElem? (i := 9) rfl) rfl
theorem wd_9_10 : Cond.code yX12_isNeeded cX12_isNeeded 6 (some .boolean) ∈ TW := inC_9 _ (List.mem_of_getElem? (i := 10) rfl) rfl
theorem wd_9_11 : Cond.methodLink RX12 463 yX12_shiftIn ∈ TW := inC_9 _ (List.mem_of_getElem? (i := 11) rfl) rfl
theorem wd_9_12 : Cond.static yX12_shiftIn ∈ TW := inC_9 _ (List.mem_of_getElem? (i := 12) rfl) rfl
theorem wd_9_13 : Cond.code yX12_shiftIn cX12_shiftIn 2 (some .int) ∈ TW := inC_9 _ (List.mem_of_getElem? (i := 13) rfl) rfl
theorem wd_9_14 : Cond.methodLink RX12 487 yX12_mayStand ∈ TW := inC_9 _ (List.mem_of_getElem? (i := 14) rfl) rfl
theorem wd_9_15 : Cond.privateMethod yX12_mayStand ∈ lw_tbl := inL_9 _ (List.mem_of_getElem? (i := 15) rfl)
theorem wd_9_16 : Cond.instanceMethod yX12_mayStand ∈ TW := inC_9 _ (List.mem_of_getElem? (i := 16) rfl) rfl
theorem wd_9_17 : Cond.code yX12_mayStand cX12_mayStand 7 (some .boolean) ∈ TW := inC_9 _ (List.mem_of_getElem? (i := 17) rfl) rfl
theorem wd_9_18 : Cond.methodLink RX12 490 yX12_brokenBy ∈ TW := inC_9 _ (List.mem_of_getElem? (i := 18) rfl) rfl
theorem wd_9_19 : Cond.privateMethod yX12_brokenBy ∈ lw_tbl := inL_9 _ (List.mem_of_getElem? (i := 19) rfl)
theorem wd_9_20 : Cond.instanceMethod yX12_brokenBy ∈ TW := inC_9 _ (List.mem_of_getElem? (i := 20) rfl) rfl
theorem wd_9_21 : Cond.code yX12_brokenBy cX12_brokenBy 6 (some .int) ∈ TW := inC_9 _ (List.mem_of_getElem? (i := 21) rfl) rfl
theorem wd_9_22 : Cond.methodLink RX12 493 yX12_isFair ∈ TW := inC_9 _ (List.mem_of_getElem? (i := 22) rfl) rfl
theorem wd_9_23 : Cond.privateMethod yX12_isFair ∈ lw_tbl := inL_9 _ (List.mem_of_getElem? (i := 23) rfl)
theorem wd_9_24 : Cond.instanceMethod yX12_isFair ∈ TW := inC_9 _ (List.mem_of_getElem? (i := 24) rfl) rfl
theorem wd_9_25 : Cond.code yX12_isFair cX12_isFair 6 (some .boolean) ∈ TW := inC_9 _ (List.mem_of_getElem? (i := 25) rfl) rfl
theorem wd_9_26 : Cond.methodLink RL 180 yX12_shiftOf ∈ TW := inC_9 _ (List.mem_of_getElem? (i := 26) rfl) rfl
theorem wd_9_27 : Cond.instanceMethod yX12_shiftOf ∈ TW := inC_9 _ (List.mem_of_getElem? (i := 27) rfl) rfl
theorem wd_9_28 : Cond.selects RX12 yX12_shiftOf yX12_shiftOf ∈ TW := inC_9 _ (List.mem_of_getElem? (i := 28) rfl) rfl
theorem wd_9_29 : Cond.code yX12_shiftOf cX12_shiftOf 8 (some .int) ∈ TW := inC_9 _ (List.mem_of_getElem? (i := 29) rfl) rfl
theorem wd_9_30 : Cond.methodLink RL 184 yX12_bars ∈ TW := inC_9 _ (List.mem_of_getElem? (i := 30) rfl) rfl
theorem wd_9_31 : Cond.instanceMethod yX12_bars ∈ TW := inC_9 _ (List.mem_of_getElem? (i := 31) rfl) rfl
theorem wd_9_32 : Cond.selects RX12 yX12_bars yX12_bars ∈ TW := inC_9 _ (List.mem_of_getElem? (i := 32) rfl) rfl
theorem wd_9_33 : Cond.code yX12_bars cX12_bars 4 (some .int) ∈ TW := inC_9 _ (List.mem_of_getElem? (i := 33) rfl) rfl
theorem wd_9_34 : Cond.methodLink RL 188 yX12_study ∈ TW := inC_9 _ (List.mem_of_getElem? (i := 34) rfl) rfl
theorem wd_9_35 : Cond.instanceMethod yX12_study ∈ TW := inC_9 _ (List.mem_of_getElem? (i := 35) rfl) rfl
theorem wd_9_36 : Cond.selects RX12 yX12_study yX12_study ∈ TW := inC_9 _ (List.mem_of_getElem? (i := 36) rfl) rfl
theorem wd_9_37 : Cond.code yX12_study cX12_study 3 (some .int) ∈ TW := inC_9 _ (List.mem_of_getElem? (i := 37) rfl) rfl
theorem wd_9_38 : Cond.methodLink RX12 499 yX12_isPiece ∈ TW := inC_9 _ (List.mem_of_getElem? (i := 38) rfl) rfl
theorem wd_9_39 : Cond.static yX12_isPiece ∈ TW := inC_9 _ (List.mem_of_getElem? (i := 39) rfl) rfl
theorem wd_9_40 : Cond.code yX12_isPiece cX12_isPiece 1 (some .boolean) ∈ TW := inC_9 _ (List.mem_of_getElem? (i := 40) rfl) rfl
theorem wd_9_41 : Cond.methodLink RL 192 yX12_time ∈ TW := inC_9 _ (List.mem_of_getElem? (i := 41) rfl) rfl
theorem wd_9_42 : Cond.instanceMethod yX12_time ∈ TW := inC_9 _ (List.mem_of_getElem? (i := 42) rfl) rfl
theorem wd_9_43 : Cond.selects RX12 yX12_time yX12_time ∈ TW := inC_9 _ (List.mem_of_getElem? (i := 43) rfl) rfl
theorem wd_9_44 : Cond.code yX12_time cX12_time 3 (some .int) ∈ TW := inC_9 _ (List.mem_of_getElem? (i := 44) rfl) rfl
theorem wd_9_45 : Cond.methodLink RX12 502 yX12_timeOf ∈ TW := inC_9 _ (List.mem_of_getElem? (i := 45) rfl) rfl
theorem wd_9_46 : Cond.privateMethod yX12_timeOf ∈ lw_tbl := inL_9 _ (List.mem_of_getElem? (i := 46) rfl)
theorem wd_9_47 : Cond.instanceMethod yX12_timeOf ∈ TW := inC_9 _ (List.mem_of_getElem? (i := 47) rfl) rfl
theorem wd_9_48 : Cond.code yX12_timeOf cX12_timeOf 8 (some .int) ∈ TW := inC_9 _ (List.mem_of_getElem? (i := 48) rfl) rfl
theorem wd_9_49 : Cond.methodLink RL 196 yX12_changed ∈ TW := inC_9 _ (List.mem_of_getElem? (i := 49) rfl) rfl
theorem wd_9_50 : Cond.instanceMethod yX12_changed ∈ TW := inC_9 _ (List.mem_of_getElem? (i := 50) rfl) rfl
theorem wd_9_51 : Cond.selects RX12 yX12_changed yX12_changed ∈ TW := inC_9 _ (List.mem_of_getElem? (i := 51) rfl) rfl
theorem wd_9_52 : Cond.code yX12_changed cX12_changed 6 (some .int) ∈ TW := inC_9 _ (List.mem_of_getElem? (i := 52) rfl) rfl
theorem wd_9_53 : Cond.methodLink RL 200 yX12_weight ∈ TW := inC_9 _ (List.mem_of_getElem? (i := 53) rfl) rfl
theorem wd_9_54 : Cond.instanceMethod yX12_weight ∈ TW := inC_9 _ (List.mem_of_getElem? (i := 54) rfl) rfl
theorem wd_9_55 : Cond.selects RX12 yX12_weight yX12_weight ∈ TW := inC_9 _ (List.mem_of_getElem? (i := 55) rfl) rfl
theorem wd_9_56 : Cond.code yX12_weight cX12_weight 4 (some .int) ∈ TW := inC_9 _ (List.mem_of_getElem? (i := 56) rfl) rfl
theorem wd_9_57 : Cond.methodLink RL 205 yX12_list ∈ TW := inC_9 _ (List.mem_of_getElem? (i := 57) rfl) rfl
theorem wd_9_58 : Cond.instanceMethod yX12_list ∈ TW := inC_9 _ (List.mem_of_getElem? (i := 58) rfl) rfl
theorem wd_9_59 : Cond.selects RX12 yX12_list yX12_list ∈ TW := inC_9 _ (List.mem_of_getElem? (i := 59) rfl) rfl
theorem wd_9_60 : Cond.code yX12_list cX12_list 2 (some .int) ∈ TW := inC_9 _ (List.mem_of_getElem? (i := 60) rfl) rfl
theorem wd_9_61 : Cond.methodLink RL 209 yX12_right ∈ TW := inC_9 _ (List.mem_of_getElem? (i := 61) rfl) rfl
theorem wd_9_62 : Cond.instanceMethod yX12_right ∈ TW := inC_9 _ (List.mem_of_getElem? (i := 62) rfl) rfl
theorem wd_9_63 : Cond.selects RX12 yX12_right yX12_right ∈ TW := inC_9 _ (List.mem_of_getElem? (i := 63) rfl) rfl
theorem wd_9_64 : Cond.code yX12_right cX12_right 5 (some .int) ∈ TW := inC_9 _ (List.mem_of_getElem? (i := 64) rfl) rfl
theorem wd_9_65 : Cond.methodLink RL 213 yX12_points ∈ TW := inC_9 _ (List.mem_of_getElem? (i := 65) rfl) rfl
theorem wd_9_66 : Cond.instanceMethod yX12_points ∈ TW := inC_9 _ (List.mem_of_getElem? (i := 66) rfl) rfl
theorem wd_9_67 : Cond.selects RX12 yX12_points yX12_points ∈ TW := inC_9 _ (List.mem_of_getElem? (i := 67) rfl) rfl
theorem wd_9_68 : Cond.code yX12_points cX12_points 2 (some .int) ∈ TW := inC_9 _ (List.mem_of_getElem? (i := 68) rfl) rfl
theorem wd_9_69 : Cond.methodLink RX12 505 yX12_pointsOf ∈ TW := inC_9 _ (List.mem_of_getElem? (i := 69) rfl) rfl
theorem wd_9_70 : Cond.privateMethod yX12_pointsOf ∈ lw_tbl := inL_9 _ (List.mem_of_getElem? (i := 70) rfl)
theorem wd_9_71 : Cond.instanceMethod yX12_pointsOf ∈ TW := inC_9 _ (List.mem_of_getElem? (i := 71) rfl) rfl
theorem wd_9_72 : Cond.code yX12_pointsOf cX12_pointsOf 4 (some .int) ∈ TW := inC_9 _ (List.mem_of_getElem? (i := 72) rfl) rfl
theorem wd_9_73 : Cond.methodLink RL 217 yX12_goes ∈ TW := inC_9 _ (List.mem_of_getElem? (i := 73) rfl) rfl
theorem wd_9_74 : Cond.instanceMethod yX12_goes ∈ TW := inC_9 _ (List.mem_of_getElem? (i := 74) rfl) rfl
theorem wd_9_75 : Cond.selects RX12 yX12_goes yX12_goes ∈ TW := inC_9 _ (List.mem_of_getElem? (i := 75) rfl) rfl
theorem wd_9_76 : Cond.code yX12_goes cX12_goes 7 (some .int) ∈ TW := inC_9 _ (List.mem_of_getElem? (i := 76) rfl) rfl
theorem wd_9_77 : Cond.methodLink RX12 508 yX12_goesAhead ∈ TW := inC_9 _ (List.mem_of_getElem? (i := 77) rfl) rfl
theorem wd_9_78 : Cond.privateMethod yX12_goesAhead ∈ lw_tbl := inL_9 _ (List.mem_of_getElem? (i := 78) rfl)
theorem wd_9_79 : Cond.instanceMethod yX12_goesAhead ∈ TW := inC_9 _ (List.mem_of_getElem? (i := 79) rfl) rfl
theorem wd_9_80 : Cond.code yX12_goesAhead cX12_goesAhead 3 (some .boolean) ∈ TW := inC_9 _ (List.mem_of_getElem? (i := 80) rfl) rfl
theorem wd_9_81 : Cond.methodLink RL 221 yX12_planned ∈ TW := inC_9 _ (List.mem_of_getElem? (i := 81) rfl) rfl
theorem wd_9_82 : Cond.instanceMethod yX12_planned ∈ TW := inC_9 _ (List.mem_of_getElem? (i := 82) rfl) rfl
theorem wd_9_83 : Cond.selects RX12 yX12_planned yX12_planned ∈ TW := inC_9 _ (List.mem_of_getElem? (i := 83) rfl) rfl
theorem wd_9_84 : Cond.code yX12_planned cX12_planned 4 (some .int) ∈ TW := inC_9 _ (List.mem_of_getElem? (i := 84) rfl) rfl
theorem wd_9_85 : Cond.methodLink RL 225 yX12_plan ∈ TW := inC_9 _ (List.mem_of_getElem? (i := 85) rfl) rfl
theorem wd_9_86 : Cond.instanceMethod yX12_plan ∈ TW := inC_9 _ (List.mem_of_getElem? (i := 86) rfl) rfl
theorem wd_9_87 : Cond.selects RX12 yX12_plan yX12_plan ∈ TW := inC_9 _ (List.mem_of_getElem? (i := 87) rfl) rfl
theorem wd_9_88 : Cond.code yX12_plan cX12_plan 2 (some .int) ∈ TW := inC_9 _ (List.mem_of_getElem? (i := 88) rfl) rfl
theorem wd_9_89 : Cond.methodLink RX12 517 yX12_findPlan ∈ TW := inC_9 _ (List.mem_of_getElem? (i := 89) rfl) rfl
theorem wd_9_90 : Cond.privateMethod yX12_findPlan ∈ lw_tbl := inL_9 _ (List.mem_of_getElem? (i := 90) rfl)
theorem wd_9_91 : Cond.instanceMethod yX12_findPlan ∈ TW := inC_9 _ (List.mem_of_getElem? (i := 91) rfl) rfl
theorem wd_9_92 : Cond.code yX12_findPlan cX12_findPlan 4 (some .int) ∈ TW := inC_9 _ (List.mem_of_getElem? (i := 92) rfl) rfl
theorem wd_9_93 : Cond.methodLink RX12 514 yX12_mayBeAt ∈ TW := inC_9 _ (List.mem_of_getElem? (i := 93) rfl) rfl
theorem wd_9_94 : Cond.privateMethod yX12_mayBeAt ∈ lw_tbl := inL_9 _ (List.mem_of_getElem? (i := 94) rfl)
theorem wd_9_95 : Cond.instanceMethod yX12_mayBeAt ∈ TW := inC_9 _ (List.mem_of_getElem? (i := 95) rfl) rfl
theorem wd_9_96 : Cond.code yX12_mayBeAt cX12_mayBeAt 5 (some .boolean) ∈ TW := inC_9 _ (List.mem_of_getElem? (i := 96) rfl) rfl
theorem wd_9_97 : Cond.methodLink RL 229 yX12_placeOf ∈ TW := inC_9 _ (List.mem_of_getElem? (i := 97) rfl) rfl
theorem wd_9_98 : Cond.instanceMethod yX12_placeOf ∈ TW := inC_9 _ (List.mem_of_getElem? (i := 98) rfl) rfl
theorem wd_9_99 : Cond.selects RX12 yX12_placeOf yX12_placeOf ∈ TW := inC_9 _ (List.mem_of_getElem? (i := 99) rfl) rfl
theorem wd_9_100 : Cond.code yX12_placeOf cX12_placeOf 2 (some .int) ∈ TW := inC_9 _ (List.mem_of_getElem? (i := 100) rfl) rfl
theorem wd_9_101 : Cond.methodLink RL 233 yX12_put ∈ TW := inC_9 _ (List.mem_of_getElem? (i := 101) rfl) rfl
theorem wd_9_102 : Cond.instanceMethod yX12_put ∈ TW := inC_9 _ (List.mem_of_getElem? (i := 102) rfl) rfl
theorem wd_9_103 : Cond.selects RX12 yX12_put yX12_put ∈ TW := inC_9 _ (List.mem_of_getElem? (i := 103) rfl) rfl
theorem wd_9_104 : Cond.code yX12_put cX12_put 2 (some .int) ∈ TW := inC_9 _ (List.mem_of_getElem? (i := 104) rfl) rfl
theorem wd_9_105 : Cond.methodLink RL 237 yX12_check ∈ TW := inC_9 _ (List.mem_of_getElem? (i := 105) rfl) rfl
theorem wd_9_106 : Cond.instanceMethod yX12_check ∈ TW := inC_9 _ (List.mem_of_getElem? (i := 106) rfl) rfl
theorem wd_9_107 : Cond.selects RX12 yX12_check yX12_check ∈ TW := inC_9 _ (List.mem_of_getElem? (i := 107) rfl) rfl
theorem wd_9_108 : Cond.code yX12_check cX12_check 5 (some .int) ∈ TW := inC_9 _ (List.mem_of_getElem? (i := 108) rfl) rfl
theorem wd_9_109 : Cond.methodLink RL 241 yX12_count ∈ TW := inC_9 _ (List.mem_of_getElem? (i := 109) rfl) rfl
theorem wd_9_110 : Cond.instanceMethod yX12_count ∈ TW := inC_9 _ (List.mem_of_getElem? (i := 110) rfl) rfl
theorem wd_9_111 : Cond.selects RX12 yX12_count yX12_count ∈ TW := inC_9 _ (List.mem_of_getElem? (i := 111) rfl) rfl
theorem wd_9_112 : Cond.code yX12_count cX12_count 4 (some .int) ∈ TW := inC_9 _ (List.mem_of_getElem? (i := 112) rfl) rfl
theorem wd_9_113 : Cond.constantLong RL 36 (4294967295) ∈ TW := inC_9 _ (List.mem_of_getElem? (i := 113) rfl) rfl
theorem wd_p_0 : Cond.selects RX11 yX11_refuse yX11_refuse ∈ TW := inC_p _ (List.mem_of_getElem? (i := 0) rfl) rfl
theorem wd_p_1 : Cond.selects RX7 yX7_begin yX7_begin ∈ TW := inC_p _ (List.mem_of_getElem? (i := 1) rfl) rfl
theorem wd_p_2 : Cond.selects RX7 yX7_openLevel yX7_openLevel ∈ TW := inC_p _ (List.mem_of_getElem? (i := 2) rfl) rfl
theorem wd_p_3 : Cond.selects RX7 yX7_expect yX7_expect ∈ TW := inC_p _ (List.mem_of_getElem? (i := 3) rfl) rfl
theorem wd_p_4 : Cond.selects RX7 yX7_sign yX7_sign ∈ TW := inC_p _ (List.mem_of_getElem? (i := 4) rfl) rfl
theorem wd_p_5 : Cond.selects RX7 yX7_fail yX7_fail ∈ TW := inC_p _ (List.mem_of_getElem? (i := 5) rfl) rfl
theorem wd_p_6 : Cond.selects RX7 yX7_ruleHolds yX7_ruleHolds ∈ TW := inC_p _ (List.mem_of_getElem? (i := 6) rfl) rfl
theorem wd_p_7 : Cond.selects RX7 yX7_readOpenings yX7_readOpenings ∈ TW := inC_p _ (List.mem_of_getElem? (i := 7) rfl) rfl
theorem wd_p_8 : Cond.selects RX7 yX7_comparisonHolds yX7_comparisonHolds ∈ TW := inC_p _ (List.mem_of_getElem? (i := 8) rfl) rfl
theorem wd_p_9 : Cond.selects RX7 yX7_sum yX7_sum ∈ TW := inC_p _ (List.mem_of_getElem? (i := 9) rfl) rfl
theorem wd_p_10 : Cond.selects RX7 yX7_unit yX7_unit ∈ TW := inC_p _ (List.mem_of_getElem? (i := 10) rfl) rfl
theorem wd_p_11 : Cond.selects RX7 yX7_endPart yX7_endPart ∈ TW := inC_p _ (List.mem_of_getElem? (i := 11) rfl) rfl
theorem wd_p_12 : Cond.selects RX7 yX7_readClosings yX7_readClosings ∈ TW := inC_p _ (List.mem_of_getElem? (i := 12) rfl) rfl
theorem wd_p_13 : Cond.selects RX7 yX7_joinsNext yX7_joinsNext ∈ TW := inC_p _ (List.mem_of_getElem? (i := 13) rfl) rfl
theorem wd_p_14 : Cond.selects RX11 yX11_tellFacts yX11_tellFacts ∈ TW := inC_p _ (List.mem_of_getElem? (i := 14) rfl) rfl
theorem wd_p_15 : Cond.selects RX11 yX11_isMatter yX11_isMatter ∈ TW := inC_p _ (List.mem_of_getElem? (i := 15) rfl) rfl
theorem wd_p_16 : Cond.selects RX5 yX5_lastAnswer yX5_lastAnswer ∈ TW := inC_p _ (List.mem_of_getElem? (i := 16) rfl) rfl
theorem wd_p_17 : Cond.selects RX2 yX2_nextWinner yX2_nextWinner ∈ TW := inC_p _ (List.mem_of_getElem? (i := 17) rfl) rfl
theorem wd_p_18 : Cond.selects RX11 yX11_canBePresent yX11_canBePresent ∈ TW := inC_p _ (List.mem_of_getElem? (i := 18) rfl) rfl
theorem wd_p_19 : Cond.selects RX11 yX11_holds yX11_holds ∈ TW := inC_p _ (List.mem_of_getElem? (i := 19) rfl) rfl
theorem wd_p_20 : Cond.selects RX11 yX11_refuseFar yX11_refuseFar ∈ TW := inC_p _ (List.mem_of_getElem? (i := 20) rfl) rfl
theorem wd_p_21 : Cond.selects RX11 yX11_agreementInForce yX11_agreementInForce ∈ TW := inC_p _ (List.mem_of_getElem? (i := 21) rfl) rfl
theorem wd_p_22 : Cond.selects RX11 yX11_concerns yX11_concerns ∈ TW := inC_p _ (List.mem_of_getElem? (i := 22) rfl) rfl
theorem wd_p_23 : Cond.selects RX11 yX11_agreementEndedLast yX11_agreementEndedLast ∈ TW := inC_p _ (List.mem_of_getElem? (i := 23) rfl) rfl
theorem wd_p_24 : Cond.selects RX11 yX11_voidSince yX11_voidSince ∈ TW := inC_p _ (List.mem_of_getElem? (i := 24) rfl) rfl
theorem wd_p_25 : Cond.selects RX5 yX5_nextTurn yX5_nextTurn ∈ TW := inC_p _ (List.mem_of_getElem? (i := 25) rfl) rfl
theorem wd_p_26 : Cond.selects RX11 yX11_bestShifts yX11_bestShifts ∈ TW := inC_p _ (List.mem_of_getElem? (i := 26) rfl) rfl
theorem wd_p_27 : Cond.selects RX8 yX8_findTeam yX8_findTeam ∈ TW := inC_p _ (List.mem_of_getElem? (i := 27) rfl) rfl
theorem wd_p_28 : Cond.selects RX8 yX8_listArrangements yX8_listArrangements ∈ TW := inC_p _ (List.mem_of_getElem? (i := 28) rfl) rfl
theorem wd_p_29 : Cond.selects RX8 yX8_meetsNeed yX8_meetsNeed ∈ TW := inC_p _ (List.mem_of_getElem? (i := 29) rfl) rfl
theorem wd_p_30 : Cond.selects RX8 yX8_markShifts yX8_markShifts ∈ TW := inC_p _ (List.mem_of_getElem? (i := 30) rfl) rfl
theorem wd_p_31 : Cond.selects RX8 yX8_countBroken yX8_countBroken ∈ TW := inC_p _ (List.mem_of_getElem? (i := 31) rfl) rfl
theorem wd_p_32 : Cond.selects RX8 yX8_brokenOn yX8_brokenOn ∈ TW := inC_p _ (List.mem_of_getElem? (i := 32) rfl) rfl
theorem wd_p_33 : Cond.selects RX8 yX8_search yX8_search ∈ TW := inC_p _ (List.mem_of_getElem? (i := 33) rfl) rfl
theorem wd_p_34 : Cond.selects RX8 yX8_searchFrom yX8_searchFrom ∈ TW := inC_p _ (List.mem_of_getElem? (i := 34) rfl) rfl
theorem wd_p_35 : Cond.selects RX8 yX8_keepChosen yX8_keepChosen ∈ TW := inC_p _ (List.mem_of_getElem? (i := 35) rfl) rfl
theorem wd_p_36 : Cond.selects RX8 yX8_isSeen yX8_isSeen ∈ TW := inC_p _ (List.mem_of_getElem? (i := 36) rfl) rfl
theorem wd_p_37 : Cond.selects RX8 yX8_searchOn yX8_searchOn ∈ TW := inC_p _ (List.mem_of_getElem? (i := 37) rfl) rfl
theorem wd_p_38 : Cond.selects RX8 yX8_countedBy yX8_countedBy ∈ TW := inC_p _ (List.mem_of_getElem? (i := 38) rfl) rfl
theorem wd_p_39 : Cond.selects RX8 yX8_hasTooMany yX8_hasTooMany ∈ TW := inC_p _ (List.mem_of_getElem? (i := 39) rfl) rfl
theorem wd_p_40 : Cond.selects RX8 yX8_countNoneBroken yX8_countNoneBroken ∈ TW := inC_p _ (List.mem_of_getElem? (i := 40) rfl) rfl
theorem wd_p_41 : Cond.selects RX9 yX9_countAhead yX9_countAhead ∈ TW := inC_p _ (List.mem_of_getElem? (i := 41) rfl) rfl
theorem wd_p_42 : Cond.selects RX9 yX9_goesAhead yX9_goesAhead ∈ TW := inC_p _ (List.mem_of_getElem? (i := 42) rfl) rfl
theorem wd_p_43 : Cond.selects RX6 yX6_settleFrom yX6_settleFrom ∈ TW := inC_p _ (List.mem_of_getElem? (i := 43) rfl) rfl
theorem wd_p_44 : Cond.selects RX6 yX6_leastLateFrom yX6_leastLateFrom ∈ TW := inC_p _ (List.mem_of_getElem? (i := 44) rfl) rfl
theorem wd_p_45 : Cond.selects RX6 yX6_firstPlace yX6_firstPlace ∈ TW := inC_p _ (List.mem_of_getElem? (i := 45) rfl) rfl
theorem wd_p_46 : Cond.selects RX6 yX6_keepPlaces yX6_keepPlaces ∈ TW := inC_p _ (List.mem_of_getElem? (i := 46) rfl) rfl
theorem wd_p_47 : Cond.selects RX6 yX6_settleOn yX6_settleOn ∈ TW := inC_p _ (List.mem_of_getElem? (i := 47) rfl) rfl
theorem wd_p_48 : Cond.selects RX11 yX11_countHolding yX11_countHolding ∈ TW := inC_p _ (List.mem_of_getElem? (i := 48) rfl) rfl
theorem wd_p_49 : Cond.selects RX11 yX11_countVoid yX11_countVoid ∈ TW := inC_p _ (List.mem_of_getElem? (i := 49) rfl) rfl
theorem wd_p_50 : Cond.selects RX12 yX12_refuse yX12_refuse ∈ TW := inC_p _ (List.mem_of_getElem? (i := 50) rfl) rfl
theorem wd_p_51 : Cond.selects RX12 yX12_workdaysIn yX12_workdaysIn ∈ TW := inC_p _ (List.mem_of_getElem? (i := 51) rfl) rfl
theorem wd_p_52 : Cond.selects RX12 yX12_isPerson yX12_isPerson ∈ TW := inC_p _ (List.mem_of_getElem? (i := 52) rfl) rfl
theorem wd_p_53 : Cond.selects RX12 yX12_byteHere yX12_byteHere ∈ TW := inC_p _ (List.mem_of_getElem? (i := 53) rfl) rfl
theorem wd_p_54 : Cond.selects RX12 yX12_readRule yX12_readRule ∈ TW := inC_p _ (List.mem_of_getElem? (i := 54) rfl) rfl
theorem wd_p_55 : Cond.selects RX12 yX12_opens yX12_opens ∈ TW := inC_p _ (List.mem_of_getElem? (i := 55) rfl) rfl
theorem wd_p_56 : Cond.selects RX12 yX12_readTest yX12_readTest ∈ TW := inC_p _ (List.mem_of_getElem? (i := 56) rfl) rfl
theorem wd_p_57 : Cond.selects RX12 yX12_readSum yX12_readSum ∈ TW := inC_p _ (List.mem_of_getElem? (i := 57) rfl) rfl
theorem wd_p_58 : Cond.selects RX12 yX12_readUnit yX12_readUnit ∈ TW := inC_p _ (List.mem_of_getElem? (i := 58) rfl) rfl
theorem wd_p_59 : Cond.selects RX12 yX12_partEnds yX12_partEnds ∈ TW := inC_p _ (List.mem_of_getElem? (i := 59) rfl) rfl
theorem wd_p_60 : Cond.selects RX12 yX12_topSign yX12_topSign ∈ TW := inC_p _ (List.mem_of_getElem? (i := 60) rfl) rfl
theorem wd_p_61 : Cond.selects RX12 yX12_orsEnd yX12_orsEnd ∈ TW := inC_p _ (List.mem_of_getElem? (i := 61) rfl) rfl
theorem wd_p_62 : Cond.selects RX12 yX12_givingAct yX12_givingAct ∈ TW := inC_p _ (List.mem_of_getElem? (i := 62) rfl) rfl
theorem wd_p_63 : Cond.selects RX12 yX12_findFacts yX12_findFacts ∈ TW := inC_p _ (List.mem_of_getElem? (i := 63) rfl) rfl
theorem wd_p_64 : Cond.selects RX12 yX12_kindIn yX12_kindIn ∈ TW := inC_p _ (List.mem_of_getElem? (i := 64) rfl) rfl
theorem wd_p_65 : Cond.selects RX12 yX12_quarrel yX12_quarrel ∈ TW := inC_p _ (List.mem_of_getElem? (i := 65) rfl) rfl
theorem wd_p_66 : Cond.selects RX12 yX12_isMatter yX12_isMatter ∈ TW := inC_p _ (List.mem_of_getElem? (i := 66) rfl) rfl
theorem wd_p_67 : Cond.selects RX12 yX12_isWithdrawn yX12_isWithdrawn ∈ TW := inC_p _ (List.mem_of_getElem? (i := 67) rfl) rfl
theorem wd_p_68 : Cond.selects RX12 yX12_givenOn yX12_givenOn ∈ TW := inC_p _ (List.mem_of_getElem? (i := 68) rfl) rfl
theorem wd_p_69 : Cond.selects RX12 yX12_tell yX12_tell ∈ TW := inC_p _ (List.mem_of_getElem? (i := 69) rfl) rfl
theorem wd_p_70 : Cond.selects RX12 yX12_stateOf yX12_stateOf ∈ TW := inC_p _ (List.mem_of_getElem? (i := 70) rfl) rfl
theorem wd_p_71 : Cond.selects RX12 yX12_ruling yX12_ruling ∈ TW := inC_p _ (List.mem_of_getElem? (i := 71) rfl) rfl
theorem wd_p_72 : Cond.selects RX12 yX12_answer yX12_answer ∈ TW := inC_p _ (List.mem_of_getElem? (i := 72) rfl) rfl
theorem wd_p_73 : Cond.selects RX12 yX12_wholeSince yX12_wholeSince ∈ TW := inC_p _ (List.mem_of_getElem? (i := 73) rfl) rfl
theorem wd_p_74 : Cond.selects RX12 yX12_lets yX12_lets ∈ TW := inC_p _ (List.mem_of_getElem? (i := 74) rfl) rfl
theorem wd_p_75 : Cond.selects RX12 yX12_isSeat yX12_isSeat ∈ TW := inC_p _ (List.mem_of_getElem? (i := 75) rfl) rfl
theorem wd_p_76 : Cond.selects RX12 yX12_allSit yX12_allSit ∈ TW := inC_p _ (List.mem_of_getElem? (i := 76) rfl) rfl
theorem wd_p_77 : Cond.selects RX12 yX12_isSession yX12_isSession ∈ TW := inC_p _ (List.mem_of_getElem? (i := 77) rfl) rfl
theorem wd_p_78 : Cond.selects RX12 yX12_agrees yX12_agrees ∈ TW := inC_p _ (List.mem_of_getElem? (i := 78) rfl) rfl
theorem wd_p_79 : Cond.selects RX12 yX12_isAgreement yX12_isAgreement ∈ TW := inC_p _ (List.mem_of_getElem? (i := 79) rfl) rfl
theorem wd_p_80 : Cond.selects RX12 yX12_holdsNow yX12_holdsNow ∈ TW := inC_p _ (List.mem_of_getElem? (i := 80) rfl) rfl
theorem wd_p_81 : Cond.selects RX12 yX12_refuseFar yX12_refuseFar ∈ TW := inC_p _ (List.mem_of_getElem? (i := 81) rfl) rfl
theorem wd_p_82 : Cond.selects RX12 yX12_agreementFor yX12_agreementFor ∈ TW := inC_p _ (List.mem_of_getElem? (i := 82) rfl) rfl
theorem wd_p_83 : Cond.selects RX12 yX12_isDeed yX12_isDeed ∈ TW := inC_p _ (List.mem_of_getElem? (i := 83) rfl) rfl
theorem wd_p_84 : Cond.selects RX12 yX12_voidSince yX12_voidSince ∈ TW := inC_p _ (List.mem_of_getElem? (i := 84) rfl) rfl
theorem wd_p_85 : Cond.selects RX12 yX12_hung yX12_hung ∈ TW := inC_p _ (List.mem_of_getElem? (i := 85) rfl) rfl
theorem wd_p_86 : Cond.selects RX12 yX12_findShifts yX12_findShifts ∈ TW := inC_p _ (List.mem_of_getElem? (i := 86) rfl) rfl
theorem wd_p_87 : Cond.selects RX12 yX12_findFour yX12_findFour ∈ TW := inC_p _ (List.mem_of_getElem? (i := 87) rfl) rfl
theorem wd_p_88 : Cond.selects RX12 yX12_seekShifts yX12_seekShifts ∈ TW := inC_p _ (List.mem_of_getElem? (i := 88) rfl) rfl
theorem wd_p_89 : Cond.selects RX12 yX12_findNeeded yX12_findNeeded ∈ TW := inC_p _ (List.mem_of_getElem? (i := 89) rfl) rfl
theorem wd_p_90 : Cond.selects RX12 yX12_isNeeded yX12_isNeeded ∈ TW := inC_p _ (List.mem_of_getElem? (i := 90) rfl) rfl
theorem wd_p_91 : Cond.selects RX12 yX12_mayStand yX12_mayStand ∈ TW := inC_p _ (List.mem_of_getElem? (i := 91) rfl) rfl
theorem wd_p_92 : Cond.selects RX12 yX12_brokenBy yX12_brokenBy ∈ TW := inC_p _ (List.mem_of_getElem? (i := 92) rfl) rfl
theorem wd_p_93 : Cond.selects RX12 yX12_isFair yX12_isFair ∈ TW := inC_p _ (List.mem_of_getElem? (i := 93) rfl) rfl
theorem wd_p_94 : Cond.selects RX12 yX12_timeOf yX12_timeOf ∈ TW := inC_p _ (List.mem_of_getElem? (i := 94) rfl) rfl
theorem wd_p_95 : Cond.selects RX12 yX12_pointsOf yX12_pointsOf ∈ TW := inC_p _ (List.mem_of_getElem? (i := 95) rfl) rfl
theorem wd_p_96 : Cond.selects RX12 yX12_goesAhead yX12_goesAhead ∈ TW := inC_p _ (List.mem_of_getElem? (i := 96) rfl) rfl
theorem wd_p_97 : Cond.selects RX12 yX12_findPlan yX12_findPlan ∈ TW := inC_p _ (List.mem_of_getElem? (i := 97) rfl) rfl
theorem wd_p_98 : Cond.selects RX12 yX12_mayBeAt yX12_mayBeAt ∈ TW := inC_p _ (List.mem_of_getElem? (i := 98) rfl) rfl
set_option maxRecDepth 10000 in
theorem inU_0 : ∀ w ∈ u_ws (clS 0).1 (clS 0).2.1 (clS 0).2.2, w ∈ TW := List.forall_mem_cons.mpr ⟨wd_1_151, List.forall_mem_cons.mpr ⟨wd_1_153, List.forall_mem_cons.mpr ⟨wd_1_155, List.forall_mem_cons.mpr ⟨wd_1_157, List.forall_mem_cons.mpr ⟨wd_1_159, List.forall_mem_cons.mpr ⟨wd_1_161, fun _ h => absurd h List.not_mem_nil⟩⟩⟩⟩⟩⟩
set_option maxRecDepth 10000 in
theorem inU_1 : ∀ w ∈ u_ws (clS 1).1 (clS 1).2.1 (clS 1).2.2, w ∈ TW := List.forall_mem_cons.mpr ⟨wd_2_2, List.forall_mem_cons.mpr ⟨wd_2_4, List.forall_mem_cons.mpr ⟨wd_2_6, List.forall_mem_cons.mpr ⟨wd_2_8, List.forall_mem_cons.mpr ⟨wd_2_10, List.forall_mem_cons.mpr ⟨wd_2_12, List.forall_mem_cons.mpr ⟨wd_2_14, List.forall_mem_cons.mpr ⟨wd_2_16, List.forall_mem_cons.mpr ⟨wd_2_18, List.forall_mem_cons.mpr ⟨wd_2_20, fun _ h => absurd h List.not_mem_nil⟩⟩⟩⟩⟩⟩⟩⟩⟩⟩
set_option maxRecDepth 10000 in
theorem inU_2 : ∀ w ∈ u_ws (clS 2).1 (clS 2).2.1 (clS 2).2.2, w ∈ TW := List.forall_mem_cons.mpr ⟨wd_1_191, List.forall_mem_cons.mpr ⟨wd_1_193, List.forall_mem_cons.mpr ⟨wd_1_195, List.forall_mem_cons.mpr ⟨wd_1_197, List.forall_mem_cons.mpr ⟨wd_1_199, List.forall_mem_cons.mpr ⟨wd_1_201, List.forall_mem_cons.mpr ⟨wd_1_203, List.forall_mem_cons.mpr ⟨wd_1_205, List.forall_mem_cons.mpr ⟨wd_1_207, List.forall_mem_cons.mpr ⟨wd_1_209, List.forall_mem_cons.mpr ⟨wd_1_211, fun _ h => absurd h List.not_mem_nil⟩⟩⟩⟩⟩⟩⟩⟩⟩⟩⟩
set_option maxRecDepth 10000 in
theorem inU_3 : ∀ w ∈ u_ws (clS 3).1 (clS 3).2.1 (clS 3).2.2, w ∈ TW := List.forall_mem_cons.mpr ⟨wd_1_35, List.forall_mem_cons.mpr ⟨wd_1_37, List.forall_mem_cons.mpr ⟨wd_1_39, fun _ h => absurd h List.not_mem_nil⟩⟩⟩
set_option maxRecDepth 10000 in
theorem inU_4 : ∀ w ∈ u_ws (clS 4).1 (clS 4).2.1 (clS 4).2.2, w ∈ TW := List.forall_mem_cons.mpr ⟨wd_2_46, List.forall_mem_cons.mpr ⟨wd_2_48, List.forall_mem_cons.mpr ⟨wd_2_50, List.forall_mem_cons.mpr ⟨wd_2_52, List.forall_mem_cons.mpr ⟨wd_2_54, List.forall_mem_cons.mpr ⟨wd_2_56, List.forall_mem_cons.mpr ⟨wd_2_58, List.forall_mem_cons.mpr ⟨wd_2_60, List.forall_mem_cons.mpr ⟨wd_2_62, List.forall_mem_cons.mpr ⟨wd_2_64, fun _ h => absurd h List.not_mem_nil⟩⟩⟩⟩⟩⟩⟩⟩⟩⟩
set_option maxRecDepth 10000 in
theorem inU_5 : ∀ w ∈ u_ws (clS 5).1 (clS 5).2.1 (clS 5).2.2, w ∈ TW := List.forall_mem_cons.mpr ⟨wd_2_211, List.forall_mem_cons.mpr ⟨wd_2_213, List.forall_mem_cons.mpr ⟨wd_2_215, List.forall_mem_cons.mpr ⟨wd_2_217, List.forall_mem_cons.mpr ⟨wd_2_219, List.forall_mem_cons.mpr ⟨wd_2_221, List.forall_mem_cons.mpr ⟨wd_2_223, List.forall_mem_cons.mpr ⟨wd_2_225, List.forall_mem_cons.mpr ⟨wd_2_227, List.forall_mem_cons.mpr ⟨wd_2_229, List.forall_mem_cons.mpr ⟨wd_2_231, List.forall_mem_cons.mpr ⟨wd_2_233, List.forall_mem_cons.mpr ⟨wd_2_235, List.forall_mem_cons.mpr ⟨wd_2_237, List.forall_mem_cons.mpr ⟨wd_2_239, fun _ h => absurd h List.not_mem_nil⟩⟩⟩⟩⟩⟩⟩⟩⟩⟩⟩⟩⟩⟩⟩
set_option maxRecDepth 10000 in
theorem inU_6 : ∀ w ∈ u_ws (clS 6).1 (clS 6).2.1 (clS 6).2.2, w ∈ TW := List.forall_mem_cons.mpr ⟨wd_2_164, List.forall_mem_cons.mpr ⟨wd_2_166, List.forall_mem_cons.mpr ⟨wd_2_168, List.forall_mem_cons.mpr ⟨wd_2_170, List.forall_mem_cons.mpr ⟨wd_2_172, List.forall_mem_cons.mpr ⟨wd_2_174, List.forall_mem_cons.mpr ⟨wd_2_176, List.forall_mem_cons.mpr ⟨wd_2_178, List.forall_mem_cons.mpr ⟨wd_2_180, fun _ h => absurd h List.not_mem_nil⟩⟩⟩⟩⟩⟩⟩⟩⟩
set_option maxRecDepth 10000 in
theorem inU_7 : ∀ w ∈ u_ws (clS 7).1 (clS 7).2.1 (clS 7).2.2, w ∈ TW := List.forall_mem_cons.mpr ⟨wd_1_120, List.forall_mem_cons.mpr ⟨wd_1_122, List.forall_mem_cons.mpr ⟨wd_1_124, List.forall_mem_cons.mpr ⟨wd_1_126, List.forall_mem_cons.mpr ⟨wd_1_128, List.forall_mem_cons.mpr ⟨wd_1_130, List.forall_mem_cons.mpr ⟨wd_1_132, List.forall_mem_cons.mpr ⟨wd_1_134, List.forall_mem_cons.mpr ⟨wd_1_136, List.forall_mem_cons.mpr ⟨wd_1_138, fun _ h => absurd h List.not_mem_nil⟩⟩⟩⟩⟩⟩⟩⟩⟩⟩
set_option maxRecDepth 10000 in
theorem inU_8 : ∀ w ∈ u_ws (clS 8).1 (clS 8).2.1 (clS 8).2.2, w ∈ TW := List.forall_mem_cons.mpr ⟨wd_2_93, List.forall_mem_cons.mpr ⟨wd_2_95, List.forall_mem_cons.mpr ⟨wd_2_97, List.forall_mem_cons.mpr ⟨wd_2_99, List.forall_mem_cons.mpr ⟨wd_2_101, List.forall_mem_cons.mpr ⟨wd_2_103, List.forall_mem_cons.mpr ⟨wd_2_105, List.forall_mem_cons.mpr ⟨wd_2_107, List.forall_mem_cons.mpr ⟨wd_2_109, List.forall_mem_cons.mpr ⟨wd_2_111, List.forall_mem_cons.mpr ⟨wd_2_113, List.forall_mem_cons.mpr ⟨wd_2_115, List.forall_mem_cons.mpr ⟨wd_2_117, List.forall_mem_cons.mpr ⟨wd_2_119, List.forall_mem_cons.mpr ⟨wd_2_121, List.forall_mem_cons.mpr ⟨wd_2_123, List.forall_mem_cons.mpr ⟨wd_2_125, fun _ h => absurd h List.not_mem_nil⟩⟩⟩⟩⟩⟩⟩⟩⟩⟩⟩⟩⟩⟩⟩⟩⟩
set_option maxRecDepth 10000 in
theorem inU_9 : ∀ w ∈ u_ws (clS 9).1 (clS 9).2.1 (clS 9).2.2, w ∈ TW := List.forall_mem_cons.mpr ⟨wd_1_70, List.forall_mem_cons.mpr ⟨wd_1_72, List.forall_mem_cons.mpr ⟨wd_1_74, List.forall_mem_cons.mpr ⟨wd_1_76, List.forall_mem_cons.mpr ⟨wd_1_78, List.forall_mem_cons.mpr ⟨wd_1_80, List.forall_mem_cons.mpr ⟨wd_1_82, List.forall_mem_cons.mpr ⟨wd_1_84, List.forall_mem_cons.mpr ⟨wd_1_86, List.forall_mem_cons.mpr ⟨wd_1_88, List.forall_mem_cons.mpr ⟨wd_1_90, List.forall_mem_cons.mpr ⟨wd_1_92, fun _ h => absurd h List.not_mem_nil⟩⟩⟩⟩⟩⟩⟩⟩⟩⟩⟩⟩
set_option maxRecDepth 10000 in
theorem inU_10 : ∀ w ∈ u_ws (clS 10).1 (clS 10).2.1 (clS 10).2.2, w ∈ TW := List.forall_mem_cons.mpr ⟨wd_2_140, List.forall_mem_cons.mpr ⟨wd_2_142, List.forall_mem_cons.mpr ⟨wd_2_144, fun _ h => absurd h List.not_mem_nil⟩⟩⟩
set_option maxRecDepth 10000 in
theorem inU_11 : ∀ w ∈ u_ws (clS 11).1 (clS 11).2.1 (clS 11).2.2, w ∈ TW := List.forall_mem_cons.mpr ⟨wd_3_18, List.forall_mem_cons.mpr ⟨wd_3_20, List.forall_mem_cons.mpr ⟨wd_3_22, List.forall_mem_cons.mpr ⟨wd_3_24, List.forall_mem_cons.mpr ⟨wd_3_26, List.forall_mem_cons.mpr ⟨wd_3_28, List.forall_mem_cons.mpr ⟨wd_3_30, List.forall_mem_cons.mpr ⟨wd_3_32, List.forall_mem_cons.mpr ⟨wd_3_34, List.forall_mem_cons.mpr ⟨wd_3_36, List.forall_mem_cons.mpr ⟨wd_3_38, List.forall_mem_cons.mpr ⟨wd_3_40, List.forall_mem_cons.mpr ⟨wd_3_42, List.forall_mem_cons.mpr ⟨wd_3_44, List.forall_mem_cons.mpr ⟨wd_3_46, List.forall_mem_cons.mpr ⟨wd_3_48, fun _ h => absurd h List.not_mem_nil⟩⟩⟩⟩⟩⟩⟩⟩⟩⟩⟩⟩⟩⟩⟩⟩
set_option maxRecDepth 10000 in
theorem inU_12 : ∀ w ∈ u_ws (clS 12).1 (clS 12).2.1 (clS 12).2.2, w ∈ TW := List.forall_mem_cons.mpr ⟨wd_6_179, List.forall_mem_cons.mpr ⟨wd_6_181, List.forall_mem_cons.mpr ⟨wd_6_183, List.forall_mem_cons.mpr ⟨wd_6_185, List.forall_mem_cons.mpr ⟨wd_6_187, List.forall_mem_cons.mpr ⟨wd_6_189, List.forall_mem_cons.mpr ⟨wd_6_191, List.forall_mem_cons.mpr ⟨wd_6_193, List.forall_mem_cons.mpr ⟨wd_6_195, List.forall_mem_cons.mpr ⟨wd_6_197, List.forall_mem_cons.mpr ⟨wd_6_199, List.forall_mem_cons.mpr ⟨wd_6_201, List.forall_mem_cons.mpr ⟨wd_6_203, List.forall_mem_cons.mpr ⟨wd_6_205, List.forall_mem_cons.mpr ⟨wd_6_207, List.forall_mem_cons.mpr ⟨wd_6_209, List.forall_mem_cons.mpr ⟨wd_6_211, List.forall_mem_cons.mpr ⟨wd_6_213, List.forall_mem_cons.mpr ⟨wd_6_215, List.forall_mem_cons.mpr ⟨wd_6_217, List.forall_mem_cons.mpr ⟨wd_6_219, List.forall_mem_cons.mpr ⟨wd_6_221, List.forall_mem_cons.mpr ⟨wd_6_223, List.forall_mem_cons.mpr ⟨wd_6_225, List.forall_mem_cons.mpr ⟨wd_6_227, List.forall_mem_cons.mpr ⟨wd_6_229, List.forall_mem_cons.mpr ⟨wd_6_231, List.forall_mem_cons.mpr ⟨wd_6_233, List.forall_mem_cons.mpr ⟨wd_6_235, List.forall_mem_cons.mpr ⟨wd_6_237, List.forall_mem_cons.mpr ⟨wd_6_239, List.forall_mem_cons.mpr ⟨wd_7_1, List.forall_mem_cons.mpr ⟨wd_7_3, List.forall_mem_cons.mpr ⟨wd_7_5, List.forall_mem_cons.mpr ⟨wd_7_7, List.forall_mem_cons.mpr ⟨wd_7_9, List.forall_mem_cons.mpr ⟨wd_7_11, List.forall_mem_cons.mpr ⟨wd_7_13, List.forall_mem_cons.mpr ⟨wd_7_15, List.forall_mem_cons.mpr ⟨wd_7_17, List.forall_mem_cons.mpr ⟨wd_7_19, List.forall_mem_cons.mpr ⟨wd_7_21, List.forall_mem_cons.mpr ⟨wd_7_23, List.forall_mem_cons.mpr ⟨wd_7_25, List.forall_mem_cons.mpr ⟨wd_7_27, List.forall_mem_cons.mpr ⟨wd_7_29, List.forall_mem_cons.mpr ⟨wd_7_31, List.forall_mem_cons.mpr ⟨wd_7_33, List.forall_mem_cons.mpr ⟨wd_7_35, List.forall_mem_cons.mpr ⟨wd_7_37, List.forall_mem_cons.mpr ⟨wd_7_39, List.forall_mem_cons.mpr ⟨wd_7_41, List.forall_mem_cons.mpr ⟨wd_7_43, List.forall_mem_cons.mpr ⟨wd_7_45, List.forall_mem_cons.mpr ⟨wd_7_47, List.forall_mem_cons.mpr ⟨wd_7_49, List.forall_mem_cons.mpr ⟨wd_7_51, List.forall_mem_cons.mpr ⟨wd_7_53, List.forall_mem_cons.mpr ⟨wd_7_55, List.forall_mem_cons.mpr ⟨wd_7_57, List.forall_mem_cons.mpr ⟨wd_7_59, List.forall_mem_cons.mpr ⟨wd_7_61, List.forall_mem_cons.mpr ⟨wd_7_63, List.forall_mem_cons.mpr ⟨wd_7_65, List.forall_mem_cons.mpr ⟨wd_7_67, List.forall_mem_cons.mpr ⟨wd_7_69, List.forall_mem_cons.mpr ⟨wd_7_71, List.forall_mem_cons.mpr ⟨wd_7_73, List.forall_mem_cons.mpr ⟨wd_7_75, List.forall_mem_cons.mpr ⟨wd_7_77, List.forall_mem_cons.mpr ⟨wd_7_79, List.forall_mem_cons.mpr ⟨wd_7_81, List.forall_mem_cons.mpr ⟨wd_7_83, List.forall_mem_cons.mpr ⟨wd_7_85, List.forall_mem_cons.mpr ⟨wd_7_87, List.forall_mem_cons.mpr ⟨wd_7_89, List.forall_mem_cons.mpr ⟨wd_7_91, List.forall_mem_cons.mpr ⟨wd_7_93, List.forall_mem_cons.mpr ⟨wd_7_95, List.forall_mem_cons.mpr ⟨wd_7_97, List.forall_mem_cons.mpr ⟨wd_7_99, List.forall_mem_cons.mpr ⟨wd_7_101, List.forall_mem_cons.mpr ⟨wd_7_103, List.forall_mem_cons.mpr ⟨wd_7_105, List.forall_mem_cons.mpr ⟨wd_7_107, List.forall_mem_cons.mpr ⟨wd_7_109, List.forall_mem_cons.mpr ⟨wd_7_111, List.forall_mem_cons.mpr ⟨wd_7_113, List.forall_mem_cons.mpr ⟨wd_7_115, List.forall_mem_cons.mpr ⟨wd_7_117, List.forall_mem_cons.mpr ⟨wd_7_119, List.forall_mem_cons.mpr ⟨wd_7_121, List.forall_mem_cons.mpr ⟨wd_7_123, List.forall_mem_cons.mpr ⟨wd_7_125, List.forall_mem_cons.mpr ⟨wd_7_127, List.forall_mem_cons.mpr ⟨wd_7_129, List.forall_mem_cons.mpr ⟨wd_7_131, List.forall_mem_cons.mpr ⟨wd_7_133, List.forall_mem_cons.mpr ⟨wd_7_135, List.forall_mem_cons.mpr ⟨wd_7_137, List.forall_mem_cons.mpr ⟨wd_7_139, List.forall_mem_cons.mpr ⟨wd_7_141, List.forall_mem_cons.mpr ⟨wd_7_143, List.forall_mem_cons.mpr ⟨wd_7_145, List.forall_mem_cons.mpr ⟨wd_7_147, List.forall_mem_cons.mpr ⟨wd_7_149, List.forall_mem_cons.mpr ⟨wd_7_151, fun _ h => absurd h List.not_mem_nil⟩⟩⟩⟩⟩⟩⟩⟩⟩⟩⟩⟩⟩⟩⟩⟩⟩⟩⟩⟩⟩⟩⟩⟩⟩⟩⟩⟩⟩⟩⟩⟩⟩⟩⟩⟩⟩⟩⟩⟩⟩⟩⟩⟩⟩⟩⟩⟩⟩⟩⟩⟩⟩⟩⟩⟩⟩⟩⟩⟩⟩⟩⟩⟩⟩⟩⟩⟩⟩⟩⟩⟩⟩⟩⟩⟩⟩⟩⟩⟩⟩⟩⟩⟩⟩⟩⟩⟩⟩⟩⟩⟩⟩⟩⟩⟩⟩⟩⟩⟩⟩⟩⟩⟩⟩⟩⟩
theorem inU {ci : Nat} (h : ci < 13) : ∀ w ∈ u_ws (clS ci).1 (clS ci).2.1 (clS ci).2.2, w ∈ TW := match ci, h with
  | 0, _ => inU_0
  | 1, _ => inU_1
  | 2, _ => inU_2
  | 3, _ => inU_3
  | 4, _ => inU_4
  | 5, _ => inU_5
  | 6, _ => inU_6
  | 7, _ => inU_7
  | 8, _ => inU_8
  | 9, _ => inU_9
  | 10, _ => inU_10
  | 11, _ => inU_11
  | 12, _ => inU_12
  | k + 13, h => absurd h (by omega)
theorem clNm {ci : Nat} (h : ci < 13) : ∀ a, a < (clS ci).2.2 → ∀ b, b < (clS ci).2.2 → a ≠ b → ((clS ci).2.1 a).2.1 ≠ ((clS ci).2.1 b).2.1 := match ci, h with
  | 0, _ => nmX0
  | 1, _ => nmX1
  | 2, _ => nmX2
  | 3, _ => nmX3
  | 4, _ => nmX4
  | 5, _ => nmX5
  | 6, _ => nmX6
  | 7, _ => nmX7
  | 8, _ => nmX8
  | 9, _ => nmX9
  | 10, _ => nmX10
  | 11, _ => nmX11
  | 12, _ => nmX12
  | k + 13, h => absurd h (by omega)
theorem clTok {ci : Nat} (h : ci < 13) : ∀ k, k < (clS ci).2.2 → parseFieldDescriptor ((clS ci).2.1 k).2.2.1 = some (clTy ci k) := match ci, h with
  | 0, _ => tyX0_ok
  | 1, _ => tyX1_ok
  | 2, _ => tyX2_ok
  | 3, _ => tyX3_ok
  | 4, _ => tyX4_ok
  | 5, _ => tyX5_ok
  | 6, _ => tyX6_ok
  | 7, _ => tyX7_ok
  | 8, _ => tyX8_ok
  | 9, _ => tyX9_ok
  | 10, _ => tyX10_ok
  | 11, _ => tyX11_ok
  | 12, _ => tyX12_ok
  | k + 13, h => absurd h (by omega)
theorem md_max : Cond.static Lib.Math.max.name ∈ TW ∧ Cond.initialized "java/lang/Math" ∈ TW ∧ Cond.code Lib.Math.max.name Lib.Math.max.code 2 (some .int) ∈ TW := ⟨inC_4 _ (List.mem_of_getElem? (i := 82) rfl) rfl, inC_1 _ (List.mem_of_getElem? (i := 14) rfl) rfl, inC_4 _ (List.mem_of_getElem? (i := 83) rfl) rfl⟩
theorem md_min : Cond.static Lib.Math.min.name ∈ TW ∧ Cond.initialized "java/lang/Math" ∈ TW ∧ Cond.code Lib.Math.min.name Lib.Math.min.code 2 (some .int) ∈ TW := ⟨inC_3 _ (List.mem_of_getElem? (i := 78) rfl) rfl, inC_1 _ (List.mem_of_getElem? (i := 14) rfl) rfl, inC_3 _ (List.mem_of_getElem? (i := 79) rfl) rfl⟩
theorem md_abs : Cond.static Lib.Math.abs.name ∈ TW ∧ Cond.initialized "java/lang/Math" ∈ TW ∧ Cond.code Lib.Math.abs.name Lib.Math.abs.code 1 (some .int) ∈ TW := ⟨inC_5 _ (List.mem_of_getElem? (i := 194) rfl) rfl, inC_1 _ (List.mem_of_getElem? (i := 14) rfl) rfl, inC_5 _ (List.mem_of_getElem? (i := 195) rfl) rfl⟩
