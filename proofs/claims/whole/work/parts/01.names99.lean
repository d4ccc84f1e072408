theorem mw_0 : (.fieldLink RX0 9 "WordForge$Code" "ops" "[I" : Cond) ∈ lw_gt := List.mem_filter.mpr ⟨List.mem_of_getElem? (i := 137) (by decide +kernel), by decide +kernel⟩
theorem mw_1 : (.fieldLink RX0 13 "WordForge$Code" "args" "[I" : Cond) ∈ lw_gt := List.mem_filter.mpr ⟨List.mem_of_getElem? (i := 138) (by decide +kernel), by decide +kernel⟩
theorem mw_2 : (.fieldLink RX1 35 "WordForge$Dictionary" "size" "I" : Cond) ∈ lw_gt := List.mem_filter.mpr ⟨List.mem_of_getElem? (i := 168) (by decide +kernel), by decide +kernel⟩
theorem mw_3 : (.fieldLink RX1 11 "WordForge$Dictionary" "keys" "[J" : Cond) ∈ lw_gt := List.mem_filter.mpr ⟨List.mem_of_getElem? (i := 164) (by decide +kernel), by decide +kernel⟩
theorem mw_4 : (.fieldLink RX1 15 "WordForge$Dictionary" "starts" "[I" : Cond) ∈ lw_gt := List.mem_filter.mpr ⟨List.mem_of_getElem? (i := 165) (by decide +kernel), by decide +kernel⟩
theorem mw_5 : (.methodLink RX1 39 yX1_keyOf : Cond) ∈ lw_gt := List.mem_filter.mpr ⟨List.mem_of_getElem? (i := 434) (by decide +kernel), by decide +kernel⟩
theorem mw_6 : (.instanceMethod yX1_keyOf : Cond) ∈ lw_gt := List.mem_filter.mpr ⟨List.mem_of_getElem? (i := 435) (by decide +kernel), by decide +kernel⟩
theorem mw_7 : (.selects RX1 yX1_keyOf yX1_keyOf : Cond) ∈ lw_gt := List.mem_filter.mpr ⟨List.mem_of_getElem? (i := 436) (by decide +kernel), by decide +kernel⟩
theorem mw_8 : (.initialized RX1 : Cond) ∈ lw_gt := List.mem_filter.mpr ⟨List.mem_of_getElem? (i := 53) (by decide +kernel), by decide +kernel⟩
theorem mw_9 : (.code yX1_keyOf cX1_keyOf 2 (some .long) : Cond) ∈ lw_gt := List.mem_filter.mpr ⟨List.mem_of_getElem? (i := 437) (by decide +kernel), by decide +kernel⟩
theorem mw_10 : (.fieldLink RX1 43 "WordForge$Dictionary" "openLength" "I" : Cond) ∈ lw_gt := List.mem_filter.mpr ⟨List.mem_of_getElem? (i := 169) (by decide +kernel), by decide +kernel⟩
theorem mw_11 : (.fieldLink RX1 22 "WordForge$Dictionary" "code" "LWordForge$Code;" : Cond) ∈ lw_gt := List.mem_filter.mpr ⟨List.mem_of_getElem? (i := 166) (by decide +kernel), by decide +kernel⟩
theorem mw_12 : (.methodLink RX1 46 yX1_startOf : Cond) ∈ lw_gt := List.mem_filter.mpr ⟨List.mem_of_getElem? (i := 458) (by decide +kernel), by decide +kernel⟩
theorem mw_13 : (.instanceMethod yX1_startOf : Cond) ∈ lw_gt := List.mem_filter.mpr ⟨List.mem_of_getElem? (i := 459) (by decide +kernel), by decide +kernel⟩
theorem mw_14 : (.selects RX1 yX1_startOf yX1_startOf : Cond) ∈ lw_gt := List.mem_filter.mpr ⟨List.mem_of_getElem? (i := 460) (by decide +kernel), by decide +kernel⟩
theorem mw_15 : (.code yX1_startOf cX1_startOf 2 (some .int) : Cond) ∈ lw_gt := List.mem_filter.mpr ⟨List.mem_of_getElem? (i := 461) (by decide +kernel), by decide +kernel⟩
theorem mw_16 : (.methodLink RX1 50 yX0_set : Cond) ∈ lw_gt := List.mem_filter.mpr ⟨List.mem_of_getElem? (i := 506) (by decide +kernel), by decide +kernel⟩
theorem mw_17 : (.instanceMethod yX0_set : Cond) ∈ lw_gt := List.mem_filter.mpr ⟨List.mem_of_getElem? (i := 507) (by decide +kernel), by decide +kernel⟩
theorem mw_18 : (.selects RX0 yX0_set yX0_set : Cond) ∈ lw_gt := List.mem_filter.mpr ⟨List.mem_of_getElem? (i := 508) (by decide +kernel), by decide +kernel⟩
theorem mw_19 : (.initialized RX0 : Cond) ∈ lw_gt := List.mem_filter.mpr ⟨List.mem_of_getElem? (i := 54) (by decide +kernel), by decide +kernel⟩
theorem mw_20 : (.code yX0_set cX0_set 4 none : Cond) ∈ lw_gt := List.mem_filter.mpr ⟨List.mem_of_getElem? (i := 509) (by decide +kernel), by decide +kernel⟩
theorem mw_21 : (.fieldLink RX2 17 "WordForge$Linker" "open" "I" : Cond) ∈ lw_gt := List.mem_filter.mpr ⟨List.mem_of_getElem? (i := 153) (by decide +kernel), by decide +kernel⟩
theorem mw_22 : (.fieldLink RX2 13 "WordForge$Linker" "waiting" "[I" : Cond) ∈ lw_gt := List.mem_filter.mpr ⟨List.mem_of_getElem? (i := 152) (by decide +kernel), by decide +kernel⟩
theorem mw_23 : (.fieldLink RX2 21 "WordForge$Linker" "openLoops" "I" : Cond) ∈ lw_gt := List.mem_filter.mpr ⟨List.mem_of_getElem? (i := 154) (by decide +kernel), by decide +kernel⟩
theorem mw_24 : (.fieldLink RX2 7 "WordForge$Linker" "code" "LWordForge$Code;" : Cond) ∈ lw_gt := List.mem_filter.mpr ⟨List.mem_of_getElem? (i := 151) (by decide +kernel), by decide +kernel⟩
theorem mw_25 : (.methodLink RX2 42 yX0_lead : Cond) ∈ lw_gt := List.mem_filter.mpr ⟨List.mem_of_getElem? (i := 478) (by decide +kernel), by decide +kernel⟩
theorem mw_26 : (.instanceMethod yX0_lead : Cond) ∈ lw_gt := List.mem_filter.mpr ⟨List.mem_of_getElem? (i := 479) (by decide +kernel), by decide +kernel⟩
theorem mw_27 : (.selects RX0 yX0_lead yX0_lead : Cond) ∈ lw_gt := List.mem_filter.mpr ⟨List.mem_of_getElem? (i := 480) (by decide +kernel), by decide +kernel⟩
theorem mw_28 : (.code yX0_lead cX0_lead 3 none : Cond) ∈ lw_gt := List.mem_filter.mpr ⟨List.mem_of_getElem? (i := 481) (by decide +kernel), by decide +kernel⟩
theorem mw_29 : (.methodLink RX2 24 yX0_opAt : Cond) ∈ lw_gt := List.mem_filter.mpr ⟨List.mem_of_getElem? (i := 466) (by decide +kernel), by decide +kernel⟩
theorem mw_30 : (.instanceMethod yX0_opAt : Cond) ∈ lw_gt := List.mem_filter.mpr ⟨List.mem_of_getElem? (i := 467) (by decide +kernel), by decide +kernel⟩
theorem mw_31 : (.selects RX0 yX0_opAt yX0_opAt : Cond) ∈ lw_gt := List.mem_filter.mpr ⟨List.mem_of_getElem? (i := 468) (by decide +kernel), by decide +kernel⟩
theorem mw_32 : (.code yX0_opAt cX0_opAt 2 (some .int) : Cond) ∈ lw_gt := List.mem_filter.mpr ⟨List.mem_of_getElem? (i := 469) (by decide +kernel), by decide +kernel⟩
theorem mw_33 : (.methodLink RX2 46 yX0_argAt : Cond) ∈ lw_gt := List.mem_filter.mpr ⟨List.mem_of_getElem? (i := 486) (by decide +kernel), by decide +kernel⟩
theorem mw_34 : (.instanceMethod yX0_argAt : Cond) ∈ lw_gt := List.mem_filter.mpr ⟨List.mem_of_getElem? (i := 487) (by decide +kernel), by decide +kernel⟩
theorem mw_35 : (.selects RX0 yX0_argAt yX0_argAt : Cond) ∈ lw_gt := List.mem_filter.mpr ⟨List.mem_of_getElem? (i := 488) (by decide +kernel), by decide +kernel⟩
theorem mw_36 : (.code yX0_argAt cX0_argAt 2 (some .int) : Cond) ∈ lw_gt := List.mem_filter.mpr ⟨List.mem_of_getElem? (i := 489) (by decide +kernel), by decide +kernel⟩
theorem mw_37 : (.methodLink RX2 30 yX2_begin : Cond) ∈ lw_gt := List.mem_filter.mpr ⟨List.mem_of_getElem? (i := 470) (by decide +kernel), by decide +kernel⟩
theorem mw_38 : (.instanceMethod yX2_begin : Cond) ∈ lw_gt := List.mem_filter.mpr ⟨List.mem_of_getElem? (i := 472) (by decide +kernel), by decide +kernel⟩
theorem mw_39 : (.selects RX2 yX2_begin yX2_begin : Cond) ∈ lw_gt := List.mem_filter.mpr ⟨List.mem_of_getElem? (i := 7) (by decide +kernel), by decide +kernel⟩
theorem mw_40 : (.initialized RX2 : Cond) ∈ lw_gt := List.mem_filter.mpr ⟨List.mem_of_getElem? (i := 55) (by decide +kernel), by decide +kernel⟩
theorem mw_41 : (.code yX2_begin cX2_begin 3 (some .boolean) : Cond) ∈ lw_gt := List.mem_filter.mpr ⟨List.mem_of_getElem? (i := 473) (by decide +kernel), by decide +kernel⟩
theorem mw_42 : (.methodLink RX2 34 yX2_divide : Cond) ∈ lw_gt := List.mem_filter.mpr ⟨List.mem_of_getElem? (i := 474) (by decide +kernel), by decide +kernel⟩
theorem mw_43 : (.instanceMethod yX2_divide : Cond) ∈ lw_gt := List.mem_filter.mpr ⟨List.mem_of_getElem? (i := 476) (by decide +kernel), by decide +kernel⟩
theorem mw_44 : (.selects RX2 yX2_divide yX2_divide : Cond) ∈ lw_gt := List.mem_filter.mpr ⟨List.mem_of_getElem? (i := 8) (by decide +kernel), by decide +kernel⟩
theorem mw_45 : (.code yX2_divide cX2_divide 4 (some .boolean) : Cond) ∈ lw_gt := List.mem_filter.mpr ⟨List.mem_of_getElem? (i := 477) (by decide +kernel), by decide +kernel⟩
theorem mw_46 : (.methodLink RX2 37 yX2_close : Cond) ∈ lw_gt := List.mem_filter.mpr ⟨List.mem_of_getElem? (i := 482) (by decide +kernel), by decide +kernel⟩
theorem mw_47 : (.instanceMethod yX2_close : Cond) ∈ lw_gt := List.mem_filter.mpr ⟨List.mem_of_getElem? (i := 484) (by decide +kernel), by decide +kernel⟩
theorem mw_48 : (.selects RX2 yX2_close yX2_close : Cond) ∈ lw_gt := List.mem_filter.mpr ⟨List.mem_of_getElem? (i := 9) (by decide +kernel), by decide +kernel⟩
theorem mw_49 : (.code yX2_close cX2_close 5 (some .boolean) : Cond) ∈ lw_gt := List.mem_filter.mpr ⟨List.mem_of_getElem? (i := 485) (by decide +kernel), by decide +kernel⟩
theorem mw_50 : (.fieldLink RX1 31 "WordForge$Dictionary" "linker" "LWordForge$Linker;" : Cond) ∈ lw_gt := List.mem_filter.mpr ⟨List.mem_of_getElem? (i := 167) (by decide +kernel), by decide +kernel⟩
theorem mw_51 : (.methodLink RX1 54 yX2_link : Cond) ∈ lw_gt := List.mem_filter.mpr ⟨List.mem_of_getElem? (i := 462) (by decide +kernel), by decide +kernel⟩
theorem mw_52 : (.instanceMethod yX2_link : Cond) ∈ lw_gt := List.mem_filter.mpr ⟨List.mem_of_getElem? (i := 463) (by decide +kernel), by decide +kernel⟩
theorem mw_53 : (.selects RX2 yX2_link yX2_link : Cond) ∈ lw_gt := List.mem_filter.mpr ⟨List.mem_of_getElem? (i := 464) (by decide +kernel), by decide +kernel⟩
theorem mw_54 : (.code yX2_link cX2_link 6 (some .boolean) : Cond) ∈ lw_gt := List.mem_filter.mpr ⟨List.mem_of_getElem? (i := 465) (by decide +kernel), by decide +kernel⟩
theorem mw_55 : (.fieldLink RX3 30 "WordForge$Loader" "faultPlace" "I" : Cond) ∈ lw_gt := List.mem_filter.mpr ⟨List.mem_of_getElem? (i := 326) (by decide +kernel), by decide +kernel⟩
theorem mw_56 : (.fieldLink RX4 16 "WordForge$Loops" "open" "I" : Cond) ∈ lw_gt := List.mem_filter.mpr ⟨List.mem_of_getElem? (i := 201) (by decide +kernel), by decide +kernel⟩
theorem mw_57 : (.fieldLink RX5 54 "WordForge$Machine" "steps" "I" : Cond) ∈ lw_gt := List.mem_filter.mpr ⟨List.mem_of_getElem? (i := 220) (by decide +kernel), by decide +kernel⟩
theorem mw_58 : (.fieldLink RX5 58 "WordForge$Machine" "bodies" "I" : Cond) ∈ lw_gt := List.mem_filter.mpr ⟨List.mem_of_getElem? (i := 218) (by decide +kernel), by decide +kernel⟩
theorem mw_59 : (.fieldLink RX5 41 "WordForge$Machine" "loops" "LWordForge$Loops;" : Cond) ∈ lw_gt := List.mem_filter.mpr ⟨List.mem_of_getElem? (i := 214) (by decide +kernel), by decide +kernel⟩
theorem mw_60 : (.methodLink RX5 61 yX4_closeDownTo : Cond) ∈ lw_gt := List.mem_filter.mpr ⟨List.mem_of_getElem? (i := 388) (by decide +kernel), by decide +kernel⟩
theorem mw_61 : (.instanceMethod yX4_closeDownTo : Cond) ∈ lw_gt := List.mem_filter.mpr ⟨List.mem_of_getElem? (i := 389) (by decide +kernel), by decide +kernel⟩
theorem mw_62 : (.selects RX4 yX4_closeDownTo yX4_closeDownTo : Cond) ∈ lw_gt := List.mem_filter.mpr ⟨List.mem_of_getElem? (i := 390) (by decide +kernel), by decide +kernel⟩
theorem mw_63 : (.initialized RX4 : Cond) ∈ lw_gt := List.mem_filter.mpr ⟨List.mem_of_getElem? (i := 57) (by decide +kernel), by decide +kernel⟩
theorem mw_64 : (.code yX4_closeDownTo cX4_closeDownTo 2 none : Cond) ∈ lw_gt := List.mem_filter.mpr ⟨List.mem_of_getElem? (i := 391) (by decide +kernel), by decide +kernel⟩
theorem mw_65 : (.fieldLink RX9 21 "WordForge$Text" "wordEnd" "I" : Cond) ∈ lw_gt := List.mem_filter.mpr ⟨List.mem_of_getElem? (i := 84) (by decide +kernel), by decide +kernel⟩
theorem mw_66 : (.fieldLink RX9 24 "WordForge$Text" "wordPlace" "I" : Cond) ∈ lw_gt := List.mem_filter.mpr ⟨List.mem_of_getElem? (i := 85) (by decide +kernel), by decide +kernel⟩
theorem mw_67 : (.fieldLink RX9 13 "WordForge$Text" "length" "I" : Cond) ∈ lw_gt := List.mem_filter.mpr ⟨List.mem_of_getElem? (i := 82) (by decide +kernel), by decide +kernel⟩
theorem mw_68 : (.fieldLink RX9 9 "WordForge$Text" "codes" "[C" : Cond) ∈ lw_gt := List.mem_filter.mpr ⟨List.mem_of_getElem? (i := 81) (by decide +kernel), by decide +kernel⟩
theorem mw_69 : (.fieldLink RX9 27 "WordForge$Text" "wordStart" "I" : Cond) ∈ lw_gt := List.mem_filter.mpr ⟨List.mem_of_getElem? (i := 83) (by decide +kernel), by decide +kernel⟩
theorem mw_70 : (.methodLink RX9 30 yX9_charAt : Cond) ∈ lw_gt := List.mem_filter.mpr ⟨List.mem_of_getElem? (i := 400) (by decide +kernel), by decide +kernel⟩
theorem mw_71 : (.instanceMethod yX9_charAt : Cond) ∈ lw_gt := List.mem_filter.mpr ⟨List.mem_of_getElem? (i := 402) (by decide +kernel), by decide +kernel⟩
theorem mw_72 : (.selects RX9 yX9_charAt yX9_charAt : Cond) ∈ lw_gt := List.mem_filter.mpr ⟨List.mem_of_getElem? (i := 1) (by decide +kernel), by decide +kernel⟩
theorem mw_73 : (.initialized RX9 : Cond) ∈ lw_gt := List.mem_filter.mpr ⟨List.mem_of_getElem? (i := 50) (by decide +kernel), by decide +kernel⟩
theorem mw_74 : (.code yX9_charAt cX9_charAt 2 (some .char) : Cond) ∈ lw_gt := List.mem_filter.mpr ⟨List.mem_of_getElem? (i := 403) (by decide +kernel), by decide +kernel⟩
theorem mw_75 : (.methodLink RX9 38 yX9_firstDigit : Cond) ∈ lw_gt := List.mem_filter.mpr ⟨List.mem_of_getElem? (i := 416) (by decide +kernel), by decide +kernel⟩
theorem mw_76 : (.instanceMethod yX9_firstDigit : Cond) ∈ lw_gt := List.mem_filter.mpr ⟨List.mem_of_getElem? (i := 418) (by decide +kernel), by decide +kernel⟩
theorem mw_77 : (.selects RX9 yX9_firstDigit yX9_firstDigit : Cond) ∈ lw_gt := List.mem_filter.mpr ⟨List.mem_of_getElem? (i := 4) (by decide +kernel), by decide +kernel⟩
theorem mw_78 : (.code yX9_firstDigit cX9_firstDigit 1 (some .int) : Cond) ∈ lw_gt := List.mem_filter.mpr ⟨List.mem_of_getElem? (i := 419) (by decide +kernel), by decide +kernel⟩
theorem mw_79 : (.constantLong RX9 36 (128) : Cond) ∈ lw_gt := List.mem_filter.mpr ⟨List.mem_of_getElem? (i := 425) (by decide +kernel), by decide +kernel⟩
theorem mw_80 : (.constantLong RX9 34 (-1) : Cond) ∈ lw_gt := List.mem_filter.mpr ⟨List.mem_of_getElem? (i := 424) (by decide +kernel), by decide +kernel⟩
theorem mw_81 : (.fieldLink RX10 9 "WordForge$Vocabulary" "keys" "[J" : Cond) ∈ lw_gt := List.mem_filter.mpr ⟨List.mem_of_getElem? (i := 317) (by decide +kernel), by decide +kernel⟩
theorem mw_82 : (.fieldLink RX3 9 "WordForge$Loader" "text" "LWordForge$Text;" : Cond) ∈ lw_gt := List.mem_filter.mpr ⟨List.mem_of_getElem? (i := 322) (by decide +kernel), by decide +kernel⟩
theorem mw_83 : (.methodLink RX3 81 yX9_isNumber : Cond) ∈ lw_gt := List.mem_filter.mpr ⟨List.mem_of_getElem? (i := 412) (by decide +kernel), by decide +kernel⟩
theorem mw_84 : (.instanceMethod yX9_isNumber : Cond) ∈ lw_gt := List.mem_filter.mpr ⟨List.mem_of_getElem? (i := 413) (by decide +kernel), by decide +kernel⟩
theorem mw_85 : (.selects RX9 yX9_isNumber yX9_isNumber : Cond) ∈ lw_gt := List.mem_filter.mpr ⟨List.mem_of_getElem? (i := 414) (by decide +kernel), by decide +kernel⟩
theorem mw_86 : (.code yX9_isNumber cX9_isNumber 3 (some .boolean) : Cond) ∈ lw_gt := List.mem_filter.mpr ⟨List.mem_of_getElem? (i := 415) (by decide +kernel), by decide +kernel⟩
theorem mw_87 : (.methodLink RX3 84 yX9_wordKey : Cond) ∈ lw_gt := List.mem_filter.mpr ⟨List.mem_of_getElem? (i := 420) (by decide +kernel), by decide +kernel⟩
theorem mw_88 : (.instanceMethod yX9_wordKey : Cond) ∈ lw_gt := List.mem_filter.mpr ⟨List.mem_of_getElem? (i := 421) (by decide +kernel), by decide +kernel⟩
theorem mw_89 : (.selects RX9 yX9_wordKey yX9_wordKey : Cond) ∈ lw_gt := List.mem_filter.mpr ⟨List.mem_of_getElem? (i := 422) (by decide +kernel), by decide +kernel⟩
theorem mw_90 : (.code yX9_wordKey cX9_wordKey 4 (some .long) : Cond) ∈ lw_gt := List.mem_filter.mpr ⟨List.mem_of_getElem? (i := 423) (by decide +kernel), by decide +kernel⟩
theorem mw_91 : (.fieldLink RX3 26 "WordForge$Loader" "vocabulary" "LWordForge$Vocabulary;" : Cond) ∈ lw_gt := List.mem_filter.mpr ⟨List.mem_of_getElem? (i := 325) (by decide +kernel), by decide +kernel⟩
theorem mw_92 : (.methodLink RX3 88 yX10_find : Cond) ∈ lw_gt := List.mem_filter.mpr ⟨List.mem_of_getElem? (i := 426) (by decide +kernel), by decide +kernel⟩
theorem mw_93 : (.instanceMethod yX10_find : Cond) ∈ lw_gt := List.mem_filter.mpr ⟨List.mem_of_getElem? (i := 427) (by decide +kernel), by decide +kernel⟩
theorem mw_94 : (.selects RX10 yX10_find yX10_find : Cond) ∈ lw_gt := List.mem_filter.mpr ⟨List.mem_of_getElem? (i := 428) (by decide +kernel), by decide +kernel⟩
theorem mw_95 : (.initialized RX10 : Cond) ∈ lw_gt := List.mem_filter.mpr ⟨List.mem_of_getElem? (i := 59) (by decide +kernel), by decide +kernel⟩
theorem mw_96 : (.code yX10_find cX10_find 4 (some .int) : Cond) ∈ lw_gt := List.mem_filter.mpr ⟨List.mem_of_getElem? (i := 429) (by decide +kernel), by decide +kernel⟩
theorem mw_97 : (.fieldLink RX3 15 "WordForge$Loader" "dictionary" "LWordForge$Dictionary;" : Cond) ∈ lw_gt := List.mem_filter.mpr ⟨List.mem_of_getElem? (i := 323) (by decide +kernel), by decide +kernel⟩
theorem mw_98 : (.methodLink RX3 92 yX1_find : Cond) ∈ lw_gt := List.mem_filter.mpr ⟨List.mem_of_getElem? (i := 430) (by decide +kernel), by decide +kernel⟩
theorem mw_99 : (.instanceMethod yX1_find : Cond) ∈ lw_gt := List.mem_filter.mpr ⟨List.mem_of_getElem? (i := 431) (by decide +kernel), by decide +kernel⟩
theorem mw_100 : (.selects RX1 yX1_find yX1_find : Cond) ∈ lw_gt := List.mem_filter.mpr ⟨List.mem_of_getElem? (i := 432) (by decide +kernel), by decide +kernel⟩
theorem mw_101 : (.code yX1_find cX1_find 4 (some .int) : Cond) ∈ lw_gt := List.mem_filter.mpr ⟨List.mem_of_getElem? (i := 433) (by decide +kernel), by decide +kernel⟩
theorem mw_102 : (.methodLink RX3 114 yX9_wordLength : Cond) ∈ lw_gt := List.mem_filter.mpr ⟨List.mem_of_getElem? (i := 446) (by decide +kernel), by decide +kernel⟩
theorem mw_103 : (.instanceMethod yX9_wordLength : Cond) ∈ lw_gt := List.mem_filter.mpr ⟨List.mem_of_getElem? (i := 447) (by decide +kernel), by decide +kernel⟩
theorem mw_104 : (.selects RX9 yX9_wordLength yX9_wordLength : Cond) ∈ lw_gt := List.mem_filter.mpr ⟨List.mem_of_getElem? (i := 448) (by decide +kernel), by decide +kernel⟩
theorem mw_105 : (.code yX9_wordLength cX9_wordLength 1 (some .int) : Cond) ∈ lw_gt := List.mem_filter.mpr ⟨List.mem_of_getElem? (i := 449) (by decide +kernel), by decide +kernel⟩
theorem mw_106 : (.methodLink RX3 98 yX1_size : Cond) ∈ lw_gt := List.mem_filter.mpr ⟨List.mem_of_getElem? (i := 498) (by decide +kernel), by decide +kernel⟩
theorem mw_107 : (.instanceMethod yX1_size : Cond) ∈ lw_gt := List.mem_filter.mpr ⟨List.mem_of_getElem? (i := 499) (by decide +kernel), by decide +kernel⟩
theorem mw_108 : (.selects RX1 yX1_size yX1_size : Cond) ∈ lw_gt := List.mem_filter.mpr ⟨List.mem_of_getElem? (i := 500) (by decide +kernel), by decide +kernel⟩
theorem mw_109 : (.code yX1_size cX1_size 1 (some .int) : Cond) ∈ lw_gt := List.mem_filter.mpr ⟨List.mem_of_getElem? (i := 501) (by decide +kernel), by decide +kernel⟩
theorem mw_110 : (.methodLink RX3 95 yX9_numberValue : Cond) ∈ lw_gt := List.mem_filter.mpr ⟨List.mem_of_getElem? (i := 494) (by decide +kernel), by decide +kernel⟩
theorem mw_111 : (.instanceMethod yX9_numberValue : Cond) ∈ lw_gt := List.mem_filter.mpr ⟨List.mem_of_getElem? (i := 495) (by decide +kernel), by decide +kernel⟩
theorem mw_112 : (.selects RX9 yX9_numberValue yX9_numberValue : Cond) ∈ lw_gt := List.mem_filter.mpr ⟨List.mem_of_getElem? (i := 496) (by decide +kernel), by decide +kernel⟩
theorem mw_113 : (.code yX9_numberValue cX9_numberValue 4 (some .int) : Cond) ∈ lw_gt := List.mem_filter.mpr ⟨List.mem_of_getElem? (i := 497) (by decide +kernel), by decide +kernel⟩
theorem mw_114 : (.methodLink RX3 44 yX9_advance : Cond) ∈ lw_gt := List.mem_filter.mpr ⟨List.mem_of_getElem? (i := 396) (by decide +kernel), by decide +kernel⟩
theorem mw_115 : (.instanceMethod yX9_advance : Cond) ∈ lw_gt := List.mem_filter.mpr ⟨List.mem_of_getElem? (i := 397) (by decide +kernel), by decide +kernel⟩
theorem mw_116 : (.selects RX9 yX9_advance yX9_advance : Cond) ∈ lw_gt := List.mem_filter.mpr ⟨List.mem_of_getElem? (i := 398) (by decide +kernel), by decide +kernel⟩
theorem mw_117 : (.code yX9_advance cX9_advance 1 (some .boolean) : Cond) ∈ lw_gt := List.mem_filter.mpr ⟨List.mem_of_getElem? (i := 399) (by decide +kernel), by decide +kernel⟩
theorem mw_118 : (.methodLink RX3 58 yX3_opOfWord : Cond) ∈ lw_gt := List.mem_filter.mpr ⟨List.mem_of_getElem? (i := 408) (by decide +kernel), by decide +kernel⟩
theorem mw_119 : (.instanceMethod yX3_opOfWord : Cond) ∈ lw_gt := List.mem_filter.mpr ⟨List.mem_of_getElem? (i := 410) (by decide +kernel), by decide +kernel⟩
theorem mw_120 : (.selects RX3 yX3_opOfWord yX3_opOfWord : Cond) ∈ lw_gt := List.mem_filter.mpr ⟨List.mem_of_getElem? (i := 3) (by decide +kernel), by decide +kernel⟩
theorem mw_121 : (.initialized RX3 : Cond) ∈ lw_gt := List.mem_filter.mpr ⟨List.mem_of_getElem? (i := 58) (by decide +kernel), by decide +kernel⟩
theorem mw_122 : (.code yX3_opOfWord cX3_opOfWord 4 (some .int) : Cond) ∈ lw_gt := List.mem_filter.mpr ⟨List.mem_of_getElem? (i := 411) (by decide +kernel), by decide +kernel⟩
theorem mw_123 : (.methodLink RX3 73 yX3_argOfWord : Cond) ∈ lw_gt := List.mem_filter.mpr ⟨List.mem_of_getElem? (i := 490) (by decide +kernel), by decide +kernel⟩
theorem mw_124 : (.instanceMethod yX3_argOfWord : Cond) ∈ lw_gt := List.mem_filter.mpr ⟨List.mem_of_getElem? (i := 492) (by decide +kernel), by decide +kernel⟩
theorem mw_125 : (.selects RX3 yX3_argOfWord yX3_argOfWord : Cond) ∈ lw_gt := List.mem_filter.mpr ⟨List.mem_of_getElem? (i := 10) (by decide +kernel), by decide +kernel⟩
theorem mw_126 : (.code yX3_argOfWord cX3_argOfWord 2 (some .int) : Cond) ∈ lw_gt := List.mem_filter.mpr ⟨List.mem_of_getElem? (i := 493) (by decide +kernel), by decide +kernel⟩
theorem mw_127 : (.methodLink RX3 110 yX1_addWord : Cond) ∈ lw_gt := List.mem_filter.mpr ⟨List.mem_of_getElem? (i := 502) (by decide +kernel), by decide +kernel⟩
theorem mw_128 : (.instanceMethod yX1_addWord : Cond) ∈ lw_gt := List.mem_filter.mpr ⟨List.mem_of_getElem? (i := 503) (by decide +kernel), by decide +kernel⟩
theorem mw_129 : (.selects RX1 yX1_addWord yX1_addWord : Cond) ∈ lw_gt := List.mem_filter.mpr ⟨List.mem_of_getElem? (i := 504) (by decide +kernel), by decide +kernel⟩
theorem mw_130 : (.code yX1_addWord cX1_addWord 3 none : Cond) ∈ lw_gt := List.mem_filter.mpr ⟨List.mem_of_getElem? (i := 505) (by decide +kernel), by decide +kernel⟩
theorem mw_131 : (.methodLink RX3 107 yX1_closeBody : Cond) ∈ lw_gt := List.mem_filter.mpr ⟨List.mem_of_getElem? (i := 454) (by decide +kernel), by decide +kernel⟩
theorem mw_132 : (.instanceMethod yX1_closeBody : Cond) ∈ lw_gt := List.mem_filter.mpr ⟨List.mem_of_getElem? (i := 455) (by decide +kernel), by decide +kernel⟩
theorem mw_133 : (.selects RX1 yX1_closeBody yX1_closeBody : Cond) ∈ lw_gt := List.mem_filter.mpr ⟨List.mem_of_getElem? (i := 456) (by decide +kernel), by decide +kernel⟩
theorem mw_134 : (.code yX1_closeBody cX1_closeBody 5 (some .int) : Cond) ∈ lw_gt := List.mem_filter.mpr ⟨List.mem_of_getElem? (i := 457) (by decide +kernel), by decide +kernel⟩
theorem mw_135 : (.methodLink RX3 101 yX3_canBeName : Cond) ∈ lw_gt := List.mem_filter.mpr ⟨List.mem_of_getElem? (i := 442) (by decide +kernel), by decide +kernel⟩
theorem mw_136 : (.instanceMethod yX3_canBeName : Cond) ∈ lw_gt := List.mem_filter.mpr ⟨List.mem_of_getElem? (i := 444) (by decide +kernel), by decide +kernel⟩
theorem mw_137 : (.selects RX3 yX3_canBeName yX3_canBeName : Cond) ∈ lw_gt := List.mem_filter.mpr ⟨List.mem_of_getElem? (i := 6) (by decide +kernel), by decide +kernel⟩
theorem mw_138 : (.code yX3_canBeName cX3_canBeName 2 (some .boolean) : Cond) ∈ lw_gt := List.mem_filter.mpr ⟨List.mem_of_getElem? (i := 445) (by decide +kernel), by decide +kernel⟩
theorem mw_139 : (.methodLink RX3 104 yX1_openBody : Cond) ∈ lw_gt := List.mem_filter.mpr ⟨List.mem_of_getElem? (i := 450) (by decide +kernel), by decide +kernel⟩
theorem mw_140 : (.instanceMethod yX1_openBody : Cond) ∈ lw_gt := List.mem_filter.mpr ⟨List.mem_of_getElem? (i := 451) (by decide +kernel), by decide +kernel⟩
theorem mw_141 : (.selects RX1 yX1_openBody yX1_openBody : Cond) ∈ lw_gt := List.mem_filter.mpr ⟨List.mem_of_getElem? (i := 452) (by decide +kernel), by decide +kernel⟩
theorem mw_142 : (.code yX1_openBody cX1_openBody 1 none : Cond) ∈ lw_gt := List.mem_filter.mpr ⟨List.mem_of_getElem? (i := 453) (by decide +kernel), by decide +kernel⟩
theorem mw_143 : (.methodLink RX3 117 yX1_forgetFrom : Cond) ∈ lw_gt := List.mem_filter.mpr ⟨List.mem_of_getElem? (i := 514) (by decide +kernel), by decide +kernel⟩
theorem mw_144 : (.instanceMethod yX1_forgetFrom : Cond) ∈ lw_gt := List.mem_filter.mpr ⟨List.mem_of_getElem? (i := 515) (by decide +kernel), by decide +kernel⟩
theorem mw_145 : (.selects RX1 yX1_forgetFrom yX1_forgetFrom : Cond) ∈ lw_gt := List.mem_filter.mpr ⟨List.mem_of_getElem? (i := 516) (by decide +kernel), by decide +kernel⟩
theorem mw_146 : (.code yX1_forgetFrom cX1_forgetFrom 2 none : Cond) ∈ lw_gt := List.mem_filter.mpr ⟨List.mem_of_getElem? (i := 517) (by decide +kernel), by decide +kernel⟩
theorem mw_147 : (.fieldLink RX7 13 "WordForge$Stack" "size" "I" : Cond) ∈ lw_gt := List.mem_filter.mpr ⟨List.mem_of_getElem? (i := 105) (by decide +kernel), by decide +kernel⟩
theorem mw_148 : (.fieldLink RX7 9 "WordForge$Stack" "values" "[I" : Cond) ∈ lw_gt := List.mem_filter.mpr ⟨List.mem_of_getElem? (i := 104) (by decide +kernel), by decide +kernel⟩
theorem mw_149 : (.fieldLink RX6 7 "WordForge$Op" "TAKES" "[I" : Cond) ∈ lw_gt := List.mem_filter.mpr ⟨List.mem_of_getElem? (i := 547) (by decide +kernel), by decide +kernel⟩
theorem mw_150 : (.fieldLink RX6 13 "WordForge$Op" "GIVES" "[I" : Cond) ∈ lw_gt := List.mem_filter.mpr ⟨List.mem_of_getElem? (i := 559) (by decide +kernel), by decide +kernel⟩
theorem mw_151 : (.fieldLink RX5 13 "WordForge$Machine" "stack" "LWordForge$Stack;" : Cond) ∈ lw_gt := List.mem_filter.mpr ⟨List.mem_of_getElem? (i := 209) (by decide +kernel), by decide +kernel⟩
theorem mw_152 : (.methodLink RX5 136 yX7_size : Cond) ∈ lw_gt := List.mem_filter.mpr ⟨List.mem_of_getElem? (i := 540) (by decide +kernel), by decide +kernel⟩
theorem mw_153 : (.instanceMethod yX7_size : Cond) ∈ lw_gt := List.mem_filter.mpr ⟨List.mem_of_getElem? (i := 541) (by decide +kernel), by decide +kernel⟩
theorem mw_154 : (.selects RX7 yX7_size yX7_size : Cond) ∈ lw_gt := List.mem_filter.mpr ⟨List.mem_of_getElem? (i := 542) (by decide +kernel), by decide +kernel⟩
theorem mw_155 : (.initialized RX7 : Cond) ∈ lw_gt := List.mem_filter.mpr ⟨List.mem_of_getElem? (i := 51) (by decide +kernel), by decide +kernel⟩
theorem mw_156 : (.code yX7_size cX7_size 1 (some .int) : Cond) ∈ lw_gt := List.mem_filter.mpr ⟨List.mem_of_getElem? (i := 543) (by decide +kernel), by decide +kernel⟩
theorem mw_157 : (.methodLink RX5 139 yX6_takes : Cond) ∈ lw_gt := List.mem_filter.mpr ⟨List.mem_of_getElem? (i := 544) (by decide +kernel), by decide +kernel⟩
theorem mw_158 : (.static yX6_takes : Cond) ∈ lw_gt := List.mem_filter.mpr ⟨List.mem_of_getElem? (i := 545) (by decide +kernel), by decide +kernel⟩
theorem mw_159 : (.initialized RX6 : Cond) ∈ lw_gt := List.mem_filter.mpr ⟨List.mem_of_getElem? (i := 65) (by decide +kernel), by decide +kernel⟩
theorem mw_160 : (.code yX6_takes cX6_takes 1 (some .int) : Cond) ∈ lw_gt := List.mem_filter.mpr ⟨List.mem_of_getElem? (i := 546) (by decide +kernel), by decide +kernel⟩
theorem mw_161 : (.methodLink RX5 148 yX6_gives : Cond) ∈ lw_gt := List.mem_filter.mpr ⟨List.mem_of_getElem? (i := 556) (by decide +kernel), by decide +kernel⟩
theorem mw_162 : (.static yX6_gives : Cond) ∈ lw_gt := List.mem_filter.mpr ⟨List.mem_of_getElem? (i := 557) (by decide +kernel), by decide +kernel⟩
theorem mw_163 : (.code yX6_gives cX6_gives 1 (some .int) : Cond) ∈ lw_gt := List.mem_filter.mpr ⟨List.mem_of_getElem? (i := 558) (by decide +kernel), by decide +kernel⟩
theorem mw_164 : (.methodLink RX5 145 yX4_openCount : Cond) ∈ lw_gt := List.mem_filter.mpr ⟨List.mem_of_getElem? (i := 552) (by decide +kernel), by decide +kernel⟩
theorem mw_165 : (.instanceMethod yX4_openCount : Cond) ∈ lw_gt := List.mem_filter.mpr ⟨List.mem_of_getElem? (i := 553) (by decide +kernel), by decide +kernel⟩
theorem mw_166 : (.selects RX4 yX4_openCount yX4_openCount : Cond) ∈ lw_gt := List.mem_filter.mpr ⟨List.mem_of_getElem? (i := 554) (by decide +kernel), by decide +kernel⟩
theorem mw_167 : (.code yX4_openCount cX4_openCount 1 (some .int) : Cond) ∈ lw_gt := List.mem_filter.mpr ⟨List.mem_of_getElem? (i := 555) (by decide +kernel), by decide +kernel⟩
theorem mw_168 : (.methodLink RX5 142 yX5_hasCell : Cond) ∈ lw_gt := List.mem_filter.mpr ⟨List.mem_of_getElem? (i := 549) (by decide +kernel), by decide +kernel⟩
theorem mw_169 : (.static yX5_hasCell : Cond) ∈ lw_gt := List.mem_filter.mpr ⟨List.mem_of_getElem? (i := 550) (by decide +kernel), by decide +kernel⟩
theorem mw_170 : (.initialized RX5 : Cond) ∈ lw_gt := List.mem_filter.mpr ⟨List.mem_of_getElem? (i := 56) (by decide +kernel), by decide +kernel⟩
theorem mw_171 : (.code yX5_hasCell cX5_hasCell 1 (some .boolean) : Cond) ∈ lw_gt := List.mem_filter.mpr ⟨List.mem_of_getElem? (i := 551) (by decide +kernel), by decide +kernel⟩
theorem mw_172 : (.methodLink RX5 133 yX7_fromTop : Cond) ∈ lw_gt := List.mem_filter.mpr ⟨List.mem_of_getElem? (i := 536) (by decide +kernel), by decide +kernel⟩
theorem mw_173 : (.instanceMethod yX7_fromTop : Cond) ∈ lw_gt := List.mem_filter.mpr ⟨List.mem_of_getElem? (i := 537) (by decide +kernel), by decide +kernel⟩
theorem mw_174 : (.selects RX7 yX7_fromTop yX7_fromTop : Cond) ∈ lw_gt := List.mem_filter.mpr ⟨List.mem_of_getElem? (i := 538) (by decide +kernel), by decide +kernel⟩
theorem mw_175 : (.code yX7_fromTop cX7_fromTop 2 (some .int) : Cond) ∈ lw_gt := List.mem_filter.mpr ⟨List.mem_of_getElem? (i := 539) (by decide +kernel), by decide +kernel⟩
theorem mw_176 : (.methodLink RX5 114 yX7_put : Cond) ∈ lw_gt := List.mem_filter.mpr ⟨List.mem_of_getElem? (i := 568) (by decide +kernel), by decide +kernel⟩
theorem mw_177 : (.instanceMethod yX7_put : Cond) ∈ lw_gt := List.mem_filter.mpr ⟨List.mem_of_getElem? (i := 569) (by decide +kernel), by decide +kernel⟩
theorem mw_178 : (.selects RX7 yX7_put yX7_put : Cond) ∈ lw_gt := List.mem_filter.mpr ⟨List.mem_of_getElem? (i := 570) (by decide +kernel), by decide +kernel⟩
theorem mw_179 : (.code yX7_put cX7_put 2 (some .boolean) : Cond) ∈ lw_gt := List.mem_filter.mpr ⟨List.mem_of_getElem? (i := 571) (by decide +kernel), by decide +kernel⟩
theorem mw_180 : (.methodLink RX5 151 yX7_drop : Cond) ∈ lw_gt := List.mem_filter.mpr ⟨List.mem_of_getElem? (i := 572) (by decide +kernel), by decide +kernel⟩
theorem mw_181 : (.instanceMethod yX7_drop : Cond) ∈ lw_gt := List.mem_filter.mpr ⟨List.mem_of_getElem? (i := 573) (by decide +kernel), by decide +kernel⟩
theorem mw_182 : (.selects RX7 yX7_drop yX7_drop : Cond) ∈ lw_gt := List.mem_filter.mpr ⟨List.mem_of_getElem? (i := 574) (by decide +kernel), by decide +kernel⟩
theorem mw_183 : (.code yX7_drop cX7_drop 2 none : Cond) ∈ lw_gt := List.mem_filter.mpr ⟨List.mem_of_getElem? (i := 575) (by decide +kernel), by decide +kernel⟩
theorem mw_184 : (.methodLink RX5 165 yX5_flag : Cond) ∈ lw_gt := List.mem_filter.mpr ⟨List.mem_of_getElem? (i := 595) (by decide +kernel), by decide +kernel⟩
theorem mw_185 : (.static yX5_flag : Cond) ∈ lw_gt := List.mem_filter.mpr ⟨List.mem_of_getElem? (i := 596) (by decide +kernel), by decide +kernel⟩
theorem mw_186 : (.code yX5_flag cX5_flag 1 (some .int) : Cond) ∈ lw_gt := List.mem_filter.mpr ⟨List.mem_of_getElem? (i := 597) (by decide +kernel), by decide +kernel⟩
theorem mw_187 : (.methodLink RX5 154 yJ9_floorDiv_7cf53 : Cond) ∈ lw_gt := List.mem_filter.mpr ⟨List.mem_of_getElem? (i := 586) (by decide +kernel), by decide +kernel⟩
theorem mw_188 : (.static yJ9_floorDiv_7cf53 : Cond) ∈ lw_gt := List.mem_filter.mpr ⟨List.mem_of_getElem? (i := 587) (by decide +kernel), by decide +kernel⟩
theorem mw_189 : (.initialized RJ9 : Cond) ∈ lw_gt := List.mem_filter.mpr ⟨List.mem_of_getElem? (i := 66) (by decide +kernel), by decide +kernel⟩
theorem mw_190 : (.code yJ9_floorDiv_7cf53 cJ9_floorDiv_7cf53 3 (some .int) : Cond) ∈ lw_gt := List.mem_filter.mpr ⟨List.mem_of_getElem? (i := 588) (by decide +kernel), by decide +kernel⟩
theorem mw_191 : (.methodLink RX5 159 Lib.Math.min.name : Cond) ∈ lw_gt := List.mem_filter.mpr ⟨List.mem_of_getElem? (i := 589) (by decide +kernel), by decide +kernel⟩
theorem mw_192 : (.static Lib.Math.min.name : Cond) ∈ lw_gt := List.mem_filter.mpr ⟨List.mem_of_getElem? (i := 590) (by decide +kernel), by decide +kernel⟩
theorem mw_193 : (.initialized "java/lang/Math" : Cond) ∈ lw_gt := List.mem_filter.mpr ⟨List.mem_of_getElem? (i := 66) (by decide +kernel), by decide +kernel⟩
theorem mw_194 : (.code Lib.Math.min.name Lib.Math.min.code 2 (some .int) : Cond) ∈ lw_gt := List.mem_filter.mpr ⟨List.mem_of_getElem? (i := 591) (by decide +kernel), by decide +kernel⟩
theorem mw_195 : (.methodLink RX5 162 Lib.Math.max.name : Cond) ∈ lw_gt := List.mem_filter.mpr ⟨List.mem_of_getElem? (i := 592) (by decide +kernel), by decide +kernel⟩
theorem mw_196 : (.static Lib.Math.max.name : Cond) ∈ lw_gt := List.mem_filter.mpr ⟨List.mem_of_getElem? (i := 593) (by decide +kernel), by decide +kernel⟩
theorem mw_197 : (.code Lib.Math.max.name Lib.Math.max.code 2 (some .int) : Cond) ∈ lw_gt := List.mem_filter.mpr ⟨List.mem_of_getElem? (i := 594) (by decide +kernel), by decide +kernel⟩
theorem mw_198 : (.fieldLink RX5 34 "WordForge$Machine" "cells" "[I" : Cond) ∈ lw_gt := List.mem_filter.mpr ⟨List.mem_of_getElem? (i := 213) (by decide +kernel), by decide +kernel⟩
theorem mw_199 : (.fieldLink RX8 9 "WordForge$Tape" "latest" "[I" : Cond) ∈ lw_gt := List.mem_filter.mpr ⟨List.mem_of_getElem? (i := 118) (by decide +kernel), by decide +kernel⟩
theorem mw_200 : (.fieldLink RX8 13 "WordForge$Tape" "count" "I" : Cond) ∈ lw_gt := List.mem_filter.mpr ⟨List.mem_of_getElem? (i := 119) (by decide +kernel), by decide +kernel⟩
theorem mw_201 : (.methodLink RX5 106 yX7_take : Cond) ∈ lw_gt := List.mem_filter.mpr ⟨List.mem_of_getElem? (i := 579) (by decide +kernel), by decide +kernel⟩
theorem mw_202 : (.instanceMethod yX7_take : Cond) ∈ lw_gt := List.mem_filter.mpr ⟨List.mem_of_getElem? (i := 580) (by decide +kernel), by decide +kernel⟩
theorem mw_203 : (.selects RX7 yX7_take yX7_take : Cond) ∈ lw_gt := List.mem_filter.mpr ⟨List.mem_of_getElem? (i := 581) (by decide +kernel), by decide +kernel⟩
theorem mw_204 : (.code yX7_take cX7_take 1 (some .int) : Cond) ∈ lw_gt := List.mem_filter.mpr ⟨List.mem_of_getElem? (i := 582) (by decide +kernel), by decide +kernel⟩
theorem mw_205 : (.methodLink RX5 169 yX5_readCell : Cond) ∈ lw_gt := List.mem_filter.mpr ⟨List.mem_of_getElem? (i := 611) (by decide +kernel), by decide +kernel⟩
theorem mw_206 : (.instanceMethod yX5_readCell : Cond) ∈ lw_gt := List.mem_filter.mpr ⟨List.mem_of_getElem? (i := 612) (by decide +kernel), by decide +kernel⟩
theorem mw_207 : (.selects RX5 yX5_readCell yX5_readCell : Cond) ∈ lw_gt := List.mem_filter.mpr ⟨List.mem_of_getElem? (i := 613) (by decide +kernel), by decide +kernel⟩
theorem mw_208 : (.code yX5_readCell cX5_readCell 2 (some .int) : Cond) ∈ lw_gt := List.mem_filter.mpr ⟨List.mem_of_getElem? (i := 614) (by decide +kernel), by decide +kernel⟩
theorem mw_209 : (.methodLink RX5 172 yX5_writeCell : Cond) ∈ lw_gt := List.mem_filter.mpr ⟨List.mem_of_getElem? (i := 615) (by decide +kernel), by decide +kernel⟩
theorem mw_210 : (.instanceMethod yX5_writeCell : Cond) ∈ lw_gt := List.mem_filter.mpr ⟨List.mem_of_getElem? (i := 617) (by decide +kernel), by decide +kernel⟩
theorem mw_211 : (.selects RX5 yX5_writeCell yX5_writeCell : Cond) ∈ lw_gt := List.mem_filter.mpr ⟨List.mem_of_getElem? (i := 16) (by decide +kernel), by decide +kernel⟩
theorem mw_212 : (.code yX5_writeCell cX5_writeCell 3 none : Cond) ∈ lw_gt := List.mem_filter.mpr ⟨List.mem_of_getElem? (i := 618) (by decide +kernel), by decide +kernel⟩
theorem mw_213 : (.fieldLink RX5 17 "WordForge$Machine" "tape" "LWordForge$Tape;" : Cond) ∈ lw_gt := List.mem_filter.mpr ⟨List.mem_of_getElem? (i := 210) (by decide +kernel), by decide +kernel⟩
theorem mw_214 : (.methodLink RX5 175 yX8_add : Cond) ∈ lw_gt := List.mem_filter.mpr ⟨List.mem_of_getElem? (i := 619) (by decide +kernel), by decide +kernel⟩
theorem mw_215 : (.instanceMethod yX8_add : Cond) ∈ lw_gt := List.mem_filter.mpr ⟨List.mem_of_getElem? (i := 620) (by decide +kernel), by decide +kernel⟩
theorem mw_216 : (.selects RX8 yX8_add yX8_add : Cond) ∈ lw_gt := List.mem_filter.mpr ⟨List.mem_of_getElem? (i := 621) (by decide +kernel), by decide +kernel⟩
theorem mw_217 : (.initialized RX8 : Cond) ∈ lw_gt := List.mem_filter.mpr ⟨List.mem_of_getElem? (i := 52) (by decide +kernel), by decide +kernel⟩
theorem mw_218 : (.code yX8_add cX8_add 2 none : Cond) ∈ lw_gt := List.mem_filter.mpr ⟨List.mem_of_getElem? (i := 622) (by decide +kernel), by decide +kernel⟩
theorem mw_219 : (.fieldLink RX5 45 "WordForge$Machine" "ends" "[I" : Cond) ∈ lw_gt := List.mem_filter.mpr ⟨List.mem_of_getElem? (i := 215) (by decide +kernel), by decide +kernel⟩
theorem mw_220 : (.fieldLink RX5 21 "WordForge$Machine" "dictionary" "LWordForge$Dictionary;" : Cond) ∈ lw_gt := List.mem_filter.mpr ⟨List.mem_of_getElem? (i := 211) (by decide +kernel), by decide +kernel⟩
theorem mw_221 : (.methodLink RX5 199 yX1_endOf : Cond) ∈ lw_gt := List.mem_filter.mpr ⟨List.mem_of_getElem? (i := 631) (by decide +kernel), by decide +kernel⟩
theorem mw_222 : (.instanceMethod yX1_endOf : Cond) ∈ lw_gt := List.mem_filter.mpr ⟨List.mem_of_getElem? (i := 632) (by decide +kernel), by decide +kernel⟩
theorem mw_223 : (.selects RX1 yX1_endOf yX1_endOf : Cond) ∈ lw_gt := List.mem_filter.mpr ⟨List.mem_of_getElem? (i := 633) (by decide +kernel), by decide +kernel⟩
theorem mw_224 : (.code yX1_endOf cX1_endOf 2 (some .int) : Cond) ∈ lw_gt := List.mem_filter.mpr ⟨List.mem_of_getElem? (i := 634) (by decide +kernel), by decide +kernel⟩
theorem mw_225 : (.fieldLink RX5 48 "WordForge$Machine" "returns" "[I" : Cond) ∈ lw_gt := List.mem_filter.mpr ⟨List.mem_of_getElem? (i := 216) (by decide +kernel), by decide +kernel⟩
theorem mw_226 : (.fieldLink RX5 75 "WordForge$Machine" "place" "I" : Cond) ∈ lw_gt := List.mem_filter.mpr ⟨List.mem_of_getElem? (i := 219) (by decide +kernel), by decide +kernel⟩
theorem mw_227 : (.fieldLink RX5 51 "WordForge$Machine" "loopsBefore" "[I" : Cond) ∈ lw_gt := List.mem_filter.mpr ⟨List.mem_of_getElem? (i := 217) (by decide +kernel), by decide +kernel⟩
theorem mw_228 : (.methodLink RX5 202 yX1_startOf : Cond) ∈ lw_gt := List.mem_filter.mpr ⟨List.mem_of_getElem? (i := 635) (by decide +kernel), by decide +kernel⟩
theorem mw_229 : (.fieldLink RX4 9 "WordForge$Loops" "counts" "[I" : Cond) ∈ lw_gt := List.mem_filter.mpr ⟨List.mem_of_getElem? (i := 199) (by decide +kernel), by decide +kernel⟩
theorem mw_230 : (.fieldLink RX4 13 "WordForge$Loops" "limits" "[I" : Cond) ∈ lw_gt := List.mem_filter.mpr ⟨List.mem_of_getElem? (i := 200) (by decide +kernel), by decide +kernel⟩
theorem mw_231 : (.methodLink RX5 195 yX4_goesRound : Cond) ∈ lw_gt := List.mem_filter.mpr ⟨List.mem_of_getElem? (i := 652) (by decide +kernel), by decide +kernel⟩
theorem mw_232 : (.instanceMethod yX4_goesRound : Cond) ∈ lw_gt := List.mem_filter.mpr ⟨List.mem_of_getElem? (i := 653) (by decide +kernel), by decide +kernel⟩
theorem mw_233 : (.selects RX4 yX4_goesRound yX4_goesRound : Cond) ∈ lw_gt := List.mem_filter.mpr ⟨List.mem_of_getElem? (i := 654) (by decide +kernel), by decide +kernel⟩
theorem mw_234 : (.code yX4_goesRound cX4_goesRound 2 (some .boolean) : Cond) ∈ lw_gt := List.mem_filter.mpr ⟨List.mem_of_getElem? (i := 655) (by decide +kernel), by decide +kernel⟩
theorem mw_235 : (.methodLink RX5 180 yX5_enter : Cond) ∈ lw_gt := List.mem_filter.mpr ⟨List.mem_of_getElem? (i := 627) (by decide +kernel), by decide +kernel⟩
theorem mw_236 : (.instanceMethod yX5_enter : Cond) ∈ lw_gt := List.mem_filter.mpr ⟨List.mem_of_getElem? (i := 629) (by decide +kernel), by decide +kernel⟩
theorem mw_237 : (.selects RX5 yX5_enter yX5_enter : Cond) ∈ lw_gt := List.mem_filter.mpr ⟨List.mem_of_getElem? (i := 18) (by decide +kernel), by decide +kernel⟩
theorem mw_238 : (.code yX5_enter cX5_enter 2 none : Cond) ∈ lw_gt := List.mem_filter.mpr ⟨List.mem_of_getElem? (i := 630) (by decide +kernel), by decide +kernel⟩
theorem mw_239 : (.methodLink RX5 183 yX5_leave : Cond) ∈ lw_gt := List.mem_filter.mpr ⟨List.mem_of_getElem? (i := 636) (by decide +kernel), by decide +kernel⟩
theorem mw_240 : (.instanceMethod yX5_leave : Cond) ∈ lw_gt := List.mem_filter.mpr ⟨List.mem_of_getElem? (i := 638) (by decide +kernel), by decide +kernel⟩
theorem mw_241 : (.selects RX5 yX5_leave yX5_leave : Cond) ∈ lw_gt := List.mem_filter.mpr ⟨List.mem_of_getElem? (i := 19) (by decide +kernel), by decide +kernel⟩
theorem mw_242 : (.code yX5_leave cX5_leave 1 none : Cond) ∈ lw_gt := List.mem_filter.mpr ⟨List.mem_of_getElem? (i := 639) (by decide +kernel), by decide +kernel⟩
theorem mw_243 : (.methodLink RX5 192 yX5_leads : Cond) ∈ lw_gt := List.mem_filter.mpr ⟨List.mem_of_getElem? (i := 648) (by decide +kernel), by decide +kernel⟩
theorem mw_244 : (.instanceMethod yX5_leads : Cond) ∈ lw_gt := List.mem_filter.mpr ⟨List.mem_of_getElem? (i := 650) (by decide +kernel), by decide +kernel⟩
theorem mw_245 : (.selects RX5 yX5_leads yX5_leads : Cond) ∈ lw_gt := List.mem_filter.mpr ⟨List.mem_of_getElem? (i := 20) (by decide +kernel), by decide +kernel⟩
theorem mw_246 : (.code yX5_leads cX5_leads 2 (some .boolean) : Cond) ∈ lw_gt := List.mem_filter.mpr ⟨List.mem_of_getElem? (i := 651) (by decide +kernel), by decide +kernel⟩
theorem mw_247 : (.methodLink RX5 189 yX4_begin : Cond) ∈ lw_gt := List.mem_filter.mpr ⟨List.mem_of_getElem? (i := 644) (by decide +kernel), by decide +kernel⟩
theorem mw_248 : (.instanceMethod yX4_begin : Cond) ∈ lw_gt := List.mem_filter.mpr ⟨List.mem_of_getElem? (i := 645) (by decide +kernel), by decide +kernel⟩
theorem mw_249 : (.selects RX4 yX4_begin yX4_begin : Cond) ∈ lw_gt := List.mem_filter.mpr ⟨List.mem_of_getElem? (i := 646) (by decide +kernel), by decide +kernel⟩
theorem mw_250 : (.code yX4_begin cX4_begin 3 none : Cond) ∈ lw_gt := List.mem_filter.mpr ⟨List.mem_of_getElem? (i := 647) (by decide +kernel), by decide +kernel⟩
theorem mw_251 : (.methodLink RX5 186 yX4_innermostCount : Cond) ∈ lw_gt := List.mem_filter.mpr ⟨List.mem_of_getElem? (i := 640) (by decide +kernel), by decide +kernel⟩
theorem mw_252 : (.instanceMethod yX4_innermostCount : Cond) ∈ lw_gt := List.mem_filter.mpr ⟨List.mem_of_getElem? (i := 641) (by decide +kernel), by decide +kernel⟩
theorem mw_253 : (.selects RX4 yX4_innermostCount yX4_innermostCount : Cond) ∈ lw_gt := List.mem_filter.mpr ⟨List.mem_of_getElem? (i := 642) (by decide +kernel), by decide +kernel⟩
theorem mw_254 : (.code yX4_innermostCount cX4_innermostCount 1 (some .int) : Cond) ∈ lw_gt := List.mem_filter.mpr ⟨List.mem_of_getElem? (i := 643) (by decide +kernel), by decide +kernel⟩
theorem mw_255 : (.methodLink RX5 97 yX6_isStackWord : Cond) ∈ lw_gt := List.mem_filter.mpr ⟨List.mem_of_getElem? (i := 561) (by decide +kernel), by decide +kernel⟩
theorem mw_256 : (.static yX6_isStackWord : Cond) ∈ lw_gt := List.mem_filter.mpr ⟨List.mem_of_getElem? (i := 562) (by decide +kernel), by decide +kernel⟩
theorem mw_257 : (.code yX6_isStackWord cX6_isStackWord 1 (some .boolean) : Cond) ∈ lw_gt := List.mem_filter.mpr ⟨List.mem_of_getElem? (i := 563) (by decide +kernel), by decide +kernel⟩
theorem mw_258 : (.methodLink RX5 103 yX6_isPairWord : Cond) ∈ lw_gt := List.mem_filter.mpr ⟨List.mem_of_getElem? (i := 576) (by decide +kernel), by decide +kernel⟩
theorem mw_259 : (.static yX6_isPairWord : Cond) ∈ lw_gt := List.mem_filter.mpr ⟨List.mem_of_getElem? (i := 577) (by decide +kernel), by decide +kernel⟩
theorem mw_260 : (.code yX6_isPairWord cX6_isPairWord 1 (some .boolean) : Cond) ∈ lw_gt := List.mem_filter.mpr ⟨List.mem_of_getElem? (i := 578) (by decide +kernel), by decide +kernel⟩
theorem mw_261 : (.methodLink RX5 117 yX6_isLoneWord : Cond) ∈ lw_gt := List.mem_filter.mpr ⟨List.mem_of_getElem? (i := 598) (by decide +kernel), by decide +kernel⟩
theorem mw_262 : (.static yX6_isLoneWord : Cond) ∈ lw_gt := List.mem_filter.mpr ⟨List.mem_of_getElem? (i := 599) (by decide +kernel), by decide +kernel⟩
theorem mw_263 : (.code yX6_isLoneWord cX6_isLoneWord 1 (some .boolean) : Cond) ∈ lw_gt := List.mem_filter.mpr ⟨List.mem_of_getElem? (i := 600) (by decide +kernel), by decide +kernel⟩
theorem mw_264 : (.methodLink RX5 123 yX6_isStoreWord : Cond) ∈ lw_gt := List.mem_filter.mpr ⟨List.mem_of_getElem? (i := 604) (by decide +kernel), by decide +kernel⟩
theorem mw_265 : (.static yX6_isStoreWord : Cond) ∈ lw_gt := List.mem_filter.mpr ⟨List.mem_of_getElem? (i := 605) (by decide +kernel), by decide +kernel⟩
theorem mw_266 : (.code yX6_isStoreWord cX6_isStoreWord 1 (some .boolean) : Cond) ∈ lw_gt := List.mem_filter.mpr ⟨List.mem_of_getElem? (i := 606) (by decide +kernel), by decide +kernel⟩
theorem mw_267 : (.methodLink RX5 129 yX5_control : Cond) ∈ lw_gt := List.mem_filter.mpr ⟨List.mem_of_getElem? (i := 623) (by decide +kernel), by decide +kernel⟩
theorem mw_268 : (.instanceMethod yX5_control : Cond) ∈ lw_gt := List.mem_filter.mpr ⟨List.mem_of_getElem? (i := 625) (by decide +kernel), by decide +kernel⟩
theorem mw_269 : (.selects RX5 yX5_control yX5_control : Cond) ∈ lw_gt := List.mem_filter.mpr ⟨List.mem_of_getElem? (i := 17) (by decide +kernel), by decide +kernel⟩
theorem mw_270 : (.code yX5_control cX5_control 4 none : Cond) ∈ lw_gt := List.mem_filter.mpr ⟨List.mem_of_getElem? (i := 626) (by decide +kernel), by decide +kernel⟩
theorem mw_271 : (.methodLink RX5 126 yX5_store : Cond) ∈ lw_gt := List.mem_filter.mpr ⟨List.mem_of_getElem? (i := 607) (by decide +kernel), by decide +kernel⟩
theorem mw_272 : (.instanceMethod yX5_store : Cond) ∈ lw_gt := List.mem_filter.mpr ⟨List.mem_of_getElem? (i := 609) (by decide +kernel), by decide +kernel⟩
theorem mw_273 : (.selects RX5 yX5_store yX5_store : Cond) ∈ lw_gt := List.mem_filter.mpr ⟨List.mem_of_getElem? (i := 15) (by decide +kernel), by decide +kernel⟩
theorem mw_274 : (.code yX5_store cX5_store 3 none : Cond) ∈ lw_gt := List.mem_filter.mpr ⟨List.mem_of_getElem? (i := 610) (by decide +kernel), by decide +kernel⟩
theorem mw_275 : (.methodLink RX5 120 yX5_ofOne : Cond) ∈ lw_gt := List.mem_filter.mpr ⟨List.mem_of_getElem? (i := 601) (by decide +kernel), by decide +kernel⟩
theorem mw_276 : (.static yX5_ofOne : Cond) ∈ lw_gt := List.mem_filter.mpr ⟨List.mem_of_getElem? (i := 602) (by decide +kernel), by decide +kernel⟩
theorem mw_277 : (.code yX5_ofOne cX5_ofOne 2 (some .int) : Cond) ∈ lw_gt := List.mem_filter.mpr ⟨List.mem_of_getElem? (i := 603) (by decide +kernel), by decide +kernel⟩
theorem mw_278 : (.methodLink RX5 110 yX5_ofPair : Cond) ∈ lw_gt := List.mem_filter.mpr ⟨List.mem_of_getElem? (i := 583) (by decide +kernel), by decide +kernel⟩
theorem mw_279 : (.static yX5_ofPair : Cond) ∈ lw_gt := List.mem_filter.mpr ⟨List.mem_of_getElem? (i := 584) (by decide +kernel), by decide +kernel⟩
theorem mw_280 : (.code yX5_ofPair cX5_ofPair 3 (some .int) : Cond) ∈ lw_gt := List.mem_filter.mpr ⟨List.mem_of_getElem? (i := 585) (by decide +kernel), by decide +kernel⟩
theorem mw_281 : (.methodLink RX5 100 yX5_arrange : Cond) ∈ lw_gt := List.mem_filter.mpr ⟨List.mem_of_getElem? (i := 564) (by decide +kernel), by decide +kernel⟩
theorem mw_282 : (.instanceMethod yX5_arrange : Cond) ∈ lw_gt := List.mem_filter.mpr ⟨List.mem_of_getElem? (i := 566) (by decide +kernel), by decide +kernel⟩
theorem mw_283 : (.selects RX5 yX5_arrange yX5_arrange : Cond) ∈ lw_gt := List.mem_filter.mpr ⟨List.mem_of_getElem? (i := 14) (by decide +kernel), by decide +kernel⟩
theorem mw_284 : (.code yX5_arrange cX5_arrange 5 none : Cond) ∈ lw_gt := List.mem_filter.mpr ⟨List.mem_of_getElem? (i := 567) (by decide +kernel), by decide +kernel⟩
theorem mw_285 : (.methodLink RX5 91 yX6_isStep : Cond) ∈ lw_gt := List.mem_filter.mpr ⟨List.mem_of_getElem? (i := 529) (by decide +kernel), by decide +kernel⟩
theorem mw_286 : (.static yX6_isStep : Cond) ∈ lw_gt := List.mem_filter.mpr ⟨List.mem_of_getElem? (i := 530) (by decide +kernel), by decide +kernel⟩
theorem mw_287 : (.code yX6_isStep cX6_isStep 1 (some .boolean) : Cond) ∈ lw_gt := List.mem_filter.mpr ⟨List.mem_of_getElem? (i := 531) (by decide +kernel), by decide +kernel⟩
theorem mw_288 : (.methodLink RX5 94 yX5_faultOf : Cond) ∈ lw_gt := List.mem_filter.mpr ⟨List.mem_of_getElem? (i := 532) (by decide +kernel), by decide +kernel⟩
theorem mw_289 : (.instanceMethod yX5_faultOf : Cond) ∈ lw_gt := List.mem_filter.mpr ⟨List.mem_of_getElem? (i := 534) (by decide +kernel), by decide +kernel⟩
theorem mw_290 : (.selects RX5 yX5_faultOf yX5_faultOf : Cond) ∈ lw_gt := List.mem_filter.mpr ⟨List.mem_of_getElem? (i := 13) (by decide +kernel), by decide +kernel⟩
theorem mw_291 : (.code yX5_faultOf cX5_faultOf 5 (some .int) : Cond) ∈ lw_gt := List.mem_filter.mpr ⟨List.mem_of_getElem? (i := 535) (by decide +kernel), by decide +kernel⟩
theorem mw_292 : (.constant RX5 74 (201201) : Cond) ∈ lw_gt := List.mem_filter.mpr ⟨List.mem_of_getElem? (i := 656) (by decide +kernel), by decide +kernel⟩
theorem mw_293 : (.methodLink RX5 78 yX5_atBodyEnd : Cond) ∈ lw_gt := List.mem_filter.mpr ⟨List.mem_of_getElem? (i := 657) (by decide +kernel), by decide +kernel⟩
theorem mw_294 : (.instanceMethod yX5_atBodyEnd : Cond) ∈ lw_gt := List.mem_filter.mpr ⟨List.mem_of_getElem? (i := 659) (by decide +kernel), by decide +kernel⟩
theorem mw_295 : (.selects RX5 yX5_atBodyEnd yX5_atBodyEnd : Cond) ∈ lw_gt := List.mem_filter.mpr ⟨List.mem_of_getElem? (i := 21) (by decide +kernel), by decide +kernel⟩
theorem mw_296 : (.code yX5_atBodyEnd cX5_atBodyEnd 2 (some .boolean) : Cond) ∈ lw_gt := List.mem_filter.mpr ⟨List.mem_of_getElem? (i := 660) (by decide +kernel), by decide +kernel⟩
theorem mw_297 : (.fieldLink RX5 31 "WordForge$Machine" "code" "LWordForge$Code;" : Cond) ∈ lw_gt := List.mem_filter.mpr ⟨List.mem_of_getElem? (i := 212) (by decide +kernel), by decide +kernel⟩
theorem mw_298 : (.methodLink RX5 84 yX0_opAt : Cond) ∈ lw_gt := List.mem_filter.mpr ⟨List.mem_of_getElem? (i := 661) (by decide +kernel), by decide +kernel⟩
theorem mw_299 : (.methodLink RX5 88 yX0_argAt : Cond) ∈ lw_gt := List.mem_filter.mpr ⟨List.mem_of_getElem? (i := 662) (by decide +kernel), by decide +kernel⟩
theorem mw_300 : (.methodLink RX5 70 yX5_doWord : Cond) ∈ lw_gt := List.mem_filter.mpr ⟨List.mem_of_getElem? (i := 525) (by decide +kernel), by decide +kernel⟩
theorem mw_301 : (.instanceMethod yX5_doWord : Cond) ∈ lw_gt := List.mem_filter.mpr ⟨List.mem_of_getElem? (i := 527) (by decide +kernel), by decide +kernel⟩
theorem mw_302 : (.selects RX5 yX5_doWord yX5_doWord : Cond) ∈ lw_gt := List.mem_filter.mpr ⟨List.mem_of_getElem? (i := 12) (by decide +kernel), by decide +kernel⟩
theorem mw_303 : (.code yX5_doWord cX5_doWord 5 (some .int) : Cond) ∈ lw_gt := List.mem_filter.mpr ⟨List.mem_of_getElem? (i := 528) (by decide +kernel), by decide +kernel⟩
theorem mw_304 : (.fieldLink RX3 19 "WordForge$Loader" "machine" "LWordForge$Machine;" : Cond) ∈ lw_gt := List.mem_filter.mpr ⟨List.mem_of_getElem? (i := 324) (by decide +kernel), by decide +kernel⟩
theorem mw_305 : (.methodLink RX3 77 yX5_obey : Cond) ∈ lw_gt := List.mem_filter.mpr ⟨List.mem_of_getElem? (i := 521) (by decide +kernel), by decide +kernel⟩
theorem mw_306 : (.instanceMethod yX5_obey : Cond) ∈ lw_gt := List.mem_filter.mpr ⟨List.mem_of_getElem? (i := 522) (by decide +kernel), by decide +kernel⟩
theorem mw_307 : (.selects RX5 yX5_obey yX5_obey : Cond) ∈ lw_gt := List.mem_filter.mpr ⟨List.mem_of_getElem? (i := 523) (by decide +kernel), by decide +kernel⟩
theorem mw_308 : (.code yX5_obey cX5_obey 6 (some .int) : Cond) ∈ lw_gt := List.mem_filter.mpr ⟨List.mem_of_getElem? (i := 524) (by decide +kernel), by decide +kernel⟩
theorem mw_309 : (.methodLink RX3 69 yX6_isPlain : Cond) ∈ lw_gt := List.mem_filter.mpr ⟨List.mem_of_getElem? (i := 518) (by decide +kernel), by decide +kernel⟩
theorem mw_310 : (.static yX6_isPlain : Cond) ∈ lw_gt := List.mem_filter.mpr ⟨List.mem_of_getElem? (i := 519) (by decide +kernel), by decide +kernel⟩
theorem mw_311 : (.code yX6_isPlain cX6_isPlain 1 (some .boolean) : Cond) ∈ lw_gt := List.mem_filter.mpr ⟨List.mem_of_getElem? (i := 520) (by decide +kernel), by decide +kernel⟩
theorem mw_312 : (.methodLink RX3 66 yX3_forget : Cond) ∈ lw_gt := List.mem_filter.mpr ⟨List.mem_of_getElem? (i := 510) (by decide +kernel), by decide +kernel⟩
theorem mw_313 : (.instanceMethod yX3_forget : Cond) ∈ lw_gt := List.mem_filter.mpr ⟨List.mem_of_getElem? (i := 512) (by decide +kernel), by decide +kernel⟩
theorem mw_314 : (.selects RX3 yX3_forget yX3_forget : Cond) ∈ lw_gt := List.mem_filter.mpr ⟨List.mem_of_getElem? (i := 11) (by decide +kernel), by decide +kernel⟩
theorem mw_315 : (.code yX3_forget cX3_forget 1 (some .int) : Cond) ∈ lw_gt := List.mem_filter.mpr ⟨List.mem_of_getElem? (i := 513) (by decide +kernel), by decide +kernel⟩
theorem mw_316 : (.methodLink RX3 63 yX3_define : Cond) ∈ lw_gt := List.mem_filter.mpr ⟨List.mem_of_getElem? (i := 438) (by decide +kernel), by decide +kernel⟩
theorem mw_317 : (.instanceMethod yX3_define : Cond) ∈ lw_gt := List.mem_filter.mpr ⟨List.mem_of_getElem? (i := 440) (by decide +kernel), by decide +kernel⟩
theorem mw_318 : (.selects RX3 yX3_define yX3_define : Cond) ∈ lw_gt := List.mem_filter.mpr ⟨List.mem_of_getElem? (i := 5) (by decide +kernel), by decide +kernel⟩
theorem mw_319 : (.code yX3_define cX3_define 5 (some .int) : Cond) ∈ lw_gt := List.mem_filter.mpr ⟨List.mem_of_getElem? (i := 441) (by decide +kernel), by decide +kernel⟩
theorem mw_320 : (.methodLink RX5 65 yX7_empty : Cond) ∈ lw_gt := List.mem_filter.mpr ⟨List.mem_of_getElem? (i := 671) (by decide +kernel), by decide +kernel⟩
theorem mw_321 : (.instanceMethod yX7_empty : Cond) ∈ lw_gt := List.mem_filter.mpr ⟨List.mem_of_getElem? (i := 672) (by decide +kernel), by decide +kernel⟩
theorem mw_322 : (.selects RX7 yX7_empty yX7_empty : Cond) ∈ lw_gt := List.mem_filter.mpr ⟨List.mem_of_getElem? (i := 673) (by decide +kernel), by decide +kernel⟩
theorem mw_323 : (.code yX7_empty cX7_empty 1 none : Cond) ∈ lw_gt := List.mem_filter.mpr ⟨List.mem_of_getElem? (i := 674) (by decide +kernel), by decide +kernel⟩
theorem mw_324 : (.methodLink RX3 55 yX5_emptyStack : Cond) ∈ lw_gt := List.mem_filter.mpr ⟨List.mem_of_getElem? (i := 667) (by decide +kernel), by decide +kernel⟩
theorem mw_325 : (.instanceMethod yX5_emptyStack : Cond) ∈ lw_gt := List.mem_filter.mpr ⟨List.mem_of_getElem? (i := 668) (by decide +kernel), by decide +kernel⟩
theorem mw_326 : (.selects RX5 yX5_emptyStack yX5_emptyStack : Cond) ∈ lw_gt := List.mem_filter.mpr ⟨List.mem_of_getElem? (i := 669) (by decide +kernel), by decide +kernel⟩
theorem mw_327 : (.code yX5_emptyStack cX5_emptyStack 1 none : Cond) ∈ lw_gt := List.mem_filter.mpr ⟨List.mem_of_getElem? (i := 670) (by decide +kernel), by decide +kernel⟩
theorem mw_328 : (.methodLink RX3 52 yX9_wordPlace : Cond) ∈ lw_gt := List.mem_filter.mpr ⟨List.mem_of_getElem? (i := 663) (by decide +kernel), by decide +kernel⟩
theorem mw_329 : (.instanceMethod yX9_wordPlace : Cond) ∈ lw_gt := List.mem_filter.mpr ⟨List.mem_of_getElem? (i := 664) (by decide +kernel), by decide +kernel⟩
theorem mw_330 : (.selects RX9 yX9_wordPlace yX9_wordPlace : Cond) ∈ lw_gt := List.mem_filter.mpr ⟨List.mem_of_getElem? (i := 665) (by decide +kernel), by decide +kernel⟩
theorem mw_331 : (.code yX9_wordPlace cX9_wordPlace 1 (some .int) : Cond) ∈ lw_gt := List.mem_filter.mpr ⟨List.mem_of_getElem? (i := 666) (by decide +kernel), by decide +kernel⟩
theorem mw_332 : (.methodLink RX3 48 yX3_takeWord : Cond) ∈ lw_gt := List.mem_filter.mpr ⟨List.mem_of_getElem? (i := 404) (by decide +kernel), by decide +kernel⟩
theorem mw_333 : (.instanceMethod yX3_takeWord : Cond) ∈ lw_gt := List.mem_filter.mpr ⟨List.mem_of_getElem? (i := 406) (by decide +kernel), by decide +kernel⟩
theorem mw_334 : (.selects RX3 yX3_takeWord yX3_takeWord : Cond) ∈ lw_gt := List.mem_filter.mpr ⟨List.mem_of_getElem? (i := 2) (by decide +kernel), by decide +kernel⟩
theorem mw_335 : (.code yX3_takeWord cX3_takeWord 2 (some .int) : Cond) ∈ lw_gt := List.mem_filter.mpr ⟨List.mem_of_getElem? (i := 407) (by decide +kernel), by decide +kernel⟩
theorem mw_336 : (.methodLink RX3 34 yX5_begin : Cond) ∈ lw_gt := List.mem_filter.mpr ⟨List.mem_of_getElem? (i := 384) (by decide +kernel), by decide +kernel⟩
theorem mw_337 : (.instanceMethod yX5_begin : Cond) ∈ lw_gt := List.mem_filter.mpr ⟨List.mem_of_getElem? (i := 385) (by decide +kernel), by decide +kernel⟩
theorem mw_338 : (.selects RX5 yX5_begin yX5_begin : Cond) ∈ lw_gt := List.mem_filter.mpr ⟨List.mem_of_getElem? (i := 386) (by decide +kernel), by decide +kernel⟩
theorem mw_339 : (.code yX5_begin cX5_begin 1 none : Cond) ∈ lw_gt := List.mem_filter.mpr ⟨List.mem_of_getElem? (i := 387) (by decide +kernel), by decide +kernel⟩
theorem mw_340 : (.methodLink RX3 39 yX9_rewind : Cond) ∈ lw_gt := List.mem_filter.mpr ⟨List.mem_of_getElem? (i := 392) (by decide +kernel), by decide +kernel⟩
theorem mw_341 : (.instanceMethod yX9_rewind : Cond) ∈ lw_gt := List.mem_filter.mpr ⟨List.mem_of_getElem? (i := 393) (by decide +kernel), by decide +kernel⟩
theorem mw_342 : (.selects RX9 yX9_rewind yX9_rewind : Cond) ∈ lw_gt := List.mem_filter.mpr ⟨List.mem_of_getElem? (i := 394) (by decide +kernel), by decide +kernel⟩
theorem mw_343 : (.code yX9_rewind cX9_rewind 1 none : Cond) ∈ lw_gt := List.mem_filter.mpr ⟨List.mem_of_getElem? (i := 395) (by decide +kernel), by decide +kernel⟩
theorem mw_344 : (.methodLink RX9 17 yX9_codeOf : Cond) ∈ lw_gt := List.mem_filter.mpr ⟨List.mem_of_getElem? (i := 365) (by decide +kernel), by decide +kernel⟩
theorem mw_345 : (.static yX9_codeOf : Cond) ∈ lw_gt := List.mem_filter.mpr ⟨List.mem_of_getElem? (i := 366) (by decide +kernel), by decide +kernel⟩
theorem mw_346 : (.code yX9_codeOf cX9_codeOf 2 (some .int) : Cond) ∈ lw_gt := List.mem_filter.mpr ⟨List.mem_of_getElem? (i := 367) (by decide +kernel), by decide +kernel⟩
theorem mw_347 : (.fieldLink RX11 10 "WordForge" "text" "LWordForge$Text;" : Cond) ∈ lw_gt := List.mem_filter.mpr ⟨List.mem_of_getElem? (i := 338) (by decide +kernel), by decide +kernel⟩
theorem mw_348 : (.methodLink RX11 55 yX9_append : Cond) ∈ lw_gt := List.mem_filter.mpr ⟨List.mem_of_getElem? (i := 361) (by decide +kernel), by decide +kernel⟩
theorem mw_349 : (.instanceMethod yX9_append : Cond) ∈ lw_gt := List.mem_filter.mpr ⟨List.mem_of_getElem? (i := 362) (by decide +kernel), by decide +kernel⟩
theorem mw_350 : (.selects RX9 yX9_append yX9_append : Cond) ∈ lw_gt := List.mem_filter.mpr ⟨List.mem_of_getElem? (i := 363) (by decide +kernel), by decide +kernel⟩
theorem mw_351 : (.code yX9_append cX9_append 4 (some .int) : Cond) ∈ lw_gt := List.mem_filter.mpr ⟨List.mem_of_getElem? (i := 364) (by decide +kernel), by decide +kernel⟩
theorem mw_352 : (.methodLink RX11 59 yX9_erase : Cond) ∈ lw_gt := List.mem_filter.mpr ⟨List.mem_of_getElem? (i := 372) (by decide +kernel), by decide +kernel⟩
theorem mw_353 : (.instanceMethod yX9_erase : Cond) ∈ lw_gt := List.mem_filter.mpr ⟨List.mem_of_getElem? (i := 373) (by decide +kernel), by decide +kernel⟩
theorem mw_354 : (.selects RX9 yX9_erase yX9_erase : Cond) ∈ lw_gt := List.mem_filter.mpr ⟨List.mem_of_getElem? (i := 374) (by decide +kernel), by decide +kernel⟩
theorem mw_355 : (.code yX9_erase cX9_erase 1 none : Cond) ∈ lw_gt := List.mem_filter.mpr ⟨List.mem_of_getElem? (i := 375) (by decide +kernel), by decide +kernel⟩
theorem mw_356 : (.fieldLink RX11 51 "WordForge" "loader" "LWordForge$Loader;" : Cond) ∈ lw_gt := List.mem_filter.mpr ⟨List.mem_of_getElem? (i := 343) (by decide +kernel), by decide +kernel⟩
theorem mw_357 : (.methodLink RX11 62 yX3_loadText : Cond) ∈ lw_gt := List.mem_filter.mpr ⟨List.mem_of_getElem? (i := 380) (by decide +kernel), by decide +kernel⟩
theorem mw_358 : (.instanceMethod yX3_loadText : Cond) ∈ lw_gt := List.mem_filter.mpr ⟨List.mem_of_getElem? (i := 381) (by decide +kernel), by decide +kernel⟩
theorem mw_359 : (.selects RX3 yX3_loadText yX3_loadText : Cond) ∈ lw_gt := List.mem_filter.mpr ⟨List.mem_of_getElem? (i := 382) (by decide +kernel), by decide +kernel⟩
theorem mw_360 : (.code yX3_loadText cX3_loadText 3 (some .int) : Cond) ∈ lw_gt := List.mem_filter.mpr ⟨List.mem_of_getElem? (i := 383) (by decide +kernel), by decide +kernel⟩
theorem mw_361 : (.methodLink RX11 66 yX3_faultPlace : Cond) ∈ lw_gt := List.mem_filter.mpr ⟨List.mem_of_getElem? (i := 679) (by decide +kernel), by decide +kernel⟩
theorem mw_362 : (.instanceMethod yX3_faultPlace : Cond) ∈ lw_gt := List.mem_filter.mpr ⟨List.mem_of_getElem? (i := 680) (by decide +kernel), by decide +kernel⟩
theorem mw_363 : (.selects RX3 yX3_faultPlace yX3_faultPlace : Cond) ∈ lw_gt := List.mem_filter.mpr ⟨List.mem_of_getElem? (i := 681) (by decide +kernel), by decide +kernel⟩
theorem mw_364 : (.code yX3_faultPlace cX3_faultPlace 1 (some .int) : Cond) ∈ lw_gt := List.mem_filter.mpr ⟨List.mem_of_getElem? (i := 682) (by decide +kernel), by decide +kernel⟩
theorem mw_365 : (.fieldLink RX11 42 "WordForge" "machine" "LWordForge$Machine;" : Cond) ∈ lw_gt := List.mem_filter.mpr ⟨List.mem_of_getElem? (i := 342) (by decide +kernel), by decide +kernel⟩
theorem mw_366 : (.methodLink RX11 69 yX5_stepCount : Cond) ∈ lw_gt := List.mem_filter.mpr ⟨List.mem_of_getElem? (i := 687) (by decide +kernel), by decide +kernel⟩
theorem mw_367 : (.instanceMethod yX5_stepCount : Cond) ∈ lw_gt := List.mem_filter.mpr ⟨List.mem_of_getElem? (i := 688) (by decide +kernel), by decide +kernel⟩
theorem mw_368 : (.selects RX5 yX5_stepCount yX5_stepCount : Cond) ∈ lw_gt := List.mem_filter.mpr ⟨List.mem_of_getElem? (i := 689) (by decide +kernel), by decide +kernel⟩
theorem mw_369 : (.code yX5_stepCount cX5_stepCount 1 (some .int) : Cond) ∈ lw_gt := List.mem_filter.mpr ⟨List.mem_of_getElem? (i := 690) (by decide +kernel), by decide +kernel⟩
theorem mw_370 : (.fieldLink RX11 19 "WordForge" "stack" "LWordForge$Stack;" : Cond) ∈ lw_gt := List.mem_filter.mpr ⟨List.mem_of_getElem? (i := 339) (by decide +kernel), by decide +kernel⟩
theorem mw_371 : (.methodLink RX11 72 yX7_size : Cond) ∈ lw_gt := List.mem_filter.mpr ⟨List.mem_of_getElem? (i := 695) (by decide +kernel), by decide +kernel⟩
theorem mw_372 : (.methodLink RX11 75 yX7_has : Cond) ∈ lw_gt := List.mem_filter.mpr ⟨List.mem_of_getElem? (i := 700) (by decide +kernel), by decide +kernel⟩
theorem mw_373 : (.instanceMethod yX7_has : Cond) ∈ lw_gt := List.mem_filter.mpr ⟨List.mem_of_getElem? (i := 701) (by decide +kernel), by decide +kernel⟩
theorem mw_374 : (.selects RX7 yX7_has yX7_has : Cond) ∈ lw_gt := List.mem_filter.mpr ⟨List.mem_of_getElem? (i := 702) (by decide +kernel), by decide +kernel⟩
theorem mw_375 : (.code yX7_has cX7_has 2 (some .boolean) : Cond) ∈ lw_gt := List.mem_filter.mpr ⟨List.mem_of_getElem? (i := 703) (by decide +kernel), by decide +kernel⟩
theorem mw_376 : (.constantLong RX11 82 (4294967296) : Cond) ∈ lw_gt := List.mem_filter.mpr ⟨List.mem_of_getElem? (i := 705) (by decide +kernel), by decide +kernel⟩
theorem mw_377 : (.methodLink RX11 79 yX7_fromTop : Cond) ∈ lw_gt := List.mem_filter.mpr ⟨List.mem_of_getElem? (i := 704) (by decide +kernel), by decide +kernel⟩
theorem mw_378 : (.methodLink RX11 84 yX7_put : Cond) ∈ lw_gt := List.mem_filter.mpr ⟨List.mem_of_getElem? (i := 710) (by decide +kernel), by decide +kernel⟩
theorem mw_379 : (.methodLink RX11 87 yX5_hasCell : Cond) ∈ lw_gt := List.mem_filter.mpr ⟨List.mem_of_getElem? (i := 715) (by decide +kernel), by decide +kernel⟩
theorem mw_380 : (.methodLink RX11 90 yX5_readCell : Cond) ∈ lw_gt := List.mem_filter.mpr ⟨List.mem_of_getElem? (i := 716) (by decide +kernel), by decide +kernel⟩
theorem mw_381 : (.fieldLink RX11 26 "WordForge" "tape" "LWordForge$Tape;" : Cond) ∈ lw_gt := List.mem_filter.mpr ⟨List.mem_of_getElem? (i := 340) (by decide +kernel), by decide +kernel⟩
theorem mw_382 : (.methodLink RX11 93 yX8_count : Cond) ∈ lw_gt := List.mem_filter.mpr ⟨List.mem_of_getElem? (i := 721) (by decide +kernel), by decide +kernel⟩
theorem mw_383 : (.instanceMethod yX8_count : Cond) ∈ lw_gt := List.mem_filter.mpr ⟨List.mem_of_getElem? (i := 722) (by decide +kernel), by decide +kernel⟩
theorem mw_384 : (.selects RX8 yX8_count yX8_count : Cond) ∈ lw_gt := List.mem_filter.mpr ⟨List.mem_of_getElem? (i := 723) (by decide +kernel), by decide +kernel⟩
theorem mw_385 : (.code yX8_count cX8_count 1 (some .int) : Cond) ∈ lw_gt := List.mem_filter.mpr ⟨List.mem_of_getElem? (i := 724) (by decide +kernel), by decide +kernel⟩
theorem mw_386 : (.methodLink RX11 96 yX8_has : Cond) ∈ lw_gt := List.mem_filter.mpr ⟨List.mem_of_getElem? (i := 729) (by decide +kernel), by decide +kernel⟩
theorem mw_387 : (.instanceMethod yX8_has : Cond) ∈ lw_gt := List.mem_filter.mpr ⟨List.mem_of_getElem? (i := 730) (by decide +kernel), by decide +kernel⟩
theorem mw_388 : (.selects RX8 yX8_has yX8_has : Cond) ∈ lw_gt := List.mem_filter.mpr ⟨List.mem_of_getElem? (i := 731) (by decide +kernel), by decide +kernel⟩
theorem mw_389 : (.code yX8_has cX8_has 2 (some .boolean) : Cond) ∈ lw_gt := List.mem_filter.mpr ⟨List.mem_of_getElem? (i := 732) (by decide +kernel), by decide +kernel⟩
theorem mw_390 : (.methodLink RX11 97 yX8_fromLatest : Cond) ∈ lw_gt := List.mem_filter.mpr ⟨List.mem_of_getElem? (i := 733) (by decide +kernel), by decide +kernel⟩
theorem mw_391 : (.instanceMethod yX8_fromLatest : Cond) ∈ lw_gt := List.mem_filter.mpr ⟨List.mem_of_getElem? (i := 734) (by decide +kernel), by decide +kernel⟩
theorem mw_392 : (.selects RX8 yX8_fromLatest yX8_fromLatest : Cond) ∈ lw_gt := List.mem_filter.mpr ⟨List.mem_of_getElem? (i := 735) (by decide +kernel), by decide +kernel⟩
theorem mw_393 : (.code yX8_fromLatest cX8_fromLatest 2 (some .int) : Cond) ∈ lw_gt := List.mem_filter.mpr ⟨List.mem_of_getElem? (i := 736) (by decide +kernel), by decide +kernel⟩
theorem mw_394 : (.fieldLink RX11 33 "WordForge" "dictionary" "LWordForge$Dictionary;" : Cond) ∈ lw_gt := List.mem_filter.mpr ⟨List.mem_of_getElem? (i := 341) (by decide +kernel), by decide +kernel⟩
theorem mw_395 : (.methodLink RX11 100 yX1_size : Cond) ∈ lw_gt := List.mem_filter.mpr ⟨List.mem_of_getElem? (i := 741) (by decide +kernel), by decide +kernel⟩
theorem mw_396 : (.methodLink RX11 101 yX1_has : Cond) ∈ lw_gt := List.mem_filter.mpr ⟨List.mem_of_getElem? (i := 746) (by decide +kernel), by decide +kernel⟩
theorem mw_397 : (.instanceMethod yX1_has : Cond) ∈ lw_gt := List.mem_filter.mpr ⟨List.mem_of_getElem? (i := 747) (by decide +kernel), by decide +kernel⟩
theorem mw_398 : (.selects RX1 yX1_has yX1_has : Cond) ∈ lw_gt := List.mem_filter.mpr ⟨List.mem_of_getElem? (i := 748) (by decide +kernel), by decide +kernel⟩
theorem mw_399 : (.code yX1_has cX1_has 2 (some .boolean) : Cond) ∈ lw_gt := List.mem_filter.mpr ⟨List.mem_of_getElem? (i := 749) (by decide +kernel), by decide +kernel⟩
theorem mw_400 : (.methodLink RX11 102 yX1_endOf : Cond) ∈ lw_gt := List.mem_filter.mpr ⟨List.mem_of_getElem? (i := 750) (by decide +kernel), by decide +kernel⟩
theorem mw_401 : (.methodLink RX11 105 yX1_startOf : Cond) ∈ lw_gt := List.mem_filter.mpr ⟨List.mem_of_getElem? (i := 751) (by decide +kernel), by decide +kernel⟩
theorem mw_402 : (.constantLong RX11 112 (-1) : Cond) ∈ lw_gt := List.mem_filter.mpr ⟨List.mem_of_getElem? (i := 757) (by decide +kernel), by decide +kernel⟩
theorem mw_403 : (.methodLink RX11 108 yX1_keyOf : Cond) ∈ lw_gt := List.mem_filter.mpr ⟨List.mem_of_getElem? (i := 756) (by decide +kernel), by decide +kernel⟩
theorem mw_404 : (.fieldLink RX12 66 "WordForgeModel" "length" "I" : Cond) ∈ lw_gt := List.mem_filter.mpr ⟨List.mem_of_getElem? (i := 765) (by decide +kernel), by decide +kernel⟩
theorem mw_405 : (.fieldLink RX12 7 "WordForgeModel" "text" "[I" : Cond) ∈ lw_gt := List.mem_filter.mpr ⟨List.mem_of_getElem? (i := 764) (by decide +kernel), by decide +kernel⟩
theorem mw_406 : (.fieldLink RX12 16 "WordForgeModel" "to" "[I" : Cond) ∈ lw_gt := List.mem_filter.mpr ⟨List.mem_of_getElem? (i := 767) (by decide +kernel), by decide +kernel⟩
theorem mw_407 : (.fieldLink RX12 69 "WordForgeModel" "words" "I" : Cond) ∈ lw_gt := List.mem_filter.mpr ⟨List.mem_of_getElem? (i := 768) (by decide +kernel), by decide +kernel⟩
theorem mw_408 : (.fieldLink RX12 13 "WordForgeModel" "from" "[I" : Cond) ∈ lw_gt := List.mem_filter.mpr ⟨List.mem_of_getElem? (i := 766) (by decide +kernel), by decide +kernel⟩
theorem mw_409 : (.constantLong RX12 74 (128) : Cond) ∈ lw_gt := List.mem_filter.mpr ⟨List.mem_of_getElem? (i := 871) (by decide +kernel), by decide +kernel⟩
theorem mw_410 : (.constantLong RX12 72 (-1) : Cond) ∈ lw_gt := List.mem_filter.mpr ⟨List.mem_of_getElem? (i := 870) (by decide +kernel), by decide +kernel⟩
theorem mw_411 : (.methodLink RX12 76 yX12_digit : Cond) ∈ lw_gt := List.mem_filter.mpr ⟨List.mem_of_getElem? (i := 881) (by decide +kernel), by decide +kernel⟩
theorem mw_412 : (.static yX12_digit : Cond) ∈ lw_gt := List.mem_filter.mpr ⟨List.mem_of_getElem? (i := 882) (by decide +kernel), by decide +kernel⟩
theorem mw_413 : (.initialized RX12 : Cond) ∈ lw_gt := List.mem_filter.mpr ⟨List.mem_of_getElem? (i := 64) (by decide +kernel), by decide +kernel⟩
theorem mw_414 : (.code yX12_digit cX12_digit 1 (some .boolean) : Cond) ∈ lw_gt := List.mem_filter.mpr ⟨List.mem_of_getElem? (i := 883) (by decide +kernel), by decide +kernel⟩
theorem mw_415 : (.constantLong RX12 80 (1653488) : Cond) ∈ lw_gt := List.mem_filter.mpr ⟨List.mem_of_getElem? (i := 887) (by decide +kernel), by decide +kernel⟩
theorem mw_416 : (.constantLong RX12 82 (211597296) : Cond) ∈ lw_gt := List.mem_filter.mpr ⟨List.mem_of_getElem? (i := 888) (by decide +kernel), by decide +kernel⟩
theorem mw_417 : (.constantLong RX12 84 (243134704) : Cond) ∈ lw_gt := List.mem_filter.mpr ⟨List.mem_of_getElem? (i := 889) (by decide +kernel), by decide +kernel⟩
theorem mw_418 : (.constantLong RX12 86 (234730226) : Cond) ∈ lw_gt := List.mem_filter.mpr ⟨List.mem_of_getElem? (i := 890) (by decide +kernel), by decide +kernel⟩
theorem mw_419 : (.constantLong RX12 88 (1882100) : Cond) ∈ lw_gt := List.mem_filter.mpr ⟨List.mem_of_getElem? (i := 891) (by decide +kernel), by decide +kernel⟩
theorem mw_420 : (.constantLong RX12 90 (1815792) : Cond) ∈ lw_gt := List.mem_filter.mpr ⟨List.mem_of_getElem? (i := 892) (by decide +kernel), by decide +kernel⟩
theorem mw_421 : (.constantLong RX12 92 (245199339) : Cond) ∈ lw_gt := List.mem_filter.mpr ⟨List.mem_of_getElem? (i := 893) (by decide +kernel), by decide +kernel⟩
theorem mw_422 : (.constantLong RX12 94 (133774064) : Cond) ∈ lw_gt := List.mem_filter.mpr ⟨List.mem_of_getElem? (i := 894) (by decide +kernel), by decide +kernel⟩
theorem mw_423 : (.constantLong RX12 96 (27057207912) : Cond) ∈ lw_gt := List.mem_filter.mpr ⟨List.mem_of_getElem? (i := 895) (by decide +kernel), by decide +kernel⟩
theorem mw_424 : (.constantLong RX12 98 (43) : Cond) ∈ lw_gt := List.mem_filter.mpr ⟨List.mem_of_getElem? (i := 896) (by decide +kernel), by decide +kernel⟩
theorem mw_425 : (.constantLong RX12 100 (45) : Cond) ∈ lw_gt := List.mem_filter.mpr ⟨List.mem_of_getElem? (i := 897) (by decide +kernel), by decide +kernel⟩
theorem mw_426 : (.constantLong RX12 102 (42) : Cond) ∈ lw_gt := List.mem_filter.mpr ⟨List.mem_of_getElem? (i := 898) (by decide +kernel), by decide +kernel⟩
theorem mw_427 : (.constantLong RX12 104 (47) : Cond) ∈ lw_gt := List.mem_filter.mpr ⟨List.mem_of_getElem? (i := 899) (by decide +kernel), by decide +kernel⟩
theorem mw_428 : (.constantLong RX12 106 (1800164) : Cond) ∈ lw_gt := List.mem_filter.mpr ⟨List.mem_of_getElem? (i := 900) (by decide +kernel), by decide +kernel⟩
theorem mw_429 : (.constantLong RX12 108 (3806900812389) : Cond) ∈ lw_gt := List.mem_filter.mpr ⟨List.mem_of_getElem? (i := 901) (by decide +kernel), by decide +kernel⟩
theorem mw_430 : (.constantLong RX12 110 (1601907) : Cond) ∈ lw_gt := List.mem_filter.mpr ⟨List.mem_of_getElem? (i := 902) (by decide +kernel), by decide +kernel⟩
theorem mw_431 : (.constantLong RX12 112 (1799406) : Cond) ∈ lw_gt := List.mem_filter.mpr ⟨List.mem_of_getElem? (i := 903) (by decide +kernel), by decide +kernel⟩
theorem mw_432 : (.constantLong RX12 114 (1798392) : Cond) ∈ lw_gt := List.mem_filter.mpr ⟨List.mem_of_getElem? (i := 904) (by decide +kernel), by decide +kernel⟩
theorem mw_433 : (.constantLong RX12 116 (1603428) : Cond) ∈ lw_gt := List.mem_filter.mpr ⟨List.mem_of_getElem? (i := 905) (by decide +kernel), by decide +kernel⟩
theorem mw_434 : (.constantLong RX12 118 (14322) : Cond) ∈ lw_gt := List.mem_filter.mpr ⟨List.mem_of_getElem? (i := 906) (by decide +kernel), by decide +kernel⟩
theorem mw_435 : (.constantLong RX12 120 (1980402) : Cond) ∈ lw_gt := List.mem_filter.mpr ⟨List.mem_of_getElem? (i := 907) (by decide +kernel), by decide +kernel⟩
theorem mw_436 : (.constantLong RX12 122 (3637549562228) : Cond) ∈ lw_gt := List.mem_filter.mpr ⟨List.mem_of_getElem? (i := 908) (by decide +kernel), by decide +kernel⟩
theorem mw_437 : (.constantLong RX12 124 (3741941658484) : Cond) ∈ lw_gt := List.mem_filter.mpr ⟨List.mem_of_getElem? (i := 909) (by decide +kernel), by decide +kernel⟩
theorem mw_438 : (.constantLong RX12 126 (3948100088692) : Cond) ∈ lw_gt := List.mem_filter.mpr ⟨List.mem_of_getElem? (i := 910) (by decide +kernel), by decide +kernel⟩
theorem mw_439 : (.constantLong RX12 128 (61) : Cond) ∈ lw_gt := List.mem_filter.mpr ⟨List.mem_of_getElem? (i := 911) (by decide +kernel), by decide +kernel⟩
theorem mw_440 : (.constantLong RX12 130 (60) : Cond) ∈ lw_gt := List.mem_filter.mpr ⟨List.mem_of_getElem? (i := 912) (by decide +kernel), by decide +kernel⟩
theorem mw_441 : (.constantLong RX12 132 (62) : Cond) ∈ lw_gt := List.mem_filter.mpr ⟨List.mem_of_getElem? (i := 913) (by decide +kernel), by decide +kernel⟩
theorem mw_442 : (.constantLong RX12 134 (6205) : Cond) ∈ lw_gt := List.mem_filter.mpr ⟨List.mem_of_getElem? (i := 914) (by decide +kernel), by decide +kernel⟩
theorem mw_443 : (.constantLong RX12 136 (6204) : Cond) ∈ lw_gt := List.mem_filter.mpr ⟨List.mem_of_getElem? (i := 915) (by decide +kernel), by decide +kernel⟩
theorem mw_444 : (.constantLong RX12 138 (64) : Cond) ∈ lw_gt := List.mem_filter.mpr ⟨List.mem_of_getElem? (i := 916) (by decide +kernel), by decide +kernel⟩
theorem mw_445 : (.constantLong RX12 140 (33) : Cond) ∈ lw_gt := List.mem_filter.mpr ⟨List.mem_of_getElem? (i := 917) (by decide +kernel), by decide +kernel⟩
theorem mw_446 : (.constantLong RX12 142 (5537) : Cond) ∈ lw_gt := List.mem_filter.mpr ⟨List.mem_of_getElem? (i := 918) (by decide +kernel), by decide +kernel⟩
theorem mw_447 : (.constantLong RX12 144 (46) : Cond) ∈ lw_gt := List.mem_filter.mpr ⟨List.mem_of_getElem? (i := 919) (by decide +kernel), by decide +kernel⟩
theorem mw_448 : (.constantLong RX12 146 (13542) : Cond) ∈ lw_gt := List.mem_filter.mpr ⟨List.mem_of_getElem? (i := 923) (by decide +kernel), by decide +kernel⟩
theorem mw_449 : (.constantLong RX12 148 (213596645) : Cond) ∈ lw_gt := List.mem_filter.mpr ⟨List.mem_of_getElem? (i := 924) (by decide +kernel), by decide +kernel⟩
theorem mw_450 : (.constantLong RX12 150 (244986606) : Cond) ∈ lw_gt := List.mem_filter.mpr ⟨List.mem_of_getElem? (i := 925) (by decide +kernel), by decide +kernel⟩
theorem mw_451 : (.constantLong RX12 152 (26520188142) : Cond) ∈ lw_gt := List.mem_filter.mpr ⟨List.mem_of_getElem? (i := 926) (by decide +kernel), by decide +kernel⟩
theorem mw_452 : (.constantLong RX12 154 (31639549164) : Cond) ∈ lw_gt := List.mem_filter.mpr ⟨List.mem_of_getElem? (i := 927) (by decide +kernel), by decide +kernel⟩
theorem mw_453 : (.constantLong RX12 156 (26255848686) : Cond) ∈ lw_gt := List.mem_filter.mpr ⟨List.mem_of_getElem? (i := 928) (by decide +kernel), by decide +kernel⟩
theorem mw_454 : (.constantLong RX12 158 (32163657317) : Cond) ∈ lw_gt := List.mem_filter.mpr ⟨List.mem_of_getElem? (i := 929) (by decide +kernel), by decide +kernel⟩
theorem mw_455 : (.constantLong RX12 160 (3944358703348) : Cond) ∈ lw_gt := List.mem_filter.mpr ⟨List.mem_of_getElem? (i := 930) (by decide +kernel), by decide +kernel⟩
theorem mw_456 : (.constantLong RX12 162 (12911) : Cond) ∈ lw_gt := List.mem_filter.mpr ⟨List.mem_of_getElem? (i := 931) (by decide +kernel), by decide +kernel⟩
theorem mw_457 : (.constantLong RX12 164 (228325360) : Cond) ∈ lw_gt := List.mem_filter.mpr ⟨List.mem_of_getElem? (i := 932) (by decide +kernel), by decide +kernel⟩
theorem mw_458 : (.constantLong RX12 166 (105) : Cond) ∈ lw_gt := List.mem_filter.mpr ⟨List.mem_of_getElem? (i := 933) (by decide +kernel), by decide +kernel⟩
theorem mw_459 : (.constantLong RX12 168 (213791988) : Cond) ∈ lw_gt := List.mem_filter.mpr ⟨List.mem_of_getElem? (i := 934) (by decide +kernel), by decide +kernel⟩
theorem mw_460 : (.constantLong RX12 170 (504874458200549) : Cond) ∈ lw_gt := List.mem_filter.mpr ⟨List.mem_of_getElem? (i := 935) (by decide +kernel), by decide +kernel⟩
theorem mw_461 : (.fieldLink RX12 28 "WordForgeModel" "names" "[J" : Cond) ∈ lw_gt := List.mem_filter.mpr ⟨List.mem_of_getElem? (i := 774) (by decide +kernel), by decide +kernel⟩
theorem mw_462 : (.fieldLink RX12 172 "WordForgeModel" "defined" "I" : Cond) ∈ lw_gt := List.mem_filter.mpr ⟨List.mem_of_getElem? (i := 777) (by decide +kernel), by decide +kernel⟩
theorem mw_463 : (.fieldLink RX12 175 "WordForgeModel" "fault" "I" : Cond) ∈ lw_gt := List.mem_filter.mpr ⟨List.mem_of_getElem? (i := 789) (by decide +kernel), by decide +kernel⟩
theorem mw_464 : (.fieldLink RX12 19 "WordForgeModel" "stack" "[I" : Cond) ∈ lw_gt := List.mem_filter.mpr ⟨List.mem_of_getElem? (i := 769) (by decide +kernel), by decide +kernel⟩
theorem mw_465 : (.fieldLink RX12 178 "WordForgeModel" "height" "I" : Cond) ∈ lw_gt := List.mem_filter.mpr ⟨List.mem_of_getElem? (i := 770) (by decide +kernel), by decide +kernel⟩
theorem mw_466 : (.methodLink RX12 205 yX12_floor : Cond) ∈ lw_gt := List.mem_filter.mpr ⟨List.mem_of_getElem? (i := 985) (by decide +kernel), by decide +kernel⟩
theorem mw_467 : (.static yX12_floor : Cond) ∈ lw_gt := List.mem_filter.mpr ⟨List.mem_of_getElem? (i := 986) (by decide +kernel), by decide +kernel⟩
theorem mw_468 : (.code yX12_floor cX12_floor 6 (some .long) : Cond) ∈ lw_gt := List.mem_filter.mpr ⟨List.mem_of_getElem? (i := 987) (by decide +kernel), by decide +kernel⟩
theorem mw_469 : (.fieldLink RX12 22 "WordForgeModel" "memory" "[I" : Cond) ∈ lw_gt := List.mem_filter.mpr ⟨List.mem_of_getElem? (i := 771) (by decide +kernel), by decide +kernel⟩
theorem mw_470 : (.methodLink RX12 188 yX12_stop : Cond) ∈ lw_gt := List.mem_filter.mpr ⟨List.mem_of_getElem? (i := 962) (by decide +kernel), by decide +kernel⟩
theorem mw_471 : (.instanceMethod yX12_stop : Cond) ∈ lw_gt := List.mem_filter.mpr ⟨List.mem_of_getElem? (i := 964) (by decide +kernel), by decide +kernel⟩
theorem mw_472 : (.selects RX12 yX12_stop yX12_stop : Cond) ∈ lw_gt := List.mem_filter.mpr ⟨List.mem_of_getElem? (i := 33) (by decide +kernel), by decide +kernel⟩
theorem mw_473 : (.code yX12_stop cX12_stop 2 (some .boolean) : Cond) ∈ lw_gt := List.mem_filter.mpr ⟨List.mem_of_getElem? (i := 965) (by decide +kernel), by decide +kernel⟩
theorem mw_474 : (.fieldLink RX12 25 "WordForgeModel" "out" "[I" : Cond) ∈ lw_gt := List.mem_filter.mpr ⟨List.mem_of_getElem? (i := 772) (by decide +kernel), by decide +kernel⟩
theorem mw_475 : (.fieldLink RX12 198 "WordForgeModel" "outs" "I" : Cond) ∈ lw_gt := List.mem_filter.mpr ⟨List.mem_of_getElem? (i := 773) (by decide +kernel), by decide +kernel⟩
theorem mw_476 : (.methodLink RX12 201 yX12_made : Cond) ∈ lw_gt := List.mem_filter.mpr ⟨List.mem_of_getElem? (i := 981) (by decide +kernel), by decide +kernel⟩
theorem mw_477 : (.instanceMethod yX12_made : Cond) ∈ lw_gt := List.mem_filter.mpr ⟨List.mem_of_getElem? (i := 983) (by decide +kernel), by decide +kernel⟩
theorem mw_478 : (.selects RX12 yX12_made yX12_made : Cond) ∈ lw_gt := List.mem_filter.mpr ⟨List.mem_of_getElem? (i := 37) (by decide +kernel), by decide +kernel⟩
theorem mw_479 : (.code yX12_made cX12_made 4 (some .long) : Cond) ∈ lw_gt := List.mem_filter.mpr ⟨List.mem_of_getElem? (i := 984) (by decide +kernel), by decide +kernel⟩
theorem mw_480 : (.methodLink RX12 194 yX12_put : Cond) ∈ lw_gt := List.mem_filter.mpr ⟨List.mem_of_getElem? (i := 966) (by decide +kernel), by decide +kernel⟩
theorem mw_481 : (.instanceMethod yX12_put : Cond) ∈ lw_gt := List.mem_filter.mpr ⟨List.mem_of_getElem? (i := 968) (by decide +kernel), by decide +kernel⟩
theorem mw_482 : (.selects RX12 yX12_put yX12_put : Cond) ∈ lw_gt := List.mem_filter.mpr ⟨List.mem_of_getElem? (i := 34) (by decide +kernel), by decide +kernel⟩
theorem mw_483 : (.code yX12_put cX12_put 3 none : Cond) ∈ lw_gt := List.mem_filter.mpr ⟨List.mem_of_getElem? (i := 969) (by decide +kernel), by decide +kernel⟩
theorem mw_484 : (.fieldLink RX12 185 "WordForgeModel" "steps" "I" : Cond) ∈ lw_gt := List.mem_filter.mpr ⟨List.mem_of_getElem? (i := 788) (by decide +kernel), by decide +kernel⟩
theorem mw_485 : (.methodLink RX12 191 yX12_grows : Cond) ∈ lw_gt := List.mem_filter.mpr ⟨List.mem_of_getElem? (i := 977) (by decide +kernel), by decide +kernel⟩
theorem mw_486 : (.instanceMethod yX12_grows : Cond) ∈ lw_gt := List.mem_filter.mpr ⟨List.mem_of_getElem? (i := 979) (by decide +kernel), by decide +kernel⟩
theorem mw_487 : (.selects RX12 yX12_grows yX12_grows : Cond) ∈ lw_gt := List.mem_filter.mpr ⟨List.mem_of_getElem? (i := 36) (by decide +kernel), by decide +kernel⟩
theorem mw_488 : (.code yX12_grows cX12_grows 2 (some .boolean) : Cond) ∈ lw_gt := List.mem_filter.mpr ⟨List.mem_of_getElem? (i := 980) (by decide +kernel), by decide +kernel⟩
theorem mw_489 : (.methodLink RX12 181 yX12_takes : Cond) ∈ lw_gt := List.mem_filter.mpr ⟨List.mem_of_getElem? (i := 974) (by decide +kernel), by decide +kernel⟩
theorem mw_490 : (.static yX12_takes : Cond) ∈ lw_gt := List.mem_filter.mpr ⟨List.mem_of_getElem? (i := 975) (by decide +kernel), by decide +kernel⟩
theorem mw_491 : (.code yX12_takes cX12_takes 1 (some .int) : Cond) ∈ lw_gt := List.mem_filter.mpr ⟨List.mem_of_getElem? (i := 976) (by decide +kernel), by decide +kernel⟩
theorem mw_492 : (.fieldLink RX12 209 "WordForgeModel" "deep" "I" : Cond) ∈ lw_gt := List.mem_filter.mpr ⟨List.mem_of_getElem? (i := 782) (by decide +kernel), by decide +kernel⟩
theorem mw_493 : (.fieldLink RX12 44 "WordForgeModel" "running" "[I" : Cond) ∈ lw_gt := List.mem_filter.mpr ⟨List.mem_of_getElem? (i := 780) (by decide +kernel), by decide +kernel⟩
theorem mw_494 : (.fieldLink RX12 47 "WordForgeModel" "at" "[I" : Cond) ∈ lw_gt := List.mem_filter.mpr ⟨List.mem_of_getElem? (i := 781) (by decide +kernel), by decide +kernel⟩
theorem mw_495 : (.fieldLink RX12 212 "WordForgeModel" "loops" "I" : Cond) ∈ lw_gt := List.mem_filter.mpr ⟨List.mem_of_getElem? (i := 786) (by decide +kernel), by decide +kernel⟩
theorem mw_496 : (.fieldLink RX12 56 "WordForgeModel" "owner" "[I" : Cond) ∈ lw_gt := List.mem_filter.mpr ⟨List.mem_of_getElem? (i := 785) (by decide +kernel), by decide +kernel⟩
theorem mw_497 : (.fieldLink RX12 38 "WordForgeModel" "kind" "[I" : Cond) ∈ lw_gt := List.mem_filter.mpr ⟨List.mem_of_getElem? (i := 778) (by decide +kernel), by decide +kernel⟩
theorem mw_498 : (.fieldLink RX12 32 "WordForgeModel" "starts" "[I" : Cond) ∈ lw_gt := List.mem_filter.mpr ⟨List.mem_of_getElem? (i := 775) (by decide +kernel), by decide +kernel⟩
theorem mw_499 : (.methodLink RX12 215 yX12_kindAt : Cond) ∈ lw_gt := List.mem_filter.mpr ⟨List.mem_of_getElem? (i := 1001) (by decide +kernel), by decide +kernel⟩
theorem mw_500 : (.instanceMethod yX12_kindAt : Cond) ∈ lw_gt := List.mem_filter.mpr ⟨List.mem_of_getElem? (i := 1003) (by decide +kernel), by decide +kernel⟩
theorem mw_501 : (.selects RX12 yX12_kindAt yX12_kindAt : Cond) ∈ lw_gt := List.mem_filter.mpr ⟨List.mem_of_getElem? (i := 41) (by decide +kernel), by decide +kernel⟩
theorem mw_502 : (.code yX12_kindAt cX12_kindAt 3 (some .int) : Cond) ∈ lw_gt := List.mem_filter.mpr ⟨List.mem_of_getElem? (i := 1004) (by decide +kernel), by decide +kernel⟩
theorem mw_503 : (.fieldLink RX12 41 "WordForgeModel" "what" "[I" : Cond) ∈ lw_gt := List.mem_filter.mpr ⟨List.mem_of_getElem? (i := 779) (by decide +kernel), by decide +kernel⟩
theorem mw_504 : (.methodLink RX12 219 yX12_is : Cond) ∈ lw_gt := List.mem_filter.mpr ⟨List.mem_of_getElem? (i := 1013) (by decide +kernel), by decide +kernel⟩
theorem mw_505 : (.instanceMethod yX12_is : Cond) ∈ lw_gt := List.mem_filter.mpr ⟨List.mem_of_getElem? (i := 1015) (by decide +kernel), by decide +kernel⟩
theorem mw_506 : (.selects RX12 yX12_is yX12_is : Cond) ∈ lw_gt := List.mem_filter.mpr ⟨List.mem_of_getElem? (i := 44) (by decide +kernel), by decide +kernel⟩
theorem mw_507 : (.code yX12_is cX12_is 4 (some .boolean) : Cond) ∈ lw_gt := List.mem_filter.mpr ⟨List.mem_of_getElem? (i := 1016) (by decide +kernel), by decide +kernel⟩
theorem mw_508 : (.methodLink RX12 223 yX12_opens : Cond) ∈ lw_gt := List.mem_filter.mpr ⟨List.mem_of_getElem? (i := 1017) (by decide +kernel), by decide +kernel⟩
theorem mw_509 : (.instanceMethod yX12_opens : Cond) ∈ lw_gt := List.mem_filter.mpr ⟨List.mem_of_getElem? (i := 1019) (by decide +kernel), by decide +kernel⟩
theorem mw_510 : (.selects RX12 yX12_opens yX12_opens : Cond) ∈ lw_gt := List.mem_filter.mpr ⟨List.mem_of_getElem? (i := 45) (by decide +kernel), by decide +kernel⟩
theorem mw_511 : (.code yX12_opens cX12_opens 3 (some .int) : Cond) ∈ lw_gt := List.mem_filter.mpr ⟨List.mem_of_getElem? (i := 1020) (by decide +kernel), by decide +kernel⟩
theorem mw_512 : (.methodLink RX12 226 yX12_closes : Cond) ∈ lw_gt := List.mem_filter.mpr ⟨List.mem_of_getElem? (i := 1021) (by decide +kernel), by decide +kernel⟩
theorem mw_513 : (.instanceMethod yX12_closes : Cond) ∈ lw_gt := List.mem_filter.mpr ⟨List.mem_of_getElem? (i := 1023) (by decide +kernel), by decide +kernel⟩
theorem mw_514 : (.selects RX12 yX12_closes yX12_closes : Cond) ∈ lw_gt := List.mem_filter.mpr ⟨List.mem_of_getElem? (i := 46) (by decide +kernel), by decide +kernel⟩
theorem mw_515 : (.code yX12_closes cX12_closes 3 (some .int) : Cond) ∈ lw_gt := List.mem_filter.mpr ⟨List.mem_of_getElem? (i := 1024) (by decide +kernel), by decide +kernel⟩
theorem mw_516 : (.fieldLink RX12 35 "WordForgeModel" "sizes" "[I" : Cond) ∈ lw_gt := List.mem_filter.mpr ⟨List.mem_of_getElem? (i := 776) (by decide +kernel), by decide +kernel⟩
theorem mw_517 : (.methodLink RX12 239 yX12_leave : Cond) ∈ lw_gt := List.mem_filter.mpr ⟨List.mem_of_getElem? (i := 997) (by decide +kernel), by decide +kernel⟩
theorem mw_518 : (.instanceMethod yX12_leave : Cond) ∈ lw_gt := List.mem_filter.mpr ⟨List.mem_of_getElem? (i := 999) (by decide +kernel), by decide +kernel⟩
theorem mw_519 : (.selects RX12 yX12_leave yX12_leave : Cond) ∈ lw_gt := List.mem_filter.mpr ⟨List.mem_of_getElem? (i := 40) (by decide +kernel), by decide +kernel⟩
theorem mw_520 : (.code yX12_leave cX12_leave 1 none : Cond) ∈ lw_gt := List.mem_filter.mpr ⟨List.mem_of_getElem? (i := 1000) (by decide +kernel), by decide +kernel⟩
theorem mw_521 : (.fieldLink RX12 53 "WordForgeModel" "counts" "[I" : Cond) ∈ lw_gt := List.mem_filter.mpr ⟨List.mem_of_getElem? (i := 784) (by decide +kernel), by decide +kernel⟩
theorem mw_522 : (.fieldLink RX12 50 "WordForgeModel" "limits" "[I" : Cond) ∈ lw_gt := List.mem_filter.mpr ⟨List.mem_of_getElem? (i := 783) (by decide +kernel), by decide +kernel⟩
theorem mw_523 : (.methodLink RX12 236 yX12_back : Cond) ∈ lw_gt := List.mem_filter.mpr ⟨List.mem_of_getElem? (i := 1025) (by decide +kernel), by decide +kernel⟩
theorem mw_524 : (.instanceMethod yX12_back : Cond) ∈ lw_gt := List.mem_filter.mpr ⟨List.mem_of_getElem? (i := 1027) (by decide +kernel), by decide +kernel⟩
theorem mw_525 : (.selects RX12 yX12_back yX12_back : Cond) ∈ lw_gt := List.mem_filter.mpr ⟨List.mem_of_getElem? (i := 47) (by decide +kernel), by decide +kernel⟩
theorem mw_526 : (.code yX12_back cX12_back 6 (some .int) : Cond) ∈ lw_gt := List.mem_filter.mpr ⟨List.mem_of_getElem? (i := 1028) (by decide +kernel), by decide +kernel⟩
theorem mw_527 : (.methodLink RX12 229 yX12_behind : Cond) ∈ lw_gt := List.mem_filter.mpr ⟨List.mem_of_getElem? (i := 1009) (by decide +kernel), by decide +kernel⟩
theorem mw_528 : (.instanceMethod yX12_behind : Cond) ∈ lw_gt := List.mem_filter.mpr ⟨List.mem_of_getElem? (i := 1011) (by decide +kernel), by decide +kernel⟩
theorem mw_529 : (.selects RX12 yX12_behind yX12_behind : Cond) ∈ lw_gt := List.mem_filter.mpr ⟨List.mem_of_getElem? (i := 43) (by decide +kernel), by decide +kernel⟩
theorem mw_530 : (.code yX12_behind cX12_behind 7 (some .int) : Cond) ∈ lw_gt := List.mem_filter.mpr ⟨List.mem_of_getElem? (i := 1012) (by decide +kernel), by decide +kernel⟩
theorem mw_531 : (.methodLink RX12 233 yX12_call : Cond) ∈ lw_gt := List.mem_filter.mpr ⟨List.mem_of_getElem? (i := 988) (by decide +kernel), by decide +kernel⟩
theorem mw_532 : (.instanceMethod yX12_call : Cond) ∈ lw_gt := List.mem_filter.mpr ⟨List.mem_of_getElem? (i := 990) (by decide +kernel), by decide +kernel⟩
theorem mw_533 : (.selects RX12 yX12_call yX12_call : Cond) ∈ lw_gt := List.mem_filter.mpr ⟨List.mem_of_getElem? (i := 38) (by decide +kernel), by decide +kernel⟩
theorem mw_534 : (.code yX12_call cX12_call 2 (some .boolean) : Cond) ∈ lw_gt := List.mem_filter.mpr ⟨List.mem_of_getElem? (i := 991) (by decide +kernel), by decide +kernel⟩
theorem mw_535 : (.constant RX12 242 (100000) : Cond) ∈ lw_gt := List.mem_filter.mpr ⟨List.mem_of_getElem? (i := 996) (by decide +kernel), by decide +kernel⟩
theorem mw_536 : (.methodLink RX12 249 yX12_controlStep : Cond) ∈ lw_gt := List.mem_filter.mpr ⟨List.mem_of_getElem? (i := 1005) (by decide +kernel), by decide +kernel⟩
theorem mw_537 : (.instanceMethod yX12_controlStep : Cond) ∈ lw_gt := List.mem_filter.mpr ⟨List.mem_of_getElem? (i := 1007) (by decide +kernel), by decide +kernel⟩
theorem mw_538 : (.selects RX12 yX12_controlStep yX12_controlStep : Cond) ∈ lw_gt := List.mem_filter.mpr ⟨List.mem_of_getElem? (i := 42) (by decide +kernel), by decide +kernel⟩
theorem mw_539 : (.code yX12_controlStep cX12_controlStep 7 (some .boolean) : Cond) ∈ lw_gt := List.mem_filter.mpr ⟨List.mem_of_getElem? (i := 1008) (by decide +kernel), by decide +kernel⟩
theorem mw_540 : (.methodLink RX12 246 yX12_plainStep : Cond) ∈ lw_gt := List.mem_filter.mpr ⟨List.mem_of_getElem? (i := 970) (by decide +kernel), by decide +kernel⟩
theorem mw_541 : (.instanceMethod yX12_plainStep : Cond) ∈ lw_gt := List.mem_filter.mpr ⟨List.mem_of_getElem? (i := 972) (by decide +kernel), by decide +kernel⟩
theorem mw_542 : (.selects RX12 yX12_plainStep yX12_plainStep : Cond) ∈ lw_gt := List.mem_filter.mpr ⟨List.mem_of_getElem? (i := 35) (by decide +kernel), by decide +kernel⟩
theorem mw_543 : (.code yX12_plainStep cX12_plainStep 8 (some .boolean) : Cond) ∈ lw_gt := List.mem_filter.mpr ⟨List.mem_of_getElem? (i := 973) (by decide +kernel), by decide +kernel⟩
theorem mw_544 : (.methodLink RX12 243 yX12_numberStep : Cond) ∈ lw_gt := List.mem_filter.mpr ⟨List.mem_of_getElem? (i := 958) (by decide +kernel), by decide +kernel⟩
theorem mw_545 : (.instanceMethod yX12_numberStep : Cond) ∈ lw_gt := List.mem_filter.mpr ⟨List.mem_of_getElem? (i := 960) (by decide +kernel), by decide +kernel⟩
theorem mw_546 : (.selects RX12 yX12_numberStep yX12_numberStep : Cond) ∈ lw_gt := List.mem_filter.mpr ⟨List.mem_of_getElem? (i := 32) (by decide +kernel), by decide +kernel⟩
theorem mw_547 : (.code yX12_numberStep cX12_numberStep 2 (some .boolean) : Cond) ∈ lw_gt := List.mem_filter.mpr ⟨List.mem_of_getElem? (i := 961) (by decide +kernel), by decide +kernel⟩
theorem mw_548 : (.fieldLink RX12 59 "WordForgeModel" "open" "[I" : Cond) ∈ lw_gt := List.mem_filter.mpr ⟨List.mem_of_getElem? (i := 787) (by decide +kernel), by decide +kernel⟩
theorem mw_549 : (.methodLink RX12 287 yX12_meant : Cond) ∈ lw_gt := List.mem_filter.mpr ⟨List.mem_of_getElem? (i := 954) (by decide +kernel), by decide +kernel⟩
theorem mw_550 : (.instanceMethod yX12_meant : Cond) ∈ lw_gt := List.mem_filter.mpr ⟨List.mem_of_getElem? (i := 956) (by decide +kernel), by decide +kernel⟩
theorem mw_551 : (.selects RX12 yX12_meant yX12_meant : Cond) ∈ lw_gt := List.mem_filter.mpr ⟨List.mem_of_getElem? (i := 31) (by decide +kernel), by decide +kernel⟩
theorem mw_552 : (.code yX12_meant cX12_meant 4 (some .int) : Cond) ∈ lw_gt := List.mem_filter.mpr ⟨List.mem_of_getElem? (i := 957) (by decide +kernel), by decide +kernel⟩
theorem mw_553 : (.methodLink RX12 263 yX12_control : Cond) ∈ lw_gt := List.mem_filter.mpr ⟨List.mem_of_getElem? (i := 920) (by decide +kernel), by decide +kernel⟩
theorem mw_554 : (.static yX12_control : Cond) ∈ lw_gt := List.mem_filter.mpr ⟨List.mem_of_getElem? (i := 921) (by decide +kernel), by decide +kernel⟩
theorem mw_555 : (.code yX12_control cX12_control 2 (some .int) : Cond) ∈ lw_gt := List.mem_filter.mpr ⟨List.mem_of_getElem? (i := 922) (by decide +kernel), by decide +kernel⟩
theorem mw_556 : (.methodLink RX12 259 yX12_plain : Cond) ∈ lw_gt := List.mem_filter.mpr ⟨List.mem_of_getElem? (i := 884) (by decide +kernel), by decide +kernel⟩
theorem mw_557 : (.static yX12_plain : Cond) ∈ lw_gt := List.mem_filter.mpr ⟨List.mem_of_getElem? (i := 885) (by decide +kernel), by decide +kernel⟩
theorem mw_558 : (.code yX12_plain cX12_plain 2 (some .int) : Cond) ∈ lw_gt := List.mem_filter.mpr ⟨List.mem_of_getElem? (i := 886) (by decide +kernel), by decide +kernel⟩
theorem mw_559 : (.methodLink RX12 284 yX12_number : Cond) ∈ lw_gt := List.mem_filter.mpr ⟨List.mem_of_getElem? (i := 950) (by decide +kernel), by decide +kernel⟩
theorem mw_560 : (.instanceMethod yX12_number : Cond) ∈ lw_gt := List.mem_filter.mpr ⟨List.mem_of_getElem? (i := 952) (by decide +kernel), by decide +kernel⟩
theorem mw_561 : (.selects RX12 yX12_number yX12_number : Cond) ∈ lw_gt := List.mem_filter.mpr ⟨List.mem_of_getElem? (i := 30) (by decide +kernel), by decide +kernel⟩
theorem mw_562 : (.code yX12_number cX12_number 5 (some .int) : Cond) ∈ lw_gt := List.mem_filter.mpr ⟨List.mem_of_getElem? (i := 953) (by decide +kernel), by decide +kernel⟩
theorem mw_563 : (.methodLink RX12 256 yX12_isNumber : Cond) ∈ lw_gt := List.mem_filter.mpr ⟨List.mem_of_getElem? (i := 877) (by decide +kernel), by decide +kernel⟩
theorem mw_564 : (.instanceMethod yX12_isNumber : Cond) ∈ lw_gt := List.mem_filter.mpr ⟨List.mem_of_getElem? (i := 879) (by decide +kernel), by decide +kernel⟩
theorem mw_565 : (.selects RX12 yX12_isNumber yX12_isNumber : Cond) ∈ lw_gt := List.mem_filter.mpr ⟨List.mem_of_getElem? (i := 26) (by decide +kernel), by decide +kernel⟩
theorem mw_566 : (.code yX12_isNumber cX12_isNumber 4 (some .boolean) : Cond) ∈ lw_gt := List.mem_filter.mpr ⟨List.mem_of_getElem? (i := 880) (by decide +kernel), by decide +kernel⟩
theorem mw_567 : (.fieldLink RX12 62 "WordForgeModel" "place" "I" : Cond) ∈ lw_gt := List.mem_filter.mpr ⟨List.mem_of_getElem? (i := 790) (by decide +kernel), by decide +kernel⟩
theorem mw_568 : (.methodLink RX12 252 yX12_spelled : Cond) ∈ lw_gt := List.mem_filter.mpr ⟨List.mem_of_getElem? (i := 866) (by decide +kernel), by decide +kernel⟩
theorem mw_569 : (.instanceMethod yX12_spelled : Cond) ∈ lw_gt := List.mem_filter.mpr ⟨List.mem_of_getElem? (i := 868) (by decide +kernel), by decide +kernel⟩
theorem mw_570 : (.selects RX12 yX12_spelled yX12_spelled : Cond) ∈ lw_gt := List.mem_filter.mpr ⟨List.mem_of_getElem? (i := 24) (by decide +kernel), by decide +kernel⟩
theorem mw_571 : (.code yX12_spelled cX12_spelled 5 (some .long) : Cond) ∈ lw_gt := List.mem_filter.mpr ⟨List.mem_of_getElem? (i := 869) (by decide +kernel), by decide +kernel⟩
theorem mw_572 : (.constantLong RX12 268 (59) : Cond) ∈ lw_gt := List.mem_filter.mpr ⟨List.mem_of_getElem? (i := 936) (by decide +kernel), by decide +kernel⟩
theorem mw_573 : (.methodLink RX12 280 yX12_entry : Cond) ∈ lw_gt := List.mem_filter.mpr ⟨List.mem_of_getElem? (i := 946) (by decide +kernel), by decide +kernel⟩
theorem mw_574 : (.instanceMethod yX12_entry : Cond) ∈ lw_gt := List.mem_filter.mpr ⟨List.mem_of_getElem? (i := 948) (by decide +kernel), by decide +kernel⟩
theorem mw_575 : (.selects RX12 yX12_entry yX12_entry : Cond) ∈ lw_gt := List.mem_filter.mpr ⟨List.mem_of_getElem? (i := 29) (by decide +kernel), by decide +kernel⟩
theorem mw_576 : (.code yX12_entry cX12_entry 5 (some .boolean) : Cond) ∈ lw_gt := List.mem_filter.mpr ⟨List.mem_of_getElem? (i := 949) (by decide +kernel), by decide +kernel⟩
theorem mw_577 : (.methodLink RX12 276 yX12_balanced : Cond) ∈ lw_gt := List.mem_filter.mpr ⟨List.mem_of_getElem? (i := 942) (by decide +kernel), by decide +kernel⟩
theorem mw_578 : (.instanceMethod yX12_balanced : Cond) ∈ lw_gt := List.mem_filter.mpr ⟨List.mem_of_getElem? (i := 944) (by decide +kernel), by decide +kernel⟩
theorem mw_579 : (.selects RX12 yX12_balanced yX12_balanced : Cond) ∈ lw_gt := List.mem_filter.mpr ⟨List.mem_of_getElem? (i := 28) (by decide +kernel), by decide +kernel⟩
theorem mw_580 : (.code yX12_balanced cX12_balanced 9 (some .boolean) : Cond) ∈ lw_gt := List.mem_filter.mpr ⟨List.mem_of_getElem? (i := 945) (by decide +kernel), by decide +kernel⟩
theorem mw_581 : (.constantLong RX12 266 (58) : Cond) ∈ lw_gt := List.mem_filter.mpr ⟨List.mem_of_getElem? (i := 872) (by decide +kernel), by decide +kernel⟩
theorem mw_582 : (.constantLong RX12 270 (3534730425076) : Cond) ∈ lw_gt := List.mem_filter.mpr ⟨List.mem_of_getElem? (i := 937) (by decide +kernel), by decide +kernel⟩
theorem mw_583 : (.methodLink RX12 272 yX12_used : Cond) ∈ lw_gt := List.mem_filter.mpr ⟨List.mem_of_getElem? (i := 938) (by decide +kernel), by decide +kernel⟩
theorem mw_584 : (.instanceMethod yX12_used : Cond) ∈ lw_gt := List.mem_filter.mpr ⟨List.mem_of_getElem? (i := 940) (by decide +kernel), by decide +kernel⟩
theorem mw_585 : (.selects RX12 yX12_used yX12_used : Cond) ∈ lw_gt := List.mem_filter.mpr ⟨List.mem_of_getElem? (i := 27) (by decide +kernel), by decide +kernel⟩
theorem mw_586 : (.code yX12_used cX12_used 1 (some .int) : Cond) ∈ lw_gt := List.mem_filter.mpr ⟨List.mem_of_getElem? (i := 941) (by decide +kernel), by decide +kernel⟩
theorem mw_587 : (.methodLink RX12 299 yX12_go : Cond) ∈ lw_gt := List.mem_filter.mpr ⟨List.mem_of_getElem? (i := 992) (by decide +kernel), by decide +kernel⟩
theorem mw_588 : (.instanceMethod yX12_go : Cond) ∈ lw_gt := List.mem_filter.mpr ⟨List.mem_of_getElem? (i := 994) (by decide +kernel), by decide +kernel⟩
theorem mw_589 : (.selects RX12 yX12_go yX12_go : Cond) ∈ lw_gt := List.mem_filter.mpr ⟨List.mem_of_getElem? (i := 39) (by decide +kernel), by decide +kernel⟩
theorem mw_590 : (.code yX12_go cX12_go 8 (some .boolean) : Cond) ∈ lw_gt := List.mem_filter.mpr ⟨List.mem_of_getElem? (i := 995) (by decide +kernel), by decide +kernel⟩
theorem mw_591 : (.methodLink RX12 296 yX12_define : Cond) ∈ lw_gt := List.mem_filter.mpr ⟨List.mem_of_getElem? (i := 873) (by decide +kernel), by decide +kernel⟩
theorem mw_592 : (.instanceMethod yX12_define : Cond) ∈ lw_gt := List.mem_filter.mpr ⟨List.mem_of_getElem? (i := 875) (by decide +kernel), by decide +kernel⟩
theorem mw_593 : (.selects RX12 yX12_define yX12_define : Cond) ∈ lw_gt := List.mem_filter.mpr ⟨List.mem_of_getElem? (i := 25) (by decide +kernel), by decide +kernel⟩
theorem mw_594 : (.code yX12_define cX12_define 9 (some .int) : Cond) ∈ lw_gt := List.mem_filter.mpr ⟨List.mem_of_getElem? (i := 876) (by decide +kernel), by decide +kernel⟩
theorem mw_595 : (.methodLink RX12 293 yX12_outside : Cond) ∈ lw_gt := List.mem_filter.mpr ⟨List.mem_of_getElem? (i := 862) (by decide +kernel), by decide +kernel⟩
theorem mw_596 : (.instanceMethod yX12_outside : Cond) ∈ lw_gt := List.mem_filter.mpr ⟨List.mem_of_getElem? (i := 864) (by decide +kernel), by decide +kernel⟩
theorem mw_597 : (.selects RX12 yX12_outside yX12_outside : Cond) ∈ lw_gt := List.mem_filter.mpr ⟨List.mem_of_getElem? (i := 23) (by decide +kernel), by decide +kernel⟩
theorem mw_598 : (.code yX12_outside cX12_outside 6 (some .int) : Cond) ∈ lw_gt := List.mem_filter.mpr ⟨List.mem_of_getElem? (i := 865) (by decide +kernel), by decide +kernel⟩
theorem mw_599 : (.methodLink RX12 290 yX12_split : Cond) ∈ lw_gt := List.mem_filter.mpr ⟨List.mem_of_getElem? (i := 858) (by decide +kernel), by decide +kernel⟩
theorem mw_600 : (.instanceMethod yX12_split : Cond) ∈ lw_gt := List.mem_filter.mpr ⟨List.mem_of_getElem? (i := 860) (by decide +kernel), by decide +kernel⟩
theorem mw_601 : (.selects RX12 yX12_split yX12_split : Cond) ∈ lw_gt := List.mem_filter.mpr ⟨List.mem_of_getElem? (i := 22) (by decide +kernel), by decide +kernel⟩
theorem mw_602 : (.code yX12_split cX12_split 2 none : Cond) ∈ lw_gt := List.mem_filter.mpr ⟨List.mem_of_getElem? (i := 861) (by decide +kernel), by decide +kernel⟩
theorem mw_603 : (.constantLong RX12 303 (4294967296) : Cond) ∈ lw_gt := List.mem_filter.mpr ⟨List.mem_of_getElem? (i := 1045) (by decide +kernel), by decide +kernel⟩
theorem mw_604 : (.methodLink RX0 1 objectInit : Cond) ∈ lw_gt := List.mem_filter.mpr ⟨List.mem_of_getElem? (i := 136) (by decide +kernel), by decide +kernel⟩
theorem mw_605 : (.instanceMethod objectInit : Cond) ∈ lw_gt := List.mem_filter.mpr ⟨List.mem_of_getElem? (i := 73) (by decide +kernel), by decide +kernel⟩
theorem mw_606 : (.code objectInit ⟨#[0xb1]⟩ 1 none : Cond) ∈ lw_gt := List.mem_filter.mpr ⟨List.mem_of_getElem? (i := 74) (by decide +kernel), by decide +kernel⟩
theorem mw_607 : (.arrayClass .int : Cond) ∈ lw_gt := List.mem_filter.mpr ⟨List.mem_of_getElem? (i := 111) (by decide +kernel), by decide +kernel⟩
theorem mw_608 : (.methodLink RX4 1 objectInit : Cond) ∈ lw_gt := List.mem_filter.mpr ⟨List.mem_of_getElem? (i := 198) (by decide +kernel), by decide +kernel⟩
theorem mw_609 : (.methodLink RX7 1 objectInit : Cond) ∈ lw_gt := List.mem_filter.mpr ⟨List.mem_of_getElem? (i := 103) (by decide +kernel), by decide +kernel⟩
theorem mw_610 : (.methodLink RX8 1 objectInit : Cond) ∈ lw_gt := List.mem_filter.mpr ⟨List.mem_of_getElem? (i := 117) (by decide +kernel), by decide +kernel⟩
theorem mw_611 : (.methodLink RX9 1 objectInit : Cond) ∈ lw_gt := List.mem_filter.mpr ⟨List.mem_of_getElem? (i := 80) (by decide +kernel), by decide +kernel⟩
theorem mw_612 : (.arrayClass .char : Cond) ∈ lw_gt := List.mem_filter.mpr ⟨List.mem_of_getElem? (i := 97) (by decide +kernel), by decide +kernel⟩
theorem mw_613 : (.methodLink RX2 1 objectInit : Cond) ∈ lw_gt := List.mem_filter.mpr ⟨List.mem_of_getElem? (i := 150) (by decide +kernel), by decide +kernel⟩
theorem mw_614 : (.methodLink RX1 3 objectInit : Cond) ∈ lw_gt := List.mem_filter.mpr ⟨List.mem_of_getElem? (i := 130) (by decide +kernel), by decide +kernel⟩
theorem mw_615 : (.arrayClass .long : Cond) ∈ lw_gt := List.mem_filter.mpr ⟨List.mem_of_getElem? (i := 144) (by decide +kernel), by decide +kernel⟩
theorem mw_616 : (.classLink RX1 19 RX0 : Cond) ∈ lw_gt := List.mem_filter.mpr ⟨List.mem_of_getElem? (i := 131) (by decide +kernel), by decide +kernel⟩
theorem mw_617 : (.instantiable RX0 2 : Cond) ∈ lw_gt := List.mem_filter.mpr ⟨List.mem_of_getElem? (i := 132) (by decide +kernel), by decide +kernel⟩
theorem mw_618 : (.code yX0_init cX0_init 1 none : Cond) ∈ lw_gt := List.mem_filter.mpr ⟨List.mem_of_getElem? (i := 135) (by decide +kernel), by decide +kernel⟩
theorem mw_619 : (.methodLink RX1 21 yX0_init : Cond) ∈ lw_gt := List.mem_filter.mpr ⟨List.mem_of_getElem? (i := 133) (by decide +kernel), by decide +kernel⟩
theorem mw_620 : (.instanceMethod yX0_init : Cond) ∈ lw_gt := List.mem_filter.mpr ⟨List.mem_of_getElem? (i := 134) (by decide +kernel), by decide +kernel⟩
theorem mw_621 : (.classLink RX1 26 RX2 : Cond) ∈ lw_gt := List.mem_filter.mpr ⟨List.mem_of_getElem? (i := 145) (by decide +kernel), by decide +kernel⟩
theorem mw_622 : (.instantiable RX2 4 : Cond) ∈ lw_gt := List.mem_filter.mpr ⟨List.mem_of_getElem? (i := 146) (by decide +kernel), by decide +kernel⟩
theorem mw_623 : (.code yX2_init cX2_init 2 none : Cond) ∈ lw_gt := List.mem_filter.mpr ⟨List.mem_of_getElem? (i := 149) (by decide +kernel), by decide +kernel⟩
theorem mw_624 : (.methodLink RX1 28 yX2_init : Cond) ∈ lw_gt := List.mem_filter.mpr ⟨List.mem_of_getElem? (i := 147) (by decide +kernel), by decide +kernel⟩
theorem mw_625 : (.instanceMethod yX2_init : Cond) ∈ lw_gt := List.mem_filter.mpr ⟨List.mem_of_getElem? (i := 148) (by decide +kernel), by decide +kernel⟩
theorem mw_626 : (.methodLink RX5 7 objectInit : Cond) ∈ lw_gt := List.mem_filter.mpr ⟨List.mem_of_getElem? (i := 188) (by decide +kernel), by decide +kernel⟩
theorem mw_627 : (.methodLink RX5 25 yX1_code : Cond) ∈ lw_gt := List.mem_filter.mpr ⟨List.mem_of_getElem? (i := 189) (by decide +kernel), by decide +kernel⟩
theorem mw_628 : (.instanceMethod yX1_code : Cond) ∈ lw_gt := List.mem_filter.mpr ⟨List.mem_of_getElem? (i := 190) (by decide +kernel), by decide +kernel⟩
theorem mw_629 : (.selects RX1 yX1_code yX1_code : Cond) ∈ lw_gt := List.mem_filter.mpr ⟨List.mem_of_getElem? (i := 191) (by decide +kernel), by decide +kernel⟩
theorem mw_630 : (.code yX1_code cX1_code 1 (some (.object "WordForge$Code")) : Cond) ∈ lw_gt := List.mem_filter.mpr ⟨List.mem_of_getElem? (i := 192) (by decide +kernel), by decide +kernel⟩
theorem mw_631 : (.classLink RX5 38 RX4 : Cond) ∈ lw_gt := List.mem_filter.mpr ⟨List.mem_of_getElem? (i := 193) (by decide +kernel), by decide +kernel⟩
theorem mw_632 : (.instantiable RX4 3 : Cond) ∈ lw_gt := List.mem_filter.mpr ⟨List.mem_of_getElem? (i := 194) (by decide +kernel), by decide +kernel⟩
theorem mw_633 : (.code yX4_init cX4_init 1 none : Cond) ∈ lw_gt := List.mem_filter.mpr ⟨List.mem_of_getElem? (i := 197) (by decide +kernel), by decide +kernel⟩
theorem mw_634 : (.methodLink RX5 40 yX4_init : Cond) ∈ lw_gt := List.mem_filter.mpr ⟨List.mem_of_getElem? (i := 195) (by decide +kernel), by decide +kernel⟩
theorem mw_635 : (.instanceMethod yX4_init : Cond) ∈ lw_gt := List.mem_filter.mpr ⟨List.mem_of_getElem? (i := 196) (by decide +kernel), by decide +kernel⟩
theorem mw_636 : (.methodLink RX12 1 objectInit : Cond) ∈ lw_gt := List.mem_filter.mpr ⟨List.mem_of_getElem? (i := 763) (by decide +kernel), by decide +kernel⟩
