theorem mw_637 : (.fieldLink RJ0 38 "java/lang/String" "COMPACT_STRINGS" "Z" : Cond) ∈ lw_gt := List.mem_filter.mpr ⟨List.mem_append_right _ (List.mem_append_left _ (List.mem_of_getElem? (l := tables_1_1) (i := 223) rfl)), rfl⟩
theorem mw_638 : (.fieldLink RJ0 15 "java/lang/String" "coder" "B" : Cond) ∈ lw_gt := List.mem_filter.mpr ⟨List.mem_append_right _ (List.mem_append_right _ (List.mem_append_right _ (List.mem_append_right _ (List.mem_append_right _ (List.mem_of_getElem? (l := tables_1_5) (i := 67) rfl))))), rfl⟩
theorem mw_639 : (.fieldLink RJ0 9 "java/lang/String" "value" "[B" : Cond) ∈ lw_gt := List.mem_filter.mpr ⟨List.mem_append_right _ (List.mem_append_right _ (List.mem_append_right _ (List.mem_append_right _ (List.mem_append_right _ (List.mem_of_getElem? (l := tables_1_5) (i := 66) rfl))))), rfl⟩
theorem mw_640 : (.methodLink RJ0 335 yJ0_coder_7d493 : Cond) ∈ lw_gt := List.mem_filter.mpr ⟨List.mem_append_right _ (List.mem_append_left _ (List.mem_of_getElem? (l := tables_1_1) (i := 219) rfl)), rfl⟩
theorem mw_641 : (.instanceMethod yJ0_coder_7d493 : Cond) ∈ lw_gt := List.mem_filter.mpr ⟨List.mem_append_right _ (List.mem_append_left _ (List.mem_of_getElem? (l := tables_1_1) (i := 220) rfl)), rfl⟩
theorem mw_642 : (.selects RJ0 yJ0_coder_7d493 yJ0_coder_7d493 : Cond) ∈ lw_gt := List.mem_filter.mpr ⟨List.mem_append_right _ (List.mem_append_left _ (List.mem_of_getElem? (l := tables_1_1) (i := 221) rfl)), rfl⟩
theorem mw_643 : (.initialized RJ0 : Cond) ∈ lw_gt := List.mem_filter.mpr ⟨List.mem_append_right _ (List.mem_append_left _ (List.mem_of_getElem? (l := tables_1_1) (i := 12) rfl)), rfl⟩
theorem mw_644 : (.code yJ0_coder_7d493 cJ0_coder_7d493 1 (some .byte) : Cond) ∈ lw_gt := List.mem_filter.mpr ⟨List.mem_append_right _ (List.mem_append_left _ (List.mem_of_getElem? (l := tables_1_1) (i := 222) rfl)), rfl⟩
theorem mw_645 : (.fieldLink RJ0 1053 "jdk/internal/util/Preconditions" "SIOOBE_FORMATTER" "Ljava/util/function/BiFunction;" : Cond) ∈ lw_gt := List.mem_filter.mpr ⟨List.mem_append_right _ (List.mem_append_left _ (List.mem_of_getElem? (l := tables_1_1) (i := 239) rfl)), rfl⟩
theorem mw_646 : (.methodLink RJ0 1059 yJ3_checkIndex_8e157 : Cond) ∈ lw_gt := List.mem_filter.mpr ⟨List.mem_append_right _ (List.mem_append_right _ (List.mem_append_left _ (List.mem_of_getElem? (l := tables_1_2) (i := 1) rfl))), rfl⟩
theorem mw_647 : (.static yJ3_checkIndex_8e157 : Cond) ∈ lw_gt := List.mem_filter.mpr ⟨List.mem_append_right _ (List.mem_append_right _ (List.mem_append_left _ (List.mem_of_getElem? (l := tables_1_2) (i := 2) rfl))), rfl⟩
theorem mw_648 : (.initialized RJ3 : Cond) ∈ lw_gt := List.mem_filter.mpr ⟨List.mem_append_right _ (List.mem_append_left _ (List.mem_of_getElem? (l := tables_1_1) (i := 14) rfl)), rfl⟩
theorem mw_649 : (.code yJ3_checkIndex_8e157 cJ3_checkIndex_8e157 3 (some .int) : Cond) ∈ lw_gt := List.mem_filter.mpr ⟨List.mem_append_right _ (List.mem_append_right _ (List.mem_append_left _ (List.mem_of_getElem? (l := tables_1_2) (i := 3) rfl))), rfl⟩
theorem mw_650 : (.methodLink RJ1 9 yJ0_checkIndex_df160 : Cond) ∈ lw_gt := List.mem_filter.mpr ⟨List.mem_append_right _ (List.mem_append_left _ (List.mem_of_getElem? (l := tables_1_1) (i := 236) rfl)), rfl⟩
theorem mw_651 : (.static yJ0_checkIndex_df160 : Cond) ∈ lw_gt := List.mem_filter.mpr ⟨List.mem_append_right _ (List.mem_append_left _ (List.mem_of_getElem? (l := tables_1_1) (i := 237) rfl)), rfl⟩
theorem mw_652 : (.code yJ0_checkIndex_df160 cJ0_checkIndex_df160 2 none : Cond) ∈ lw_gt := List.mem_filter.mpr ⟨List.mem_append_right _ (List.mem_append_left _ (List.mem_of_getElem? (l := tables_1_1) (i := 238) rfl)), rfl⟩
theorem mw_653 : (.methodLink RJ0 492 yJ0_isLatin1_aae02 : Cond) ∈ lw_gt := List.mem_filter.mpr ⟨List.mem_append_right _ (List.mem_append_left _ (List.mem_of_getElem? (l := tables_1_1) (i := 229) rfl)), rfl⟩
theorem mw_654 : (.instanceMethod yJ0_isLatin1_aae02 : Cond) ∈ lw_gt := List.mem_filter.mpr ⟨List.mem_append_right _ (List.mem_append_left _ (List.mem_of_getElem? (l := tables_1_1) (i := 230) rfl)), rfl⟩
theorem mw_655 : (.selects RJ0 yJ0_isLatin1_aae02 yJ0_isLatin1_aae02 : Cond) ∈ lw_gt := List.mem_filter.mpr ⟨List.mem_append_right _ (List.mem_append_left _ (List.mem_of_getElem? (l := tables_1_1) (i := 231) rfl)), rfl⟩
theorem mw_656 : (.code yJ0_isLatin1_aae02 cJ0_isLatin1_aae02 1 (some .boolean) : Cond) ∈ lw_gt := List.mem_filter.mpr ⟨List.mem_append_right _ (List.mem_append_left _ (List.mem_of_getElem? (l := tables_1_1) (i := 232) rfl)), rfl⟩
theorem mw_657 : (.methodLink RJ0 495 yJ1_charAt_3b067 : Cond) ∈ lw_gt := List.mem_filter.mpr ⟨List.mem_append_right _ (List.mem_append_left _ (List.mem_of_getElem? (l := tables_1_1) (i := 233) rfl)), rfl⟩
theorem mw_658 : (.static yJ1_charAt_3b067 : Cond) ∈ lw_gt := List.mem_filter.mpr ⟨List.mem_append_right _ (List.mem_append_left _ (List.mem_of_getElem? (l := tables_1_1) (i := 234) rfl)), rfl⟩
theorem mw_659 : (.initialized RJ1 : Cond) ∈ lw_gt := List.mem_filter.mpr ⟨List.mem_append_right _ (List.mem_append_left _ (List.mem_of_getElem? (l := tables_1_1) (i := 13) rfl)), rfl⟩
theorem mw_660 : (.code yJ1_charAt_3b067 cJ1_charAt_3b067 2 (some .char) : Cond) ∈ lw_gt := List.mem_filter.mpr ⟨List.mem_append_right _ (List.mem_append_left _ (List.mem_of_getElem? (l := tables_1_1) (i := 235) rfl)), rfl⟩
theorem mw_661 : (.methodLink RX10 31 yJ0_length_8abf5 : Cond) ∈ lw_gt := List.mem_filter.mpr ⟨List.mem_append_right _ (List.mem_append_left _ (List.mem_of_getElem? (l := tables_1_1) (i := 215) rfl)), rfl⟩
theorem mw_662 : (.instanceMethod yJ0_length_8abf5 : Cond) ∈ lw_gt := List.mem_filter.mpr ⟨List.mem_append_right _ (List.mem_append_left _ (List.mem_of_getElem? (l := tables_1_1) (i := 216) rfl)), rfl⟩
theorem mw_663 : (.selects RJ0 yJ0_length_8abf5 yJ0_length_8abf5 : Cond) ∈ lw_gt := List.mem_filter.mpr ⟨List.mem_append_right _ (List.mem_append_left _ (List.mem_of_getElem? (l := tables_1_1) (i := 217) rfl)), rfl⟩
theorem mw_664 : (.code yJ0_length_8abf5 cJ0_length_8abf5 1 (some .int) : Cond) ∈ lw_gt := List.mem_filter.mpr ⟨List.mem_append_right _ (List.mem_append_left _ (List.mem_of_getElem? (l := tables_1_1) (i := 218) rfl)), rfl⟩
theorem mw_665 : (.methodLink RX10 37 yJ0_charAt_5068e : Cond) ∈ lw_gt := List.mem_filter.mpr ⟨List.mem_append_right _ (List.mem_append_left _ (List.mem_of_getElem? (l := tables_1_1) (i := 225) rfl)), rfl⟩
theorem mw_666 : (.instanceMethod yJ0_charAt_5068e : Cond) ∈ lw_gt := List.mem_filter.mpr ⟨List.mem_append_right _ (List.mem_append_left _ (List.mem_of_getElem? (l := tables_1_1) (i := 226) rfl)), rfl⟩
theorem mw_667 : (.selects RJ0 yJ0_charAt_5068e yJ0_charAt_5068e : Cond) ∈ lw_gt := List.mem_filter.mpr ⟨List.mem_append_right _ (List.mem_append_left _ (List.mem_of_getElem? (l := tables_1_1) (i := 227) rfl)), rfl⟩
theorem mw_668 : (.code yJ0_charAt_5068e cJ0_charAt_5068e 2 (some .char) : Cond) ∈ lw_gt := List.mem_filter.mpr ⟨List.mem_append_right _ (List.mem_append_left _ (List.mem_of_getElem? (l := tables_1_1) (i := 228) rfl)), rfl⟩
theorem mw_669 : (.constantLong RX10 43 (128) : Cond) ∈ lw_gt := List.mem_filter.mpr ⟨List.mem_append_right _ (List.mem_append_right _ (List.mem_append_left _ (List.mem_of_getElem? (l := tables_1_2) (i := 23) rfl))), rfl⟩
theorem mw_670 : (.methodLink RX10 1 objectInit : Cond) ∈ lw_gt := List.mem_filter.mpr ⟨List.mem_append_right _ (List.mem_append_left _ (List.mem_of_getElem? (l := tables_1_1) (i := 209) rfl)), rfl⟩
theorem mw_671 : (.methodLink RX10 17 yX10_learn : Cond) ∈ lw_gt := List.mem_filter.mpr ⟨List.mem_append_right _ (List.mem_append_left _ (List.mem_of_getElem? (l := tables_1_1) (i := 211) rfl)), rfl⟩
theorem mw_672 : (.instanceMethod yX10_learn : Cond) ∈ lw_gt := List.mem_filter.mpr ⟨List.mem_append_right _ (List.mem_append_left _ (List.mem_of_getElem? (l := tables_1_1) (i := 213) rfl)), rfl⟩
theorem mw_673 : (.selects RX10 yX10_learn yX10_learn : Cond) ∈ lw_gt := List.mem_filter.mpr ⟨List.mem_append_left _ (List.mem_of_getElem? (l := k2_sels lw_privs) (i := 0) rfl), rfl⟩
theorem mw_674 : (.code yX10_learn cX10_learn 6 none : Cond) ∈ lw_gt := List.mem_filter.mpr ⟨List.mem_append_right _ (List.mem_append_left _ (List.mem_of_getElem? (l := tables_1_1) (i := 214) rfl)), rfl⟩
theorem mw_675 : (.methodLink RX3 3 objectInit : Cond) ∈ lw_gt := List.mem_filter.mpr ⟨List.mem_append_right _ (List.mem_append_left _ (List.mem_of_getElem? (l := tables_1_1) (i := 203) rfl)), rfl⟩
theorem mw_676 : (.classLink RX3 23 RX10 : Cond) ∈ lw_gt := List.mem_filter.mpr ⟨List.mem_append_right _ (List.mem_append_left _ (List.mem_of_getElem? (l := tables_1_1) (i := 204) rfl)), rfl⟩
theorem mw_677 : (.instantiable RX10 1 : Cond) ∈ lw_gt := List.mem_filter.mpr ⟨List.mem_append_right _ (List.mem_append_left _ (List.mem_of_getElem? (l := tables_1_1) (i := 205) rfl)), rfl⟩
theorem mw_678 : (.code yX10_init cX10_init 1 none : Cond) ∈ lw_gt := List.mem_filter.mpr ⟨List.mem_append_right _ (List.mem_append_left _ (List.mem_of_getElem? (l := tables_1_1) (i := 208) rfl)), rfl⟩
theorem mw_679 : (.methodLink RX3 25 yX10_init : Cond) ∈ lw_gt := List.mem_filter.mpr ⟨List.mem_append_right _ (List.mem_append_left _ (List.mem_of_getElem? (l := tables_1_1) (i := 206) rfl)), rfl⟩
theorem mw_680 : (.instanceMethod yX10_init : Cond) ∈ lw_gt := List.mem_filter.mpr ⟨List.mem_append_right _ (List.mem_append_left _ (List.mem_of_getElem? (l := tables_1_1) (i := 207) rfl)), rfl⟩
theorem mw_681 : (.methodLink RX11 1 objectInit : Cond) ∈ lw_gt := List.mem_filter.mpr ⟨List.mem_append_right _ (List.mem_append_left _ (List.mem_of_getElem? (l := tables_1_1) (i := 24) rfl)), rfl⟩
theorem mw_682 : (.classLink RX11 7 RX9 : Cond) ∈ lw_gt := List.mem_filter.mpr ⟨List.mem_append_right _ (List.mem_append_left _ (List.mem_of_getElem? (l := tables_1_1) (i := 27) rfl)), rfl⟩
theorem mw_683 : (.instantiable RX9 5 : Cond) ∈ lw_gt := List.mem_filter.mpr ⟨List.mem_append_right _ (List.mem_append_left _ (List.mem_of_getElem? (l := tables_1_1) (i := 28) rfl)), rfl⟩
theorem mw_684 : (.code yX9_init cX9_init 1 none : Cond) ∈ lw_gt := List.mem_filter.mpr ⟨List.mem_append_right _ (List.mem_append_left _ (List.mem_of_getElem? (l := tables_1_1) (i := 31) rfl)), rfl⟩
theorem mw_685 : (.methodLink RX11 9 yX9_init : Cond) ∈ lw_gt := List.mem_filter.mpr ⟨List.mem_append_right _ (List.mem_append_left _ (List.mem_of_getElem? (l := tables_1_1) (i := 29) rfl)), rfl⟩
theorem mw_686 : (.instanceMethod yX9_init : Cond) ∈ lw_gt := List.mem_filter.mpr ⟨List.mem_append_right _ (List.mem_append_left _ (List.mem_of_getElem? (l := tables_1_1) (i := 30) rfl)), rfl⟩
theorem mw_687 : (.classLink RX11 16 RX7 : Cond) ∈ lw_gt := List.mem_filter.mpr ⟨List.mem_append_right _ (List.mem_append_left _ (List.mem_of_getElem? (l := tables_1_1) (i := 50) rfl)), rfl⟩
theorem mw_688 : (.instantiable RX7 2 : Cond) ∈ lw_gt := List.mem_filter.mpr ⟨List.mem_append_right _ (List.mem_append_left _ (List.mem_of_getElem? (l := tables_1_1) (i := 51) rfl)), rfl⟩
theorem mw_689 : (.code yX7_init cX7_init 1 none : Cond) ∈ lw_gt := List.mem_filter.mpr ⟨List.mem_append_right _ (List.mem_append_left _ (List.mem_of_getElem? (l := tables_1_1) (i := 54) rfl)), rfl⟩
theorem mw_690 : (.methodLink RX11 18 yX7_init : Cond) ∈ lw_gt := List.mem_filter.mpr ⟨List.mem_append_right _ (List.mem_append_left _ (List.mem_of_getElem? (l := tables_1_1) (i := 52) rfl)), rfl⟩
theorem mw_691 : (.instanceMethod yX7_init : Cond) ∈ lw_gt := List.mem_filter.mpr ⟨List.mem_append_right _ (List.mem_append_left _ (List.mem_of_getElem? (l := tables_1_1) (i := 53) rfl)), rfl⟩
theorem mw_692 : (.classLink RX11 23 RX8 : Cond) ∈ lw_gt := List.mem_filter.mpr ⟨List.mem_append_right _ (List.mem_append_left _ (List.mem_of_getElem? (l := tables_1_1) (i := 64) rfl)), rfl⟩
theorem mw_693 : (.instantiable RX8 2 : Cond) ∈ lw_gt := List.mem_filter.mpr ⟨List.mem_append_right _ (List.mem_append_left _ (List.mem_of_getElem? (l := tables_1_1) (i := 65) rfl)), rfl⟩
theorem mw_694 : (.code yX8_init cX8_init 1 none : Cond) ∈ lw_gt := List.mem_filter.mpr ⟨List.mem_append_right _ (List.mem_append_left _ (List.mem_of_getElem? (l := tables_1_1) (i := 68) rfl)), rfl⟩
theorem mw_695 : (.methodLink RX11 25 yX8_init : Cond) ∈ lw_gt := List.mem_filter.mpr ⟨List.mem_append_right _ (List.mem_append_left _ (List.mem_of_getElem? (l := tables_1_1) (i := 66) rfl)), rfl⟩
theorem mw_696 : (.instanceMethod yX8_init : Cond) ∈ lw_gt := List.mem_filter.mpr ⟨List.mem_append_right _ (List.mem_append_left _ (List.mem_of_getElem? (l := tables_1_1) (i := 67) rfl)), rfl⟩
theorem mw_697 : (.classLink RX11 30 RX1 : Cond) ∈ lw_gt := List.mem_filter.mpr ⟨List.mem_append_right _ (List.mem_append_left _ (List.mem_of_getElem? (l := tables_1_1) (i := 77) rfl)), rfl⟩
theorem mw_698 : (.instantiable RX1 6 : Cond) ∈ lw_gt := List.mem_filter.mpr ⟨List.mem_append_right _ (List.mem_append_left _ (List.mem_of_getElem? (l := tables_1_1) (i := 78) rfl)), rfl⟩
theorem mw_699 : (.code yX1_init cX1_init 1 none : Cond) ∈ lw_gt := List.mem_filter.mpr ⟨List.mem_append_right _ (List.mem_append_left _ (List.mem_of_getElem? (l := tables_1_1) (i := 81) rfl)), rfl⟩
theorem mw_700 : (.methodLink RX11 32 yX1_init : Cond) ∈ lw_gt := List.mem_filter.mpr ⟨List.mem_append_right _ (List.mem_append_left _ (List.mem_of_getElem? (l := tables_1_1) (i := 79) rfl)), rfl⟩
theorem mw_701 : (.instanceMethod yX1_init : Cond) ∈ lw_gt := List.mem_filter.mpr ⟨List.mem_append_right _ (List.mem_append_left _ (List.mem_of_getElem? (l := tables_1_1) (i := 80) rfl)), rfl⟩
theorem mw_702 : (.classLink RX11 37 RX5 : Cond) ∈ lw_gt := List.mem_filter.mpr ⟨List.mem_append_right _ (List.mem_append_left _ (List.mem_of_getElem? (l := tables_1_1) (i := 135) rfl)), rfl⟩
theorem mw_703 : (.instantiable RX5 12 : Cond) ∈ lw_gt := List.mem_filter.mpr ⟨List.mem_append_right _ (List.mem_append_left _ (List.mem_of_getElem? (l := tables_1_1) (i := 136) rfl)), rfl⟩
theorem mw_704 : (.code yX5_init cX5_init 4 none : Cond) ∈ lw_gt := List.mem_filter.mpr ⟨List.mem_append_right _ (List.mem_append_left _ (List.mem_of_getElem? (l := tables_1_1) (i := 139) rfl)), rfl⟩
theorem mw_705 : (.methodLink RX11 39 yX5_init : Cond) ∈ lw_gt := List.mem_filter.mpr ⟨List.mem_append_right _ (List.mem_append_left _ (List.mem_of_getElem? (l := tables_1_1) (i := 137) rfl)), rfl⟩
theorem mw_706 : (.instanceMethod yX5_init : Cond) ∈ lw_gt := List.mem_filter.mpr ⟨List.mem_append_right _ (List.mem_append_left _ (List.mem_of_getElem? (l := tables_1_1) (i := 138) rfl)), rfl⟩
theorem mw_707 : (.classLink RX11 46 RX3 : Cond) ∈ lw_gt := List.mem_filter.mpr ⟨List.mem_append_right _ (List.mem_append_left _ (List.mem_of_getElem? (l := tables_1_1) (i := 198) rfl)), rfl⟩
theorem mw_708 : (.instantiable RX3 5 : Cond) ∈ lw_gt := List.mem_filter.mpr ⟨List.mem_append_right _ (List.mem_append_left _ (List.mem_of_getElem? (l := tables_1_1) (i := 199) rfl)), rfl⟩
theorem mw_709 : (.code yX3_init cX3_init 4 none : Cond) ∈ lw_gt := List.mem_filter.mpr ⟨List.mem_append_right _ (List.mem_append_left _ (List.mem_of_getElem? (l := tables_1_1) (i := 202) rfl)), rfl⟩
theorem mw_710 : (.methodLink RX11 48 yX3_init : Cond) ∈ lw_gt := List.mem_filter.mpr ⟨List.mem_append_right _ (List.mem_append_left _ (List.mem_of_getElem? (l := tables_1_1) (i := 200) rfl)), rfl⟩
theorem mw_711 : (.instanceMethod yX3_init : Cond) ∈ lw_gt := List.mem_filter.mpr ⟨List.mem_append_right _ (List.mem_append_left _ (List.mem_of_getElem? (l := tables_1_1) (i := 201) rfl)), rfl⟩
/-! String constants: their bytes; the members of String that are called -/
def lenS : List Nat := [42, 50, 23, 8, 66, 10]
def bytS : List (List Int32) := [[100, 117, 112, 32, 100, 114, 111, 112, 32, 115, 119, 97, 112, 32, 111, 118, 101, 114, 32, 114, 111, 116, 32, 110, 105, 112, 32, 116, 117, 99, 107, 32, 63, 100, 117, 112, 32, 100, 101, 112, 116, 104], [43, 32, 45, 32, 42, 32, 47, 32, 109, 111, 100, 32, 109, 105, 110, 32, 109, 97, 120, 32, 97, 110, 100, 32, 111, 114, 32, 120, 111, 114, 32, 108, 115, 104, 105, 102, 116, 32, 114, 115, 104, 105, 102, 116, 32, 61, 32, 60, 32, 62], [110, 101, 103, 97, 116, 101, 32, 97, 98, 115, 32, 105, 110, 118, 101, 114, 116, 32, 48, 61, 32, 48, 60], [64, 32, 33, 32, 43, 33, 32, 46], [105, 102, 32, 101, 108, 115, 101, 32, 116, 104, 101, 110, 32, 98, 101, 103, 105, 110, 32, 117, 110, 116, 105, 108, 32, 97, 103, 97, 105, 110, 32, 119, 104, 105, 108, 101, 32, 114, 101, 112, 101, 97, 116, 32, 100, 111, 32, 108, 111, 111, 112, 32, 105, 32, 101, 120, 105, 116, 32, 114, 101, 99, 117, 114, 115, 101], [58, 32, 59, 32, 102, 111, 114, 103, 101, 116]]
def SX (adK adV : Nat → Nat) (A : Nat → Prop) (U : State) (H : Heap) : Prop := va_Z "java/lang/String" "COMPACT_STRINGS" "Z" (.int 1) A U H ∧ va_Zq "jdk/internal/util/Preconditions" "SIOOBE_FORMATTER" "Ljava/util/function/BiFunction;" A U H ∧ vk_S 6 lenS bytS adK adV A U H
theorem SX.moved {adK adV : Nat → Nat} {A : Nat → Prop} {u U : State} {H : Heap} (hvm : u.vm.Alike U.vm) (h : SX adK adV A u H) : SX adK adV A U H := ⟨h.1.moved hvm, h.2.1.moved hvm, h.2.2.moved hvm⟩
theorem SX.kept {adK adV : Nat → Nat} {A : Nat → Prop} {U : State} {H H1 : Heap} (h : SX adK adV A U H) (hq : ∀ a : Nat, a < H.size → ¬ A a → H1[a]? = H[a]?) : SX adK adV A U H1 := ⟨h.1.kept hq, h.2.1.kept hq, h.2.2.kept hq⟩
theorem SX.narrow {adK adV : Nat → Nat} {A B : Nat → Prop} {U : State} {H : Heap} (h : SX adK adV A U H) (hAB : ∀ q, B q → A q) : SX adK adV B U H := ⟨h.1.narrow hAB, h.2.1.narrow hAB, h.2.2.narrow hAB⟩
theorem lenS_ok : ∀ i, i < 6 → lenS.getD i 0 = (bytS.getD i []).length ∧ lenS.getD i 0 < 100 := by decide +kernel
abbrev rmJ0_coder_7d493 : Room := { frames := 0, cells := 0, slots := 0, locals := 0 }
set_option maxHeartbeats 4000000 in
set_option maxRecDepth 100000 in
theorem ctJ0_coder_7d493 (l : Launch) (adK adV : Nat → Nat) (i : Nat) (hi : i < 6) (sz : Nat) : Met l yJ0_coder_7d493 wsJ0_coder_7d493 rmJ0_coder_7d493 (va_Pc [.ref (adK i)] (fun U => U.heap.size = sz ∧ SX adK adV (va_A [] sz) U U.heap)) (va_Qi (fun r (_ : Unit) => r = 0) (fun _ t => True) (va_A [] sz)) 0 0 (va_A [] sz) := by
  refine Met.ofW (cc := cJ0_coder_7d493) (maxL := 1) (ret := (some .byte)) (by decide) rfl ?_
  intro p e s m args below meth c s₁ B hml hv
  obtain ⟨hargs, hsz, hX⟩ := hv
  have hx := B.exec
  have hb := B.bytes
  have hr := B.returns
  have hts := atoms_spec (ws := wsJ0_coder_7d493) B.pre
  have hown : s.vm.findClass RJ0 = some m.cls := findClass_of_methodNamed B.named
  have hlocks := B.notSynchronized
  subst hsz
  generalize hAe : va_A [] s.heap.size = A at hX ⊢
  have hA : ∀ q : Nat, s.heap.size ≤ q → A q := fun q h => by rw [← hAe]; exact Or.inr h
  have hS : va_S A s.heap s.heap [] := va_S.rf
  have hD : va_D A [] := ⟨fun i j p q h => by simp at h, fun k q h => by simp at h⟩
  have hl := lv_entry ([.ref (adK i)]) (n := 1) (Nat.le_of_ble_eq_true rfl)
  have hfr : entryFrame m args 1 = entryFrame m ([.ref (adK i)] : List Value).toArray 1 := by rw [hargs]
  rw [hfr, lg_entry_eq]
  generalize (lg_sl ([.ref (adK i)]) ++ List.replicate (1 - (lg_sl ([.ref (adK i)])).length) Slot.unset).toArray = ls at hl ⊢
  have hl : lv_has ls 1 [(0, .ref (adK i))] := hl
  refine va_gets hx hb hX.1 hS hown (hts _ (List.mem_cons_of_mem _ mw_637)) (fun _ h9 => h9) dJ0_coder_7d493_0 ?_
  refine lv_if_eq (tgt := 13) hx hb dJ0_coder_7d493_3 (by decide) (fun c1 => absurd c1 (by decide)) (fun c1 => ?_)
  refine lv_aload_n hx hb dJ0_coder_7d493_6 rfl (lv_at hl 0 rfl) ?_
  refine vk_getf hx hb (hX.2.2.1 i hi).2.1 hS hown (hts _ (List.mem_cons_of_mem _ mw_638)) (fun _ h9 => h9) dJ0_coder_7d493_7 ?_
  refine lv_goto (tgt := 14) hx hb dJ0_coder_7d493_10 (by decide) ?_
  exact W.zret (ty := .byte) hx hb hr rfl (fun t ht hW => ⟨⟨_, (), rfl, rfl, trivial⟩, hS.F ht⟩) hS.2.2 dJ0_coder_7d493_14
abbrev rmJ0_isLatin1_aae02 : Room := { frames := 0, cells := 0, slots := 0, locals := 0 }
set_option maxHeartbeats 4000000 in
set_option maxRecDepth 100000 in
theorem ctJ0_isLatin1_aae02 (l : Launch) (adK adV : Nat → Nat) (i : Nat) (hi : i < 6) (sz : Nat) : Met l yJ0_isLatin1_aae02 wsJ0_isLatin1_aae02 rmJ0_isLatin1_aae02 (va_Pc [.ref (adK i)] (fun U => U.heap.size = sz ∧ SX adK adV (va_A [] sz) U U.heap)) (va_Qi (fun r (_ : Unit) => r = 1) (fun _ t => True) (va_A [] sz)) 0 0 (va_A [] sz) := by
  refine Met.ofW (cc := cJ0_isLatin1_aae02) (maxL := 1) (ret := (some .boolean)) (by decide) rfl ?_
  intro p e s m args below meth c s₁ B hml hv
  obtain ⟨hargs, hsz, hX⟩ := hv
  have hx := B.exec
  have hb := B.bytes
  have hr := B.returns
  have hts := atoms_spec (ws := wsJ0_isLatin1_aae02) B.pre
  have hown : s.vm.findClass RJ0 = some m.cls := findClass_of_methodNamed B.named
  have hlocks := B.notSynchronized
  subst hsz
  generalize hAe : va_A [] s.heap.size = A at hX ⊢
  have hA : ∀ q : Nat, s.heap.size ≤ q → A q := fun q h => by rw [← hAe]; exact Or.inr h
  have hS : va_S A s.heap s.heap [] := va_S.rf
  have hD : va_D A [] := ⟨fun i j p q h => by simp at h, fun k q h => by simp at h⟩
  have hl := lv_entry ([.ref (adK i)]) (n := 1) (Nat.le_of_ble_eq_true rfl)
  have hfr : entryFrame m args 1 = entryFrame m ([.ref (adK i)] : List Value).toArray 1 := by rw [hargs]
  rw [hfr, lg_entry_eq]
  generalize (lg_sl ([.ref (adK i)]) ++ List.replicate (1 - (lg_sl ([.ref (adK i)])).length) Slot.unset).toArray = ls at hl ⊢
  have hl : lv_has ls 1 [(0, .ref (adK i))] := hl
  refine va_gets hx hb hX.1 hS hown (hts _ (List.mem_cons_of_mem _ mw_637)) (fun _ h9 => h9) dJ0_isLatin1_aae02_0 ?_
  refine lv_if_eq (tgt := 17) hx hb dJ0_isLatin1_aae02_3 (by decide) (fun c1 => absurd c1 (by decide)) (fun c1 => ?_)
  refine lv_aload_n hx hb dJ0_isLatin1_aae02_6 rfl (lv_at hl 0 rfl) ?_
  refine vk_getf hx hb (hX.2.2.1 i hi).2.1 hS hown (hts _ (List.mem_cons_of_mem _ mw_638)) (fun _ h9 => h9) dJ0_isLatin1_aae02_7 ?_
  refine lv_if_ne (tgt := 17) hx hb dJ0_isLatin1_aae02_10 (by decide) (fun c1 => absurd rfl c1) (fun c1 => ?_)
  refine lv_iconst (v := 1) hx hb dJ0_isLatin1_aae02_13 (by decide) ?_
  refine lv_goto (tgt := 18) hx hb dJ0_isLatin1_aae02_14 (by decide) ?_
  exact W.zret (ty := .boolean) hx hb hr rfl (fun t ht hW => ⟨⟨_, (), rfl, rfl, trivial⟩, hS.F ht⟩) hS.2.2 dJ0_isLatin1_aae02_18
abbrev rmJ0_length_8abf5 : Room := { frames := 1, cells := 0, slots := 0, locals := 20 }
set_option maxHeartbeats 4000000 in
set_option maxRecDepth 100000 in
theorem ctJ0_length_8abf5 (l : Launch) (adK adV : Nat → Nat) (i : Nat) (hi : i < 6) (sz : Nat) : Met l yJ0_length_8abf5 wsJ0_length_8abf5 rmJ0_length_8abf5 (va_Pc [.ref (adK i)] (fun U => U.heap.size = sz ∧ SX adK adV (va_A [] sz) U U.heap)) (va_Qi (fun r (_ : Unit) => r = nI (lenS.getD i 0)) (fun _ t => True) (va_A [] sz)) 0 0 (va_A [] sz) := by
  refine Met.ofW (cc := cJ0_length_8abf5) (maxL := 1) (ret := (some .int)) (by decide) rfl ?_
  intro p e s m args below meth c s₁ B hml hv
  obtain ⟨hargs, hsz, hX⟩ := hv
  have hx := B.exec
  have hb := B.bytes
  have hr := B.returns
  have hts := atoms_spec (ws := wsJ0_length_8abf5) B.pre
  have hown : s.vm.findClass RJ0 = some m.cls := findClass_of_methodNamed B.named
  have hlocks := B.notSynchronized
  subst hsz
  generalize hAe : va_A [] s.heap.size = A at hX ⊢
  have hA : ∀ q : Nat, s.heap.size ≤ q → A q := fun q h => by rw [← hAe]; exact Or.inr h
  have hS : va_S A s.heap s.heap [] := va_S.rf
  have hD : va_D A [] := ⟨fun i j p q h => by simp at h, fun k q h => by simp at h⟩
  have hl := lv_entry ([.ref (adK i)]) (n := 1) (Nat.le_of_ble_eq_true rfl)
  have hfr : entryFrame m args 1 = entryFrame m ([.ref (adK i)] : List Value).toArray 1 := by rw [hargs]
  rw [hfr, lg_entry_eq]
  generalize (lg_sl ([.ref (adK i)]) ++ List.replicate (1 - (lg_sl ([.ref (adK i)])).length) Slot.unset).toArray = ls at hl ⊢
  have hl : lv_has ls 1 [(0, .ref (adK i))] := hl
  refine lv_aload_n hx hb dJ0_length_8abf5_0 rfl (lv_at hl 0 rfl) ?_
  refine vk_getf hx hb (hX.2.2.1 i hi).2.2.1 hS hown (hts _ (List.mem_cons_of_mem _ mw_639)) (fun _ h9 => h9) dJ0_length_8abf5_1 ?_
  refine va_tlen hx hb (hX.2.2.1 i hi).2.2.2 hS (v := nI (lenS.getD i 0)) rfl dJ0_length_8abf5_4 ?_
  refine lv_aload_n hx hb dJ0_length_8abf5_5 rfl (lv_at hl 0 rfl) ?_
  have hFc := va_free (wc := []) hD hS hA [] rfl
  refine va_calli (va_runV (As := []) (rest := [.int (nI (lenS.getD i 0))]) ⟨hx, hb, hml, hown, hts⟩ (ctJ0_coder_7d493 l adK adV i hi _) (cwV 0 hts (gV_ hc_ mw_640 mw_641 mw_642 mw_643 mw_644) rfl rfl rfl (by decide +kernel) ⟨Nat.le_of_ble_eq_true rfl, Nat.le_of_ble_eq_true rfl⟩) ⟨fun a U g mk q => by obtain ⟨q0, q1, qX⟩ := q; exact ⟨q0, q1, qX.moved (u := U) (U := U.calling g mk a) (Vm.Alike.refl U.vm)⟩, vk_recv hX.2.2 hi hS, fun U hU hW => ⟨rfl, by rw [hU], by rw [hU]; exact ((hX.kept hS.2.1).narrow hFc).moved hW.alike⟩⟩ rfl rfl hl.1 rfl (lv_room (Nat.le_of_ble_eq_true rfl)) dJ0_length_8abf5_6 ⟨Nat.zero_le _, Nat.zero_le _⟩) hS (fun q _ h => hFc q h) hFc (fun r u t H1 locs ht hvm hw hB hz1 hk1 hS => ?_)
  subst hw
  refine lv_ishr hx hb dJ0_length_8abf5_9 ?_
  exact W.iret hx hb hr (fun t ht hW => ⟨⟨_, (), rfl, sc_shr0 (by have := (lenS_ok i hi).2; omega), trivial⟩, hS.F ht⟩) hS.2.2 dJ0_length_8abf5_10
abbrev rmJ3_checkIndex_8e157a : Room := { frames := 0, cells := 0, slots := 0, locals := 0 }
set_option maxHeartbeats 4000000 in
set_option maxRecDepth 100000 in
theorem ctJ3_checkIndex_8e157a (l : Launch) (j n : Int32) (h0 : ¬ j < 0) (h1 : j < n) (sz : Nat) : Met l yJ3_checkIndex_8e157 wsJ3_checkIndex_8e157 rmJ3_checkIndex_8e157a (va_Pc [.int j, .int n, .null] (fun U => U.heap.size = sz ∧ True)) (va_Qi (fun r (_ : Unit) => r = j) (fun _ t => True) (va_A [] sz)) 0 0 (va_A [] sz) := by
  refine Met.ofW (cc := cJ3_checkIndex_8e157) (maxL := 3) (ret := (some .int)) (by decide) rfl ?_
  intro p e s m args below meth c s₁ B hml hv
  obtain ⟨hargs, hsz, hX⟩ := hv
  have hx := B.exec
  have hb := B.bytes
  have hr := B.returns
  have hts := atoms_spec (ws := wsJ3_checkIndex_8e157) B.pre
  have hown : s.vm.findClass RJ3 = some m.cls := findClass_of_methodNamed B.named
  have hlocks := B.notSynchronized
  subst hsz
  generalize hAe : va_A [] s.heap.size = A at ⊢
  have hA : ∀ q : Nat, s.heap.size ≤ q → A q := fun q h => by rw [← hAe]; exact Or.inr h
  have hS : va_S A s.heap s.heap [] := va_S.rf
  have hD : va_D A [] := ⟨fun i j p q h => by simp at h, fun k q h => by simp at h⟩
  have hl := lv_entry ([.int j, .int n, .null]) (n := 3) (Nat.le_of_ble_eq_true rfl)
  have hfr : entryFrame m args 3 = entryFrame m ([.int j, .int n, .null] : List Value).toArray 3 := by rw [hargs]
  rw [hfr, lg_entry_eq]
  generalize (lg_sl ([.int j, .int n, .null]) ++ List.replicate (3 - (lg_sl ([.int j, .int n, .null])).length) Slot.unset).toArray = ls at hl ⊢
  have hl : lv_has ls 3 [(0, .int j), (1, .int n), (2, .null)] := hl
  refine lv_iload_n hx hb dJ3_checkIndex_8e157_0 rfl (lv_at hl 0 rfl) ?_
  refine lv_if_lt (tgt := 9) hx hb dJ3_checkIndex_8e157_1 (by decide) (fun c1 => absurd c1 h0) (fun c1 => ?_)
  refine lv_iload_n hx hb dJ3_checkIndex_8e157_4 rfl (lv_at hl 0 rfl) ?_
  refine lv_iload_n hx hb dJ3_checkIndex_8e157_5 rfl (lv_at hl 1 rfl) ?_
  refine lv_icmp_lt (tgt := 16) hx hb dJ3_checkIndex_8e157_6 (by decide) (fun c1 => ?_) (fun c1 => absurd h1 c1)
  refine lv_iload_n hx hb dJ3_checkIndex_8e157_16 rfl (lv_at hl 0 rfl) ?_
  exact W.iret hx hb hr (fun t ht hW => ⟨⟨_, (), rfl, rfl, trivial⟩, hS.F ht⟩) hS.2.2 dJ3_checkIndex_8e157_17
abbrev rmJ3_checkIndex_8e157b : Room := { frames := 0, cells := 0, slots := 0, locals := 0 }
set_option maxHeartbeats 4000000 in
set_option maxRecDepth 100000 in
theorem ctJ3_checkIndex_8e157b (l : Launch) (j n : Int32) (tf : Nat) (h0 : ¬ j < 0) (h1 : j < n) (sz : Nat) : Met l yJ3_checkIndex_8e157 wsJ3_checkIndex_8e157 rmJ3_checkIndex_8e157b (va_Pc [.int j, .int n, .ref tf] (fun U => U.heap.size = sz ∧ True)) (va_Qi (fun r (_ : Unit) => r = j) (fun _ t => True) (va_A [] sz)) 0 0 (va_A [] sz) := by
  refine Met.ofW (cc := cJ3_checkIndex_8e157) (maxL := 3) (ret := (some .int)) (by decide) rfl ?_
  intro p e s m args below meth c s₁ B hml hv
  obtain ⟨hargs, hsz, hX⟩ := hv
  have hx := B.exec
  have hb := B.bytes
  have hr := B.returns
  have hts := atoms_spec (ws := wsJ3_checkIndex_8e157) B.pre
  have hown : s.vm.findClass RJ3 = some m.cls := findClass_of_methodNamed B.named
  have hlocks := B.notSynchronized
  subst hsz
  generalize hAe : va_A [] s.heap.size = A at ⊢
  have hA : ∀ q : Nat, s.heap.size ≤ q → A q := fun q h => by rw [← hAe]; exact Or.inr h
  have hS : va_S A s.heap s.heap [] := va_S.rf
  have hD : va_D A [] := ⟨fun i j p q h => by simp at h, fun k q h => by simp at h⟩
  have hl := lv_entry ([.int j, .int n, .ref tf]) (n := 3) (Nat.le_of_ble_eq_true rfl)
  have hfr : entryFrame m args 3 = entryFrame m ([.int j, .int n, .ref tf] : List Value).toArray 3 := by rw [hargs]
  rw [hfr, lg_entry_eq]
  generalize (lg_sl ([.int j, .int n, .ref tf]) ++ List.replicate (3 - (lg_sl ([.int j, .int n, .ref tf])).length) Slot.unset).toArray = ls at hl ⊢
  have hl : lv_has ls 3 [(0, .int j), (1, .int n), (2, .ref tf)] := hl
  refine lv_iload_n hx hb dJ3_checkIndex_8e157_0 rfl (lv_at hl 0 rfl) ?_
  refine lv_if_lt (tgt := 9) hx hb dJ3_checkIndex_8e157_1 (by decide) (fun c1 => absurd c1 h0) (fun c1 => ?_)
  refine lv_iload_n hx hb dJ3_checkIndex_8e157_4 rfl (lv_at hl 0 rfl) ?_
  refine lv_iload_n hx hb dJ3_checkIndex_8e157_5 rfl (lv_at hl 1 rfl) ?_
  refine lv_icmp_lt (tgt := 16) hx hb dJ3_checkIndex_8e157_6 (by decide) (fun c1 => ?_) (fun c1 => absurd h1 c1)
  refine lv_iload_n hx hb dJ3_checkIndex_8e157_16 rfl (lv_at hl 0 rfl) ?_
  exact W.iret hx hb hr (fun t ht hW => ⟨⟨_, (), rfl, rfl, trivial⟩, hS.F ht⟩) hS.2.2 dJ3_checkIndex_8e157_17
abbrev rmJ0_checkIndex_df160 : Room := { frames := 1, cells := 0, slots := 0, locals := 22 }
set_option maxHeartbeats 4000000 in
set_option maxRecDepth 100000 in
theorem ctJ0_checkIndex_df160 (l : Launch) (adK adV : Nat → Nat) (j n : Int32) (h0 : ¬ j < 0) (h1 : j < n) (sz : Nat) : Met l yJ0_checkIndex_df160 wsJ0_checkIndex_df160 rmJ0_checkIndex_df160 (va_Pc [.int j, .int n] (fun U => U.heap.size = sz ∧ SX adK adV (va_A [] sz) U U.heap)) (va_Qv (fun (_ : Unit) => True) (fun _ t => True) (va_A [] sz)) 0 0 (va_A [] sz) := by
  refine Met.ofW (cc := cJ0_checkIndex_df160) (maxL := 2) (ret := none) (by decide) rfl ?_
  intro p e s m args below meth c s₁ B hml hv
  obtain ⟨hargs, hsz, hX⟩ := hv
  have hx := B.exec
  have hb := B.bytes
  have hr := B.returns
  have hts := atoms_spec (ws := wsJ0_checkIndex_df160) B.pre
  have hown : s.vm.findClass RJ0 = some m.cls := findClass_of_methodNamed B.named
  have hlocks := B.notSynchronized
  subst hsz
  generalize hAe : va_A [] s.heap.size = A at hX ⊢
  have hA : ∀ q : Nat, s.heap.size ≤ q → A q := fun q h => by rw [← hAe]; exact Or.inr h
  have hS : va_S A s.heap s.heap [] := va_S.rf
  have hD : va_D A [] := ⟨fun i j p q h => by simp at h, fun k q h => by simp at h⟩
  have hl := lv_entry ([.int j, .int n]) (n := 2) (Nat.le_of_ble_eq_true rfl)
  have hfr : entryFrame m args 2 = entryFrame m ([.int j, .int n] : List Value).toArray 2 := by rw [hargs]
  rw [hfr, lg_entry_eq]
  generalize (lg_sl ([.int j, .int n]) ++ List.replicate (2 - (lg_sl ([.int j, .int n])).length) Slot.unset).toArray = ls at hl ⊢
  have hl : lv_has ls 2 [(0, .int j), (1, .int n)] := hl
  refine lv_iload_n hx hb dJ0_checkIndex_df160_0 rfl (lv_at hl 0 rfl) ?_
  refine lv_iload_n hx hb dJ0_checkIndex_df160_1 rfl (lv_at hl 1 rfl) ?_
  have hFc := va_free (wc := []) hD hS hA [] rfl
  rcases hX.2.1 with hZ | ⟨tf, hZ⟩
  · refine va_gets hx hb hZ hS hown (hts _ (List.mem_cons_of_mem _ mw_645)) (fun _ h9 => h9) dJ0_checkIndex_df160_2 ?_
    refine va_calli (va_runS (As := [.int j, .int n, .null]) (rest := []) ⟨hx, hb, hml, hown, hts⟩ (ctJ3_checkIndex_8e157a l j n h0 h1 _) (va_cwS 3 hts (gS_ hc_ mw_646 mw_647 mw_648 mw_649) rfl rfl rfl (by decide +kernel) ⟨Nat.le_of_ble_eq_true rfl, Nat.le_of_ble_eq_true rfl⟩) ⟨fun a U g mk q => by obtain ⟨q0, q1, qX⟩ := q; exact ⟨q0, q1, qX⟩, fun U hU hW => ⟨rfl, by rw [hU], trivial⟩⟩ rfl rfl hl.1 rfl (lv_room (Nat.le_of_ble_eq_true rfl)) dJ0_checkIndex_df160_5 ⟨Nat.zero_le _, Nat.zero_le _⟩) hS (fun q _ h => hFc q h) hFc (fun r u t H1 locs ht hvm hw hB hz1 hk1 hS => ?_)
    refine lv_pop hx hb dJ0_checkIndex_df160_8 rfl ?_
    exact W.vret hx hb hr (fun t ht hW => ⟨⟨(), rfl, trivial, trivial⟩, hS.F ht⟩) hS.2.2 dJ0_checkIndex_df160_9
  · refine va_gets hx hb hZ hS hown (hts _ (List.mem_cons_of_mem _ mw_645)) (fun _ h9 => h9) dJ0_checkIndex_df160_2 ?_
    refine va_calli (va_runS (As := [.int j, .int n, .ref tf]) (rest := []) ⟨hx, hb, hml, hown, hts⟩ (ctJ3_checkIndex_8e157b l j n tf h0 h1 _) (va_cwS 3 hts (gS_ hc_ mw_646 mw_647 mw_648 mw_649) rfl rfl rfl (by decide +kernel) ⟨Nat.le_of_ble_eq_true rfl, Nat.le_of_ble_eq_true rfl⟩) ⟨fun a U g mk q => by obtain ⟨q0, q1, qX⟩ := q; exact ⟨q0, q1, qX⟩, fun U hU hW => ⟨rfl, by rw [hU], trivial⟩⟩ rfl rfl hl.1 rfl (lv_room (Nat.le_of_ble_eq_true rfl)) dJ0_checkIndex_df160_5 ⟨Nat.zero_le _, Nat.zero_le _⟩) hS (fun q _ h => hFc q h) hFc (fun r u t H1 locs ht hvm hw hB hz1 hk1 hS => ?_)
    refine lv_pop hx hb dJ0_checkIndex_df160_8 rfl ?_
    exact W.vret hx hb hr (fun t ht hW => ⟨⟨(), rfl, trivial, trivial⟩, hS.F ht⟩) hS.2.2 dJ0_checkIndex_df160_9
abbrev rmJ1_charAt_3b067 : Room := { frames := 2, cells := 0, slots := 0, locals := 43 }
set_option maxHeartbeats 4000000 in
set_option maxRecDepth 100000 in
theorem ctJ1_charAt_3b067 (l : Launch) (adK adV : Nat → Nat) (i : Nat) (hi : i < 6) (j : Int32) (hj : vp_in j (lenS.getD i 0)) (sz : Nat) : Met l yJ1_charAt_3b067 wsJ1_charAt_3b067 rmJ1_charAt_3b067 (va_Pc [.ref (adV i), .int j] (fun U => U.heap.size = sz ∧ SX adK adV (va_A [] sz) U U.heap)) (va_Qi (fun r (_ : Unit) => r = ((bytS.getD i []).getD j.toNatClampNeg 0 &&& 255)) (fun _ t => True) (va_A [] sz)) 0 0 (va_A [] sz) := by
  refine Met.ofW (cc := cJ1_charAt_3b067) (maxL := 2) (ret := (some .char)) (by decide) rfl ?_
  intro p e s m args below meth c s₁ B hml hv
  obtain ⟨hargs, hsz, hX⟩ := hv
  have hx := B.exec
  have hb := B.bytes
  have hr := B.returns
  have hts := atoms_spec (ws := wsJ1_charAt_3b067) B.pre
  have hown : s.vm.findClass RJ1 = some m.cls := findClass_of_methodNamed B.named
  have hlocks := B.notSynchronized
  subst hsz
  generalize hAe : va_A [] s.heap.size = A at hX ⊢
  have hA : ∀ q : Nat, s.heap.size ≤ q → A q := fun q h => by rw [← hAe]; exact Or.inr h
  have hS : va_S A s.heap s.heap [] := va_S.rf
  have hD : va_D A [] := ⟨fun i j p q h => by simp at h, fun k q h => by simp at h⟩
  have hl := lv_entry ([.ref (adV i), .int j]) (n := 2) (Nat.le_of_ble_eq_true rfl)
  have hfr : entryFrame m args 2 = entryFrame m ([.ref (adV i), .int j] : List Value).toArray 2 := by rw [hargs]
  rw [hfr, lg_entry_eq]
  generalize (lg_sl ([.ref (adV i), .int j]) ++ List.replicate (2 - (lg_sl ([.ref (adV i), .int j])).length) Slot.unset).toArray = ls at hl ⊢
  have hl : lv_has ls 2 [(0, .ref (adV i)), (1, .int j)] := hl
  have hl100 := (lenS_ok i hi).2
  obtain ⟨j0, hj0, rfl⟩ := vp_in_of hj (by omega)
  have h0 : ¬ nI j0 < 0 := nI_pos (by omega)
  have h1 : nI j0 < nI (lenS.getD i 0) := nI_lt hj0 (by omega)
  refine lv_iload_n hx hb dJ1_charAt_3b067_0 rfl (lv_at hl 1 rfl) ?_
  refine lv_aload_n hx hb dJ1_charAt_3b067_1 rfl (lv_at hl 0 rfl) ?_
  refine va_tlen hx hb (hX.2.2.1 i hi).2.2.2 hS (v := nI (lenS.getD i 0)) rfl dJ1_charAt_3b067_2 ?_
  have hFc := va_free (wc := []) hD hS hA [] rfl
  refine va_callv (va_runS (As := [.int (nI j0), .int (nI (lenS.getD i 0))]) (rest := []) ⟨hx, hb, hml, hown, hts⟩ (ctJ0_checkIndex_df160 l adK adV (nI j0) (nI (lenS.getD i 0)) h0 h1 _) (va_cwS 2 hts (gS_ hc_ mw_650 mw_651 mw_643 mw_652) rfl rfl rfl (by decide +kernel) ⟨Nat.le_of_ble_eq_true rfl, Nat.le_of_ble_eq_true rfl⟩) ⟨fun a U g mk q => by obtain ⟨q0, q1, qX⟩ := q; exact ⟨q0, q1, qX.moved (u := U) (U := U.calling g mk a) (Vm.Alike.refl U.vm)⟩, fun U hU hW => ⟨rfl, by rw [hU], by rw [hU]; exact ((hX.kept hS.2.1).narrow hFc).moved hW.alike⟩⟩ rfl rfl hl.1 rfl (lv_room (Nat.le_of_ble_eq_true rfl)) dJ1_charAt_3b067_3 ⟨Nat.zero_le _, Nat.zero_le _⟩) hS (fun q _ h => hFc q h) hFc (fun u t H1 locs ht hvm hw hB hz1 hk1 hS => ?_)
  refine lv_aload_n hx hb dJ1_charAt_3b067_6 rfl (lv_at hl 0 rfl) ?_
  refine lv_iload_n hx hb dJ1_charAt_3b067_7 rfl (lv_at hl 1 rfl) ?_
  refine va_tb hx hb (hX.2.2.1 i hi).2.2.2 hS hj (v := .int ((bytS.getD i []).getD (nI j0).toNatClampNeg 0)) rfl dJ1_charAt_3b067_8 ?_
  refine lv_sipush (v := 255) hx hb dJ1_charAt_3b067_9 (by decide) ?_
  refine lv_iand hx hb dJ1_charAt_3b067_12 ?_
  refine lv_i2c (v := (bytS.getD i []).getD (nI j0).toNatClampNeg 0 &&& 255) hx hb dJ1_charAt_3b067_13 (sc_c2 _) ?_
  exact W.zret (ty := .char) hx hb hr (sc_nar _) (fun t ht hW => ⟨⟨_, (), rfl, rfl, trivial⟩, hS.F ht⟩) hS.2.2 dJ1_charAt_3b067_14
abbrev rmJ0_charAt_5068e : Room := { frames := 3, cells := 0, slots := 0, locals := 64 }
set_option maxHeartbeats 4000000 in
set_option maxRecDepth 100000 in
theorem ctJ0_charAt_5068e (l : Launch) (adK adV : Nat → Nat) (i : Nat) (hi : i < 6) (j : Int32) (hj : vp_in j (lenS.getD i 0)) (sz : Nat) : Met l yJ0_charAt_5068e wsJ0_charAt_5068e rmJ0_charAt_5068e (va_Pc [.ref (adK i), .int j] (fun U => U.heap.size = sz ∧ SX adK adV (va_A [] sz) U U.heap)) (va_Qi (fun r (_ : Unit) => r = ((bytS.getD i []).getD j.toNatClampNeg 0 &&& 255)) (fun _ t => True) (va_A [] sz)) 0 0 (va_A [] sz) := by
  refine Met.ofW (cc := cJ0_charAt_5068e) (maxL := 2) (ret := (some .char)) (by decide) rfl ?_
  intro p e s m args below meth c s₁ B hml hv
  obtain ⟨hargs, hsz, hX⟩ := hv
  have hx := B.exec
  have hb := B.bytes
  have hr := B.returns
  have hts := atoms_spec (ws := wsJ0_charAt_5068e) B.pre
  have hown : s.vm.findClass RJ0 = some m.cls := findClass_of_methodNamed B.named
  have hlocks := B.notSynchronized
  subst hsz
  generalize hAe : va_A [] s.heap.size = A at hX ⊢
  have hA : ∀ q : Nat, s.heap.size ≤ q → A q := fun q h => by rw [← hAe]; exact Or.inr h
  have hS : va_S A s.heap s.heap [] := va_S.rf
  have hD : va_D A [] := ⟨fun i j p q h => by simp at h, fun k q h => by simp at h⟩
  have hl := lv_entry ([.ref (adK i), .int j]) (n := 2) (Nat.le_of_ble_eq_true rfl)
  have hfr : entryFrame m args 2 = entryFrame m ([.ref (adK i), .int j] : List Value).toArray 2 := by rw [hargs]
  rw [hfr, lg_entry_eq]
  generalize (lg_sl ([.ref (adK i), .int j]) ++ List.replicate (2 - (lg_sl ([.ref (adK i), .int j])).length) Slot.unset).toArray = ls at hl ⊢
  have hl : lv_has ls 2 [(0, .ref (adK i)), (1, .int j)] := hl
  refine lv_aload_n hx hb dJ0_charAt_5068e_0 rfl (lv_at hl 0 rfl) ?_
  have hFc := va_free (wc := []) hD hS hA [] rfl
  refine va_calli (va_runV (As := []) (rest := []) ⟨hx, hb, hml, hown, hts⟩ (ctJ0_isLatin1_aae02 l adK adV i hi _) (cwV 0 hts (gV_ hc_ mw_653 mw_654 mw_655 mw_643 mw_656) rfl rfl rfl (by decide +kernel) ⟨Nat.le_of_ble_eq_true rfl, Nat.le_of_ble_eq_true rfl⟩) ⟨fun a U g mk q => by obtain ⟨q0, q1, qX⟩ := q; exact ⟨q0, q1, qX.moved (u := U) (U := U.calling g mk a) (Vm.Alike.refl U.vm)⟩, vk_recv hX.2.2 hi hS, fun U hU hW => ⟨rfl, by rw [hU], by rw [hU]; exact ((hX.kept hS.2.1).narrow hFc).moved hW.alike⟩⟩ rfl rfl hl.1 rfl (lv_room (Nat.le_of_ble_eq_true rfl)) dJ0_charAt_5068e_1 ⟨Nat.zero_le _, Nat.zero_le _⟩) hS (fun q _ h => hFc q h) hFc (fun r u t H1 locs ht hvm hw hB hz1 hk1 hS => ?_)
  subst hw
  refine lv_if_eq (tgt := 16) hx hb dJ0_charAt_5068e_4 (by decide) (fun c1 => absurd c1 (by decide)) (fun c1 => ?_)
  refine lv_aload_n hx hb dJ0_charAt_5068e_7 rfl (lv_at hl 0 rfl) ?_
  refine vk_getf hx hb (hX.2.2.1 i hi).2.2.1 hS hown (hts _ (List.mem_cons_of_mem _ mw_639)) (fun _ h9 => h9) dJ0_charAt_5068e_8 ?_
  refine lv_iload_n hx hb dJ0_charAt_5068e_11 rfl (lv_at hl 1 rfl) ?_
  have hFc := va_free (wc := []) hD hS hA [] rfl
  refine va_calli (va_runS (As := [.ref (adV i), .int j]) (rest := []) ⟨hx, hb, hml, hown, hts⟩ (ctJ1_charAt_3b067 l adK adV i hi j hj _) (va_cwS 2 hts (gS_ hc_ mw_657 mw_658 mw_659 mw_660) rfl rfl rfl (by decide +kernel) ⟨Nat.le_of_ble_eq_true rfl, Nat.le_of_ble_eq_true rfl⟩) ⟨fun a U g mk q => by obtain ⟨q0, q1, qX⟩ := q; exact ⟨q0, q1, qX.moved (u := U) (U := U.calling g mk a) (Vm.Alike.refl U.vm)⟩, fun U hU hW => ⟨rfl, by rw [hU], by rw [hU]; exact ((hX.kept hS.2.1).narrow hFc).moved hW.alike⟩⟩ rfl rfl hl.1 rfl (lv_room (Nat.le_of_ble_eq_true rfl)) dJ0_charAt_5068e_12 ⟨Nat.zero_le _, Nat.zero_le _⟩) hS (fun q _ h => hFc q h) hFc (fun r u t H1 locs ht hvm hw hB hz1 hk1 hS => ?_)
  subst hw
  exact W.zret (ty := .char) hx hb hr (sc_nar _) (fun t ht hW => ⟨⟨_, (), rfl, rfl, trivial⟩, hS.F ht⟩) hS.2.2 dJ0_charAt_5068e_15
def fnX10_learn_68 (si : Nat)  (k5 : Int32 → Int32 → (Nat → Int64) → Option ((Nat → Int64))) (x3 : Int32) (x4 : Int32) (Vocabulary_keys : Nat → Int64) : Option ((Nat → Int64)) :=
  k5 x3 (x4 + (1 : Int32)) Vocabulary_keys
def fnX10_learn_5 (si : Nat)   : Nat → Int32 → Int32 → (Nat → Int64) → Option ((Nat → Int64))
  | 0, _, _, _ => none
  | n + 1, x3, x4, Vocabulary_keys =>
    if (nI (lenS.getD si 0)) ≤ x4 then
      some Vocabulary_keys
    else
      bd1 (ga (lenS.getD si 0) (fun j => (bytS.getD si []).getD j 0 &&& 255) x4) fun x_3 =>
        if x_3 = (32 : Int32) then
        fnX10_learn_68 si (fnX10_learn_5 si n) (x3 + (1 : Int32)) x4 Vocabulary_keys
      else
        if x3 < 0 then
          fnX10_learn_68 si (fnX10_learn_5 si n) x3 x4 Vocabulary_keys
        else
          if (49 : Int32) ≤ x3 then
            fnX10_learn_68 si (fnX10_learn_5 si n) x3 x4 Vocabulary_keys
          else
            bd1 (ga 49 Vocabulary_keys x3) fun x_8 =>
              bd1 (sl 49 Vocabulary_keys x3 ((x_8 * (128 : Int64)) + x_3.toInt64)) fun f_11 =>
              fnX10_learn_68 si (fnX10_learn_5 si n) x3 x4 f_11
def fnX10_learn (si : Nat) (Vocabulary_keys : Nat → Int64) (p1 : Int32) : Option ((Nat → Int64)) :=
  fnX10_learn_5 si fuel_ p1 (0 : Int32) Vocabulary_keys
abbrev rmX10_learn : Room := { frames := 4, cells := 0, slots := 0, locals := 85 }
set_option maxHeartbeats 4000000 in
set_option maxRecDepth 100000 in
theorem ctX10_learn (l : Launch) (dC : Nat → ClassId) (dI : Nat → Nat → Nat) (cI cC cJ : ClassId) (aVocabulary aVocabulary_keys : Nat) (sz : Nat) (adK adV : Nat → Nat) (si : Nat) (hi : si < 6) (Vocabulary_keys : Nat → Int64) (p1 : Int32) (w_Vocabulary_keys : Nat → Int64) (h : fnX10_learn si Vocabulary_keys p1 = some w_Vocabulary_keys) : Met l yX10_learn wsX10_learn rmX10_learn (va_Pc [.ref aVocabulary, .ref (adK si), .int p1] (fun U => U.heap.size = sz ∧ va_P (dC, dI) vwCl [(aVocabulary, .inr (9, [.ref aVocabulary_keys])), (aVocabulary_keys, .inl (cJ, 49, .inr (.inl Vocabulary_keys)))] U.heap ∧ va_K (dC, dI) vwCl [(cI, .int), (cC, .char), (cJ, .long)] U ∧ va_D (fun _ => True) [(aVocabulary, .inr (9, [.ref aVocabulary_keys])), (aVocabulary_keys, .inl (cJ, 49, .inr (.inl Vocabulary_keys)))] ∧ SX adK adV (va_A [(aVocabulary, .inr (9, [.ref aVocabulary_keys])), (aVocabulary_keys, .inl (cJ, 49, .inr (.inl Vocabulary_keys)))] sz) U U.heap)) (va_Qv (fun (_ : Unit) => True) (fun _ t => va_P (dC, dI) vwCl [(aVocabulary, .inr (9, [.ref aVocabulary_keys])), (aVocabulary_keys, .inl (cJ, 49, .inr (.inl w_Vocabulary_keys)))] t.heap ∧ va_K (dC, dI) vwCl [(cI, .int), (cC, .char), (cJ, .long)] t ∧ va_D (va_A [(aVocabulary, .inr (9, [.ref aVocabulary_keys])), (aVocabulary_keys, .inl (cJ, 49, .inr (.inl Vocabulary_keys)))] sz) [(aVocabulary, .inr (9, [.ref aVocabulary_keys])), (aVocabulary_keys, .inl (cJ, 49, .inr (.inl w_Vocabulary_keys)))]) (va_A [(aVocabulary, .inr (9, [.ref aVocabulary_keys])), (aVocabulary_keys, .inl (cJ, 49, .inr (.inl Vocabulary_keys)))] sz)) 0 0 (va_A [(aVocabulary, .inr (9, [.ref aVocabulary_keys])), (aVocabulary_keys, .inl (cJ, 49, .inr (.inl Vocabulary_keys)))] sz) := by
  refine Met.ofW (cc := cX10_learn) (maxL := 6) (ret := none) (by decide) rfl ?_
  intro p e s m args below meth c s₁ B hml hv
  obtain ⟨hargs, hsz, hP, hK, hD0, hX⟩ := hv
  have hx := B.exec
  have hb := B.bytes
  have hr := B.returns
  have hts := atoms_spec (ws := wsX10_learn) B.pre
  have hown : s.vm.findClass RX10 = some m.cls := findClass_of_methodNamed B.named
  have hlocks := B.notSynchronized
  subst hsz
  have hD := hD0.self (sz := s.heap.size)
  generalize hAe : va_A [(aVocabulary, .inr (9, [.ref aVocabulary_keys])), (aVocabulary_keys, .inl (cJ, 49, .inr (.inl Vocabulary_keys)))] s.heap.size = A at hD hX ⊢
  have hA : ∀ q : Nat, s.heap.size ≤ q → A q := fun q h => by rw [← hAe]; exact Or.inr h
  have hS : va_S A s.heap s.heap [] := va_S.rf
  have hl := lv_entry ([.ref aVocabulary, .ref (adK si), .int p1]) (n := 6) (Nat.le_of_ble_eq_true rfl)
  have hfr : entryFrame m args 6 = entryFrame m ([.ref aVocabulary, .ref (adK si), .int p1] : List Value).toArray 6 := by rw [hargs]
  rw [hfr, lg_entry_eq]
  generalize (lg_sl ([.ref aVocabulary, .ref (adK si), .int p1]) ++ List.replicate (6 - (lg_sl ([.ref aVocabulary, .ref (adK si), .int p1])).length) Slot.unset).toArray = ls at hl ⊢
  have hl : lv_has ls 6 [(0, .ref aVocabulary), (1, .ref (adK si)), (2, .int p1)] := hl
  refine nameQ_ (fun Q hQ => ?_)
  have hP : va_P (dC, dI) vwCl [(aVocabulary, .inr (9, [.ref aVocabulary_keys])), (aVocabulary_keys, .inl (cJ, 49, .inr (.inl Vocabulary_keys)))] s.heap := hP
  have hj_68 : ∀ (k5 : Int32 → Int32 → (Nat → Int64) → Option ((Nat → Int64))), (∀ (x3 : Int32) (x4 : Int32) (Vocabulary_keys : Nat → Int64) (H : Heap) (locs : List Loc) (ls : Array Slot), k5 x3 x4 Vocabulary_keys = some w_Vocabulary_keys → va_P (dC, dI) vwCl [(aVocabulary, .inr (9, [.ref aVocabulary_keys])), (aVocabulary_keys, .inl (cJ, 49, .inr (.inl Vocabulary_keys)))] H → va_D A [(aVocabulary, .inr (9, [.ref aVocabulary_keys])), (aVocabulary_keys, .inl (cJ, 49, .inr (.inl Vocabulary_keys)))] → va_S A s.heap H locs → lv_has ls 6 [(3, .int x3), (4, .int x4), (0, .ref aVocabulary), (1, .ref (adK si))] → W p l e rmX10_learn s m args below meth c H locs 0 0 Q (F0 m 5 ls [])) → ∀ (x3 : Int32) (x4 : Int32) (Vocabulary_keys : Nat → Int64) (H : Heap) (locs : List Loc) (ls : Array Slot), fnX10_learn_68 si k5 x3 x4 Vocabulary_keys = some w_Vocabulary_keys → va_P (dC, dI) vwCl [(aVocabulary, .inr (9, [.ref aVocabulary_keys])), (aVocabulary_keys, .inl (cJ, 49, .inr (.inl Vocabulary_keys)))] H → va_D A [(aVocabulary, .inr (9, [.ref aVocabulary_keys])), (aVocabulary_keys, .inl (cJ, 49, .inr (.inl Vocabulary_keys)))] → va_S A s.heap H locs → lv_has ls 6 [(3, .int x3), (4, .int x4), (0, .ref aVocabulary), (1, .ref (adK si))] → W p l e rmX10_learn s m args below meth c H locs 0 0 Q (F0 m 68 ls []) := by
    intro k5 hk5 x3 x4 Vocabulary_keys H locs ls h hP hD hS hl
    unfold fnX10_learn_68 at h
    refine lv_iinc (v := x4 + (1 : Int32)) (lv' := [(4, .int (x4 + (1 : Int32))), (3, .int x3), (0, .ref aVocabulary), (1, .ref (adK si))]) hx hb dX10_learn_68 hl (k := 1) rfl rfl (by decide) rfl (fun ls hl => ?_)
    refine lv_goto (tgt := 5) hx hb dX10_learn_71 (by decide) ?_
    exact hk5 x3 (x4 + (1 : Int32)) Vocabulary_keys _ _ _ h hP hD hS (lv_sub hl [1, 0, 2, 3] rfl)
  have hj_5 : ∀ (n : Nat), ∀ (x3 : Int32) (x4 : Int32) (Vocabulary_keys : Nat → Int64) (H : Heap) (locs : List Loc) (ls : Array Slot), fnX10_learn_5 si n x3 x4 Vocabulary_keys = some w_Vocabulary_keys → va_P (dC, dI) vwCl [(aVocabulary, .inr (9, [.ref aVocabulary_keys])), (aVocabulary_keys, .inl (cJ, 49, .inr (.inl Vocabulary_keys)))] H → va_D A [(aVocabulary, .inr (9, [.ref aVocabulary_keys])), (aVocabulary_keys, .inl (cJ, 49, .inr (.inl Vocabulary_keys)))] → va_S A s.heap H locs → lv_has ls 6 [(3, .int x3), (4, .int x4), (0, .ref aVocabulary), (1, .ref (adK si))] → W p l e rmX10_learn s m args below meth c H locs 0 0 Q (F0 m 5 ls []) := by
    intro n
    induction n with
    | zero =>
      intro x3 x4 Vocabulary_keys H locs ls h
      cases h
    | succ n ih =>
      intro x3 x4 Vocabulary_keys H locs ls h hP hD hS hl
      rw [fnX10_learn_5] at h
      refine lv_iload hx hb dX10_learn_5 (lv_at hl 1 rfl) ?_
      refine lv_aload_n hx hb dX10_learn_7 rfl (lv_at hl 3 rfl) ?_
      have hFc := va_free (wc := []) hD hS hA [] rfl
      refine va_calli (va_runV (As := []) (rest := [.int x4]) ⟨hx, hb, hml, hown, hts⟩ (ctJ0_length_8abf5 l adK adV si hi _) (cwV 0 hts (gV_ hc_ mw_661 mw_662 mw_663 mw_643 mw_664) rfl rfl rfl (by decide +kernel) ⟨Nat.le_of_ble_eq_true rfl, Nat.le_of_ble_eq_true rfl⟩) ⟨fun a U g mk q => by obtain ⟨q0, q1, qX⟩ := q; exact ⟨q0, q1, qX.moved (u := U) (U := U.calling g mk a) (Vm.Alike.refl U.vm)⟩, vk_recv hX.2.2 hi hS, fun U hU hW => ⟨rfl, by rw [hU], by rw [hU]; exact ((hX.kept hS.2.1).narrow hFc).moved hW.alike⟩⟩ rfl rfl hl.1 rfl (lv_room (Nat.le_of_ble_eq_true rfl)) dX10_learn_8 ⟨Nat.zero_le _, Nat.zero_le _⟩) hS (fun q _ h => hFc q h) hFc (fun r_1 u t H1 locs ht hvm hw hB hz1 hk1 hS => ?_)
      obtain ⟨hP, hD⟩ := va_join (wr := [(aVocabulary, .inr (9, [.ref aVocabulary_keys])), (aVocabulary_keys, .inl (cJ, 49, .inr (.inl Vocabulary_keys)))]) (w1 := []) hP hD [] [0, 1] rfl rfl (by decide) (by decide) hk1 hFc (fun k q h => by simp at h) ⟨fun i j p q h => by simp at h, fun k q h => by simp at h⟩
      generalize H1 = H at hP hS ⊢
      have hP : va_P (dC, dI) vwCl [(aVocabulary, .inr (9, [.ref aVocabulary_keys])), (aVocabulary_keys, .inl (cJ, 49, .inr (.inl Vocabulary_keys)))] H := hP
      have hD : va_D A [(aVocabulary, .inr (9, [.ref aVocabulary_keys])), (aVocabulary_keys, .inl (cJ, 49, .inr (.inl Vocabulary_keys)))] := hD
      subst hw
      refine lv_icmp_ge (tgt := 74) hx hb dX10_learn_11 (by decide) (fun c_2 => ?_) (fun c_2 => ?_)
      · have h := it_t c_2 h
        cases h
        rw [hQ]
        exact W.vret hx hb hr (fun t ht hW => ⟨⟨(), rfl, trivial, by rw [ht]; exact hP, va_K.moved hW.alike hK, hD⟩, hS.F ht⟩) hS.2.2 dX10_learn_74
      · have h := it_f c_2 h
        refine lv_aload_n hx hb dX10_learn_14 rfl (lv_at hl 3 rfl) ?_
        refine lv_iload hx hb dX10_learn_15 (lv_at hl 1 rfl) ?_
        have hFc := va_free (wc := []) hD hS hA [] rfl
        obtain ⟨x_3, hi_4, h⟩ := bd1_some h
        obtain ⟨hi_4, ex_3⟩ := ga_some hi_4
        refine va_calli (va_runV (As := [.int x4]) (rest := []) ⟨hx, hb, hml, hown, hts⟩ (ctJ0_charAt_5068e l adK adV si hi x4 hi_4 _) (cwV 1 hts (gV_ hc_ mw_665 mw_666 mw_667 mw_643 mw_668) rfl rfl rfl (by decide +kernel) ⟨Nat.le_of_ble_eq_true rfl, Nat.le_of_ble_eq_true rfl⟩) ⟨fun a U g mk q => by obtain ⟨q0, q1, qX⟩ := q; exact ⟨q0, q1, qX.moved (u := U) (U := U.calling g mk a) (Vm.Alike.refl U.vm)⟩, vk_recv hX.2.2 hi hS, fun U hU hW => ⟨rfl, by rw [hU], by rw [hU]; exact ((hX.kept hS.2.1).narrow hFc).moved hW.alike⟩⟩ rfl rfl hl.1 rfl (lv_room (Nat.le_of_ble_eq_true rfl)) dX10_learn_17 ⟨Nat.zero_le _, Nat.zero_le _⟩) hS (fun q _ h => hFc q h) hFc (fun r_3 u t H1 locs ht hvm hw hB hz1 hk1 hS => ?_)
        obtain ⟨hP, hD⟩ := va_join (wr := [(aVocabulary, .inr (9, [.ref aVocabulary_keys])), (aVocabulary_keys, .inl (cJ, 49, .inr (.inl Vocabulary_keys)))]) (w1 := []) hP hD [] [0, 1] rfl rfl (by decide) (by decide) hk1 hFc (fun k q h => by simp at h) ⟨fun i j p q h => by simp at h, fun k q h => by simp at h⟩
        generalize H1 = H at hP hS ⊢
        have hP : va_P (dC, dI) vwCl [(aVocabulary, .inr (9, [.ref aVocabulary_keys])), (aVocabulary_keys, .inl (cJ, 49, .inr (.inl Vocabulary_keys)))] H := hP
        have hD : va_D A [(aVocabulary, .inr (9, [.ref aVocabulary_keys])), (aVocabulary_keys, .inl (cJ, 49, .inr (.inl Vocabulary_keys)))] := hD
        rw [hw, ← ex_3]
        refine lv_istore (lv' := [(5, .int x_3), (3, .int x3), (4, .int x4), (0, .ref aVocabulary), (1, .ref (adK si))]) hx hb dX10_learn_20 hl (by decide) rfl (fun ls hl => ?_)
        refine lv_iload hx hb dX10_learn_22 (lv_at hl 0 rfl) ?_
        refine lv_bipush (v := (32 : Int32)) hx hb dX10_learn_24 (by decide) ?_
        refine lv_icmp_ne (tgt := 35) hx hb dX10_learn_26 (by decide) (fun c_5 => ?_) (fun c_5 => ?_)
        · have h := it_f c_5 h
          refine lv_iload_n hx hb dX10_learn_35 rfl (lv_at hl 1 rfl) ?_
          refine lv_if_lt (tgt := 68) hx hb dX10_learn_36 (by decide) (fun c_6 => ?_) (fun c_6 => ?_)
          · have h := it_t c_6 h
            exact hj_68 ((fnX10_learn_5 si n)) ih x3 x4 Vocabulary_keys _ _ _ h hP hD hS (lv_sub hl [1, 2, 3, 4] rfl)
          · have h := it_f c_6 h
            refine lv_iload_n hx hb dX10_learn_39 rfl (lv_at hl 1 rfl) ?_
            refine lv_aload_n hx hb dX10_learn_40 rfl (lv_at hl 3 rfl) ?_
            refine va_get (D := (dC, dI)) (ci := 9) (v := .ref aVocabulary_keys) (C := RX10) (T := TX10) (N := 1) hx hb hts (fun w h => List.mem_cons_of_mem _ (inX10 w h)) hown hK hP 0 rfl rfl 0 (by decide) (hts _ (List.mem_cons_of_mem _ mw_81)) (fun _ h9 => h9) rfl dX10_learn_41 ?_
            refine va_alen hx hb hK hP 1 2 rfl rfl (v := (49 : Int32)) rfl dX10_learn_44 ?_
            refine lv_icmp_ge (tgt := 68) hx hb dX10_learn_45 (by decide) (fun c_7 => ?_) (fun c_7 => ?_)
            · have h := it_t c_7 h
              exact hj_68 ((fnX10_learn_5 si n)) ih x3 x4 Vocabulary_keys _ _ _ h hP hD hS (lv_sub hl [1, 2, 3, 4] rfl)
            · have h := it_f c_7 h
              refine lv_aload_n hx hb dX10_learn_48 rfl (lv_at hl 3 rfl) ?_
              refine va_get (D := (dC, dI)) (ci := 9) (v := .ref aVocabulary_keys) (C := RX10) (T := TX10) (N := 1) hx hb hts (fun w h => List.mem_cons_of_mem _ (inX10 w h)) hown hK hP 0 rfl rfl 0 (by decide) (hts _ (List.mem_cons_of_mem _ mw_81)) (fun _ h9 => h9) rfl dX10_learn_49 ?_
              refine lv_iload_n hx hb dX10_learn_52 rfl (lv_at hl 1 rfl) ?_
              refine lv_aload_n hx hb dX10_learn_53 rfl (lv_at hl 3 rfl) ?_
              refine va_get (D := (dC, dI)) (ci := 9) (v := .ref aVocabulary_keys) (C := RX10) (T := TX10) (N := 1) hx hb hts (fun w h => List.mem_cons_of_mem _ (inX10 w h)) hown hK hP 0 rfl rfl 0 (by decide) (hts _ (List.mem_cons_of_mem _ mw_81)) (fun _ h9 => h9) rfl dX10_learn_54 ?_
              refine lv_iload_n hx hb dX10_learn_57 rfl (lv_at hl 1 rfl) ?_
              obtain ⟨x_8, hi_9, h⟩ := bd1_some h
              obtain ⟨hi_9, ex_10⟩ := ga_some hi_9
              refine va_lald hx hb hK hP 1 2 rfl rfl hi_9 dX10_learn_58 ?_
              rw [← ex_10]
              refine lv_ldc2 (v := (128 : Int64)) hx hb hown (hts _ (List.mem_cons_of_mem _ mw_669)) dX10_learn_59 ?_
              refine lv_lmul hx hb dX10_learn_62 ?_
              refine lv_iload hx hb dX10_learn_63 (lv_at hl 0 rfl) ?_
              refine lv_i2l (v := x_3.toInt64) hx hb dX10_learn_65 rfl ?_
              refine lv_ladd hx hb dX10_learn_66 ?_
              obtain ⟨f_11, hi_12, h⟩ := bd1_some h
              obtain ⟨hi_12, ex_13⟩ := sl_some hi_12
              refine va_last hx hb hK hP hD hS 1 2 rfl rfl hi_12 dX10_learn_67 (fun H locs hP hD hS => ?_)
              rw [← ex_13] at hP hD
              have hP : va_P (dC, dI) vwCl [(aVocabulary, .inr (9, [.ref aVocabulary_keys])), (aVocabulary_keys, .inl (cJ, 49, .inr (.inl f_11)))] H := hP
              have hD : va_D A [(aVocabulary, .inr (9, [.ref aVocabulary_keys])), (aVocabulary_keys, .inl (cJ, 49, .inr (.inl f_11)))] := hD
              exact hj_68 ((fnX10_learn_5 si n)) ih x3 x4 f_11 _ _ _ h hP hD hS (lv_sub hl [1, 2, 3, 4] rfl)
        · have h := it_t c_5 h
          refine lv_iinc (v := x3 + (1 : Int32)) (lv' := [(3, .int (x3 + (1 : Int32))), (5, .int x_3), (4, .int x4), (0, .ref aVocabulary), (1, .ref (adK si))]) hx hb dX10_learn_29 hl (k := 1) rfl rfl (by decide) rfl (fun ls hl => ?_)
          refine lv_goto (tgt := 68) hx hb dX10_learn_32 (by decide) ?_
          exact hj_68 ((fnX10_learn_5 si n)) ih (x3 + (1 : Int32)) x4 Vocabulary_keys _ _ _ h hP hD hS (lv_sub hl [0, 2, 3, 4] rfl)
  unfold fnX10_learn at h
  refine lv_iload_n hx hb dX10_learn_0 rfl (lv_at hl 2 rfl) ?_
  refine lv_istore_n (lv' := [(3, .int p1), (0, .ref aVocabulary), (1, .ref (adK si)), (2, .int p1)]) hx hb dX10_learn_1 rfl hl (by decide) rfl (fun ls hl => ?_)
  refine lv_iconst (v := (0 : Int32)) hx hb dX10_learn_2 (by decide) ?_
  refine lv_istore (lv' := [(4, .int (0 : Int32)), (3, .int p1), (0, .ref aVocabulary), (1, .ref (adK si)), (2, .int p1)]) hx hb dX10_learn_3 hl (by decide) rfl (fun ls hl => ?_)
  exact hj_5 fuel_ p1 (0 : Int32) Vocabulary_keys _ _ _ h hP hD hS (lv_sub hl [1, 0, 2, 3] rfl)
def SR (adK : Nat → Nat) (U : State) : Prop := vk_R RX10 15 "dup drop swap over rot nip tuck ?dup depth" (adK 0) U ∧ vk_R RX10 21 "+ - * / mod min max and or xor lshift rshift = < >" (adK 1) U ∧ vk_R RX10 23 "negate abs invert 0= 0<" (adK 2) U ∧ vk_R RX10 25 "@ ! +! ." (adK 3) U ∧ vk_R RX10 27 "if else then begin until again while repeat do loop i exit recurse" (adK 4) U ∧ vk_R RX10 29 ": ; forget" (adK 5) U
theorem SR.same {adK : Nat → Nat} {u U : State} (hv : U.vm = u.vm) (h : SR adK u) : SR adK U := ⟨vk_R.same hv h.1, vk_R.same hv h.2.1, vk_R.same hv h.2.2.1, vk_R.same hv h.2.2.2.1, vk_R.same hv h.2.2.2.2.1, vk_R.same hv h.2.2.2.2.2⟩
theorem SR.warm {adK : Nat → Nat} {s U : State} (h : SR adK s) (hW : s.WarmedH U.vm) : SR adK U := ⟨h.1.warm hW, h.2.1.warm hW, h.2.2.1.warm hW, h.2.2.2.1.warm hW, h.2.2.2.2.1.warm hW, h.2.2.2.2.2.warm hW⟩
def fnX10_init : Option (Nat → Int64) :=
  bd1 (fnX10_learn 0 (fun _ => 0) (0 : Int32)) fun k1 =>
  bd1 (fnX10_learn 1 k1 (9 : Int32)) fun k2 =>
  bd1 (fnX10_learn 2 k2 (24 : Int32)) fun k3 =>
  bd1 (fnX10_learn 3 k3 (29 : Int32)) fun k4 =>
  bd1 (fnX10_learn 4 k4 (33 : Int32)) fun k5 =>
  bd1 (fnX10_learn 5 k5 (46 : Int32)) fun k6 =>
  some k6
abbrev rmX10_init : Room := { frames := 5, cells := 1, slots := 49, locals := 110 }
set_option maxHeartbeats 4000000 in
set_option maxRecDepth 100000 in
theorem ctX10_init (l : Launch) (dC : Nat → ClassId) (dI : Nat → Nat → Nat) (cI cC cJ : ClassId) (aVocabulary : Nat) (sz : Nat) (adK adV : Nat → Nat) (w_keys : Nat → Int64) (hV : fnX10_init = some w_keys)  : Met l yX10_init wsX10_init rmX10_init (va_Pc [.ref aVocabulary] (fun U => U.heap.size = sz ∧ va_P (dC, dI) vwCl [(aVocabulary, .inr (9, [.null]))] U.heap ∧ va_K (dC, dI) vwCl [(cI, .int), (cC, .char), (cJ, .long)] U ∧ va_D (fun _ => True) [(aVocabulary, .inr (9, [.null]))] ∧ SX adK adV (va_A [(aVocabulary, .inr (9, [.null]))] sz) U U.heap ∧ SR adK U)) (va_Qv (fun (_ : Unit) => True) (fun _ t => ∃ (aVocabulary_keys : Nat), va_P (dC, dI) vwCl [(aVocabulary, .inr (9, [.ref aVocabulary_keys])), (aVocabulary_keys, .inl (cJ, 49, .inr (.inl w_keys)))] t.heap ∧ va_K (dC, dI) vwCl [(cI, .int), (cC, .char), (cJ, .long)] t ∧ va_D (va_A [(aVocabulary, .inr (9, [.null]))] sz) [(aVocabulary, .inr (9, [.ref aVocabulary_keys])), (aVocabulary_keys, .inl (cJ, 49, .inr (.inl w_keys)))]) (va_A [(aVocabulary, .inr (9, [.null]))] sz)) 1 49 (va_A [(aVocabulary, .inr (9, [.null]))] sz) := by
  refine Met.ofW (cc := cX10_init) (maxL := 1) (ret := none) (by decide) rfl ?_
  intro p e s m args below meth c s₁ B hml hv
  obtain ⟨hargs, hsz, hP, hK, hD0, hX, hR⟩ := hv
  have hx := B.exec
  have hb := B.bytes
  have hr := B.returns
  have hts := atoms_spec (ws := wsX10_init) B.pre
  have hown : s.vm.findClass RX10 = some m.cls := findClass_of_methodNamed B.named
  have hlocks := B.notSynchronized
  have hin : meth.name = "<init>" := (name_of_methodNamed B.named B.method).1
  subst hsz
  have hD := hD0.self (sz := s.heap.size)
  generalize hAe : va_A [(aVocabulary, .inr (9, [.null]))] s.heap.size = A at hD hX ⊢
  have hA : ∀ q : Nat, s.heap.size ≤ q → A q := fun q h => by rw [← hAe]; exact Or.inr h
  have hS : va_S A s.heap s.heap [] := va_S.rf
  have hl := lv_entry ([.ref aVocabulary]) (n := 1) (Nat.le_of_ble_eq_true rfl)
  have hfr : entryFrame m args 1 = entryFrame m ([.ref aVocabulary] : List Value).toArray 1 := by rw [hargs]
  rw [hfr, lg_entry_eq]
  generalize (lg_sl ([.ref aVocabulary]) ++ List.replicate (1 - (lg_sl ([.ref aVocabulary])).length) Slot.unset).toArray = ls at hl ⊢
  have hl : lv_has ls 1 [(0, .ref aVocabulary)] := hl
  refine nameQ_ (fun Q hQ => ?_)
  refine lv_aload_n hx hb dX10_init_0 rfl (lv_at hl 0 rfl) ?_
  refine W.objInit hx hb hown (hts _ (List.mem_cons_of_mem _ mw_670)) (hts _ (List.mem_cons_of_mem _ mw_605)) (hts _ (List.mem_cons_of_mem _ mw_606)) rfl (by rw [hml]; exact hl.1) rfl dX10_init_1 (Nat.le_of_ble_eq_true rfl) (Nat.le_of_ble_eq_true rfl) ?_
  refine W.eq (g2 := F0 m 4 ls []) rfl ?_
  refine lv_aload_n hx hb dX10_init_4 rfl (lv_at hl 0 rfl) ?_
  refine lv_bipush (v := (49 : Int32)) hx hb dX10_init_5 (by decide) ?_
  refine va_newa (atype := .long) (a0 := (49, .inr (.inl (fun _ => 0)))) hx hb (hts _ (List.mem_cons_of_mem _ mw_615)) rfl hK hP hD hS hA (fun _ => rfl) (by decide) (by decide) (by decide) (Nat.le_of_ble_eq_true rfl) (Nat.le_of_ble_eq_true rfl) dX10_init_7 (fun aVocabulary_keys cA H hK2 hP hD hS => ?_)
  have ecA : cJ = cA := Option.some.inj (((hK.2 2 _ rfl).2).symm.trans ((hK2.2 3 _ rfl).2))
  subst ecA
  have hP : va_P (dC, dI) vwCl [(aVocabulary, .inr (9, [.null])), (aVocabulary_keys, .inl (cJ, 49, .inr (.inl (fun _ => 0))))] H := hP
  have hD : va_D A [(aVocabulary, .inr (9, [.null])), (aVocabulary_keys, .inl (cJ, 49, .inr (.inl (fun _ => 0))))] := hD
  refine W.widen (k := 1) (n := 49) (by decide) (by decide) ?_
  refine va_putF (D := (dC, dI)) (ci := 9) (v := .ref aVocabulary_keys) (ty := .array .long) (C := RX10) (T := TX10) (N := 1) hx hb hts (fun w h => List.mem_cons_of_mem _ (inX10 w h)) tyX10 tyX10_ok nmX10 hown hK hP hD hS 0 rfl rfl 0 (by decide) (hts _ (List.mem_cons_of_mem _ mw_81)) (fun _ h9 => h9) rfl hin rfl (by decide +kernel) rfl rfl (Nat.le_of_ble_eq_true rfl) dX10_init_9 (fun H locs hP hD hS => ?_)
  have hP : va_P (dC, dI) vwCl [(aVocabulary, .inr (9, [.ref aVocabulary_keys])), (aVocabulary_keys, .inl (cJ, 49, .inr (.inl (fun _ => 0))))] H := hP
  have hD : va_D A [(aVocabulary, .inr (9, [.ref aVocabulary_keys])), (aVocabulary_keys, .inl (cJ, 49, .inr (.inl (fun _ => 0))))] := hD
  refine lv_aload_n hx hb dX10_init_12 rfl (lv_at hl 0 rfl) ?_
  refine va_ldcS hx hb hown hR.1 dX10_init_13 ?_
  refine lv_iconst (v := (0 : Int32)) hx hb dX10_init_15 (by decide) ?_
  unfold fnX10_init at hV
  obtain ⟨k1, hl1, hV⟩ := bd1_some hV
  have hPc := hP.sub (ws' := [(aVocabulary, .inr (9, [.ref aVocabulary_keys])), (aVocabulary_keys, .inl (cJ, 49, .inr (.inl (fun _ => 0))))]) [0, 1] rfl
  have hDc := hD.sub (ws' := [(aVocabulary, .inr (9, [.ref aVocabulary_keys])), (aVocabulary_keys, .inl (cJ, 49, .inr (.inl (fun _ => 0))))]) [0, 1] (by decide) rfl
  have hFc := va_free (wc := [(aVocabulary, .inr (9, [.ref aVocabulary_keys])), (aVocabulary_keys, .inl (cJ, 49, .inr (.inl (fun _ => 0))))]) hD hS hA [0, 1] rfl
  refine va_callv (va_runV (As := [.ref (adK 0), .int (0 : Int32)]) (rest := []) ⟨hx, hb, hml, hown, hts⟩ (ctX10_learn l dC dI cI cC cJ aVocabulary aVocabulary_keys _ adK adV 0 (by decide) (fun _ => 0) (0 : Int32) k1 hl1) (cwV 2 hts (gV_ hc_ mw_671 mw_672 mw_673 mw_95 mw_674) rfl rfl rfl (by decide +kernel) ⟨Nat.le_of_ble_eq_true rfl, Nat.le_of_ble_eq_true rfl⟩) ⟨fun a U g mk q => by obtain ⟨q0, q1, qP, qK, qD, qX⟩ := q; exact ⟨q0, q1, qP, va_K.moved (u := U) (U := U.calling g mk a) (Vm.Alike.refl U.vm) qK, qD, qX.moved (u := U) (U := U.calling g mk a) (Vm.Alike.refl U.vm)⟩, va_recv hK hPc (ci := 9) (q0 := 0) rfl rfl, fun U hU hW => ⟨rfl, by rw [hU], by rw [hU]; exact hPc, va_K.moved hW.alike hK, hDc.weaken (fun _ _ _ _ => trivial), by rw [hU]; exact ((hX.kept hS.2.1).narrow hFc).moved hW.alike⟩⟩ rfl rfl hl.1 rfl (lv_room (Nat.le_of_ble_eq_true rfl)) dX10_init_16 ⟨Nat.le_of_ble_eq_true rfl, Nat.le_of_ble_eq_true rfl⟩) hS (fun q _ h => hFc q h) hFc (fun u t H1 locs ht hvm hw hB hz1 hk1 hS => ?_)
  obtain ⟨hP1, hK1, hD1⟩ := hB
  rw [ht] at hP1
  obtain ⟨hP, hD⟩ := va_join (wr := []) (w1 := [(aVocabulary, .inr (9, [.ref aVocabulary_keys])), (aVocabulary_keys, .inl (cJ, 49, .inr (.inl k1)))]) hP hD [0, 1] [] rfl rfl (by decide) (by decide) hk1 hFc hP1 hD1
  generalize H1 = H at hP hS ⊢
  have hP : va_P (dC, dI) vwCl [(aVocabulary, .inr (9, [.ref aVocabulary_keys])), (aVocabulary_keys, .inl (cJ, 49, .inr (.inl k1)))] H := hP
  have hD : va_D A [(aVocabulary, .inr (9, [.ref aVocabulary_keys])), (aVocabulary_keys, .inl (cJ, 49, .inr (.inl k1)))] := hD
  refine W.widen (k := 1) (n := 49) (Nat.le_refl _) (Nat.le_refl _) ?_
  refine lv_aload_n hx hb dX10_init_19 rfl (lv_at hl 0 rfl) ?_
  refine va_ldcS hx hb hown hR.2.1 dX10_init_20 ?_
  refine lv_bipush (v := (9 : Int32)) hx hb dX10_init_22 (by decide) ?_
  obtain ⟨k2, hl2, hV⟩ := bd1_some hV
  have hPc := hP.sub (ws' := [(aVocabulary, .inr (9, [.ref aVocabulary_keys])), (aVocabulary_keys, .inl (cJ, 49, .inr (.inl k1)))]) [0, 1] rfl
  have hDc := hD.sub (ws' := [(aVocabulary, .inr (9, [.ref aVocabulary_keys])), (aVocabulary_keys, .inl (cJ, 49, .inr (.inl k1)))]) [0, 1] (by decide) rfl
  have hFc := va_free (wc := [(aVocabulary, .inr (9, [.ref aVocabulary_keys])), (aVocabulary_keys, .inl (cJ, 49, .inr (.inl k1)))]) hD hS hA [0, 1] rfl
  refine va_callv (va_runV (As := [.ref (adK 1), .int (9 : Int32)]) (rest := []) ⟨hx, hb, hml, hown, hts⟩ (ctX10_learn l dC dI cI cC cJ aVocabulary aVocabulary_keys _ adK adV 1 (by decide) k1 (9 : Int32) k2 hl2) (cwV 2 hts (gV_ hc_ mw_671 mw_672 mw_673 mw_95 mw_674) rfl rfl rfl (by decide +kernel) ⟨Nat.le_of_ble_eq_true rfl, Nat.le_of_ble_eq_true rfl⟩) ⟨fun a U g mk q => by obtain ⟨q0, q1, qP, qK, qD, qX⟩ := q; exact ⟨q0, q1, qP, va_K.moved (u := U) (U := U.calling g mk a) (Vm.Alike.refl U.vm) qK, qD, qX.moved (u := U) (U := U.calling g mk a) (Vm.Alike.refl U.vm)⟩, va_recv hK hPc (ci := 9) (q0 := 0) rfl rfl, fun U hU hW => ⟨rfl, by rw [hU], by rw [hU]; exact hPc, va_K.moved hW.alike hK, hDc.weaken (fun _ _ _ _ => trivial), by rw [hU]; exact ((hX.kept hS.2.1).narrow hFc).moved hW.alike⟩⟩ rfl rfl hl.1 rfl (lv_room (Nat.le_of_ble_eq_true rfl)) dX10_init_24 ⟨Nat.le_of_ble_eq_true rfl, Nat.le_of_ble_eq_true rfl⟩) hS (fun q _ h => hFc q h) hFc (fun u t H1 locs ht hvm hw hB hz1 hk1 hS => ?_)
  obtain ⟨hP1, hK1, hD1⟩ := hB
  rw [ht] at hP1
  obtain ⟨hP, hD⟩ := va_join (wr := []) (w1 := [(aVocabulary, .inr (9, [.ref aVocabulary_keys])), (aVocabulary_keys, .inl (cJ, 49, .inr (.inl k2)))]) hP hD [0, 1] [] rfl rfl (by decide) (by decide) hk1 hFc hP1 hD1
  generalize H1 = H at hP hS ⊢
  have hP : va_P (dC, dI) vwCl [(aVocabulary, .inr (9, [.ref aVocabulary_keys])), (aVocabulary_keys, .inl (cJ, 49, .inr (.inl k2)))] H := hP
  have hD : va_D A [(aVocabulary, .inr (9, [.ref aVocabulary_keys])), (aVocabulary_keys, .inl (cJ, 49, .inr (.inl k2)))] := hD
  refine W.widen (k := 1) (n := 49) (Nat.le_refl _) (Nat.le_refl _) ?_
  refine lv_aload_n hx hb dX10_init_27 rfl (lv_at hl 0 rfl) ?_
  refine va_ldcS hx hb hown hR.2.2.1 dX10_init_28 ?_
  refine lv_bipush (v := (24 : Int32)) hx hb dX10_init_30 (by decide) ?_
  obtain ⟨k3, hl3, hV⟩ := bd1_some hV
  have hPc := hP.sub (ws' := [(aVocabulary, .inr (9, [.ref aVocabulary_keys])), (aVocabulary_keys, .inl (cJ, 49, .inr (.inl k2)))]) [0, 1] rfl
  have hDc := hD.sub (ws' := [(aVocabulary, .inr (9, [.ref aVocabulary_keys])), (aVocabulary_keys, .inl (cJ, 49, .inr (.inl k2)))]) [0, 1] (by decide) rfl
  have hFc := va_free (wc := [(aVocabulary, .inr (9, [.ref aVocabulary_keys])), (aVocabulary_keys, .inl (cJ, 49, .inr (.inl k2)))]) hD hS hA [0, 1] rfl
  refine va_callv (va_runV (As := [.ref (adK 2), .int (24 : Int32)]) (rest := []) ⟨hx, hb, hml, hown, hts⟩ (ctX10_learn l dC dI cI cC cJ aVocabulary aVocabulary_keys _ adK adV 2 (by decide) k2 (24 : Int32) k3 hl3) (cwV 2 hts (gV_ hc_ mw_671 mw_672 mw_673 mw_95 mw_674) rfl rfl rfl (by decide +kernel) ⟨Nat.le_of_ble_eq_true rfl, Nat.le_of_ble_eq_true rfl⟩) ⟨fun a U g mk q => by obtain ⟨q0, q1, qP, qK, qD, qX⟩ := q; exact ⟨q0, q1, qP, va_K.moved (u := U) (U := U.calling g mk a) (Vm.Alike.refl U.vm) qK, qD, qX.moved (u := U) (U := U.calling g mk a) (Vm.Alike.refl U.vm)⟩, va_recv hK hPc (ci := 9) (q0 := 0) rfl rfl, fun U hU hW => ⟨rfl, by rw [hU], by rw [hU]; exact hPc, va_K.moved hW.alike hK, hDc.weaken (fun _ _ _ _ => trivial), by rw [hU]; exact ((hX.kept hS.2.1).narrow hFc).moved hW.alike⟩⟩ rfl rfl hl.1 rfl (lv_room (Nat.le_of_ble_eq_true rfl)) dX10_init_32 ⟨Nat.le_of_ble_eq_true rfl, Nat.le_of_ble_eq_true rfl⟩) hS (fun q _ h => hFc q h) hFc (fun u t H1 locs ht hvm hw hB hz1 hk1 hS => ?_)
  obtain ⟨hP1, hK1, hD1⟩ := hB
  rw [ht] at hP1
  obtain ⟨hP, hD⟩ := va_join (wr := []) (w1 := [(aVocabulary, .inr (9, [.ref aVocabulary_keys])), (aVocabulary_keys, .inl (cJ, 49, .inr (.inl k3)))]) hP hD [0, 1] [] rfl rfl (by decide) (by decide) hk1 hFc hP1 hD1
  generalize H1 = H at hP hS ⊢
  have hP : va_P (dC, dI) vwCl [(aVocabulary, .inr (9, [.ref aVocabulary_keys])), (aVocabulary_keys, .inl (cJ, 49, .inr (.inl k3)))] H := hP
  have hD : va_D A [(aVocabulary, .inr (9, [.ref aVocabulary_keys])), (aVocabulary_keys, .inl (cJ, 49, .inr (.inl k3)))] := hD
  refine W.widen (k := 1) (n := 49) (Nat.le_refl _) (Nat.le_refl _) ?_
  refine lv_aload_n hx hb dX10_init_35 rfl (lv_at hl 0 rfl) ?_
  refine va_ldcS hx hb hown hR.2.2.2.1 dX10_init_36 ?_
  refine lv_bipush (v := (29 : Int32)) hx hb dX10_init_38 (by decide) ?_
  obtain ⟨k4, hl4, hV⟩ := bd1_some hV
  have hPc := hP.sub (ws' := [(aVocabulary, .inr (9, [.ref aVocabulary_keys])), (aVocabulary_keys, .inl (cJ, 49, .inr (.inl k3)))]) [0, 1] rfl
  have hDc := hD.sub (ws' := [(aVocabulary, .inr (9, [.ref aVocabulary_keys])), (aVocabulary_keys, .inl (cJ, 49, .inr (.inl k3)))]) [0, 1] (by decide) rfl
  have hFc := va_free (wc := [(aVocabulary, .inr (9, [.ref aVocabulary_keys])), (aVocabulary_keys, .inl (cJ, 49, .inr (.inl k3)))]) hD hS hA [0, 1] rfl
  refine va_callv (va_runV (As := [.ref (adK 3), .int (29 : Int32)]) (rest := []) ⟨hx, hb, hml, hown, hts⟩ (ctX10_learn l dC dI cI cC cJ aVocabulary aVocabulary_keys _ adK adV 3 (by decide) k3 (29 : Int32) k4 hl4) (cwV 2 hts (gV_ hc_ mw_671 mw_672 mw_673 mw_95 mw_674) rfl rfl rfl (by decide +kernel) ⟨Nat.le_of_ble_eq_true rfl, Nat.le_of_ble_eq_true rfl⟩) ⟨fun a U g mk q => by obtain ⟨q0, q1, qP, qK, qD, qX⟩ := q; exact ⟨q0, q1, qP, va_K.moved (u := U) (U := U.calling g mk a) (Vm.Alike.refl U.vm) qK, qD, qX.moved (u := U) (U := U.calling g mk a) (Vm.Alike.refl U.vm)⟩, va_recv hK hPc (ci := 9) (q0 := 0) rfl rfl, fun U hU hW => ⟨rfl, by rw [hU], by rw [hU]; exact hPc, va_K.moved hW.alike hK, hDc.weaken (fun _ _ _ _ => trivial), by rw [hU]; exact ((hX.kept hS.2.1).narrow hFc).moved hW.alike⟩⟩ rfl rfl hl.1 rfl (lv_room (Nat.le_of_ble_eq_true rfl)) dX10_init_40 ⟨Nat.le_of_ble_eq_true rfl, Nat.le_of_ble_eq_true rfl⟩) hS (fun q _ h => hFc q h) hFc (fun u t H1 locs ht hvm hw hB hz1 hk1 hS => ?_)
  obtain ⟨hP1, hK1, hD1⟩ := hB
  rw [ht] at hP1
  obtain ⟨hP, hD⟩ := va_join (wr := []) (w1 := [(aVocabulary, .inr (9, [.ref aVocabulary_keys])), (aVocabulary_keys, .inl (cJ, 49, .inr (.inl k4)))]) hP hD [0, 1] [] rfl rfl (by decide) (by decide) hk1 hFc hP1 hD1
  generalize H1 = H at hP hS ⊢
  have hP : va_P (dC, dI) vwCl [(aVocabulary, .inr (9, [.ref aVocabulary_keys])), (aVocabulary_keys, .inl (cJ, 49, .inr (.inl k4)))] H := hP
  have hD : va_D A [(aVocabulary, .inr (9, [.ref aVocabulary_keys])), (aVocabulary_keys, .inl (cJ, 49, .inr (.inl k4)))] := hD
  refine W.widen (k := 1) (n := 49) (Nat.le_refl _) (Nat.le_refl _) ?_
  refine lv_aload_n hx hb dX10_init_43 rfl (lv_at hl 0 rfl) ?_
  refine va_ldcS hx hb hown hR.2.2.2.2.1 dX10_init_44 ?_
  refine lv_bipush (v := (33 : Int32)) hx hb dX10_init_46 (by decide) ?_
  obtain ⟨k5, hl5, hV⟩ := bd1_some hV
  have hPc := hP.sub (ws' := [(aVocabulary, .inr (9, [.ref aVocabulary_keys])), (aVocabulary_keys, .inl (cJ, 49, .inr (.inl k4)))]) [0, 1] rfl
  have hDc := hD.sub (ws' := [(aVocabulary, .inr (9, [.ref aVocabulary_keys])), (aVocabulary_keys, .inl (cJ, 49, .inr (.inl k4)))]) [0, 1] (by decide) rfl
  have hFc := va_free (wc := [(aVocabulary, .inr (9, [.ref aVocabulary_keys])), (aVocabulary_keys, .inl (cJ, 49, .inr (.inl k4)))]) hD hS hA [0, 1] rfl
  refine va_callv (va_runV (As := [.ref (adK 4), .int (33 : Int32)]) (rest := []) ⟨hx, hb, hml, hown, hts⟩ (ctX10_learn l dC dI cI cC cJ aVocabulary aVocabulary_keys _ adK adV 4 (by decide) k4 (33 : Int32) k5 hl5) (cwV 2 hts (gV_ hc_ mw_671 mw_672 mw_673 mw_95 mw_674) rfl rfl rfl (by decide +kernel) ⟨Nat.le_of_ble_eq_true rfl, Nat.le_of_ble_eq_true rfl⟩) ⟨fun a U g mk q => by obtain ⟨q0, q1, qP, qK, qD, qX⟩ := q; exact ⟨q0, q1, qP, va_K.moved (u := U) (U := U.calling g mk a) (Vm.Alike.refl U.vm) qK, qD, qX.moved (u := U) (U := U.calling g mk a) (Vm.Alike.refl U.vm)⟩, va_recv hK hPc (ci := 9) (q0 := 0) rfl rfl, fun U hU hW => ⟨rfl, by rw [hU], by rw [hU]; exact hPc, va_K.moved hW.alike hK, hDc.weaken (fun _ _ _ _ => trivial), by rw [hU]; exact ((hX.kept hS.2.1).narrow hFc).moved hW.alike⟩⟩ rfl rfl hl.1 rfl (lv_room (Nat.le_of_ble_eq_true rfl)) dX10_init_48 ⟨Nat.le_of_ble_eq_true rfl, Nat.le_of_ble_eq_true rfl⟩) hS (fun q _ h => hFc q h) hFc (fun u t H1 locs ht hvm hw hB hz1 hk1 hS => ?_)
  obtain ⟨hP1, hK1, hD1⟩ := hB
  rw [ht] at hP1
  obtain ⟨hP, hD⟩ := va_join (wr := []) (w1 := [(aVocabulary, .inr (9, [.ref aVocabulary_keys])), (aVocabulary_keys, .inl (cJ, 49, .inr (.inl k5)))]) hP hD [0, 1] [] rfl rfl (by decide) (by decide) hk1 hFc hP1 hD1
  generalize H1 = H at hP hS ⊢
  have hP : va_P (dC, dI) vwCl [(aVocabulary, .inr (9, [.ref aVocabulary_keys])), (aVocabulary_keys, .inl (cJ, 49, .inr (.inl k5)))] H := hP
  have hD : va_D A [(aVocabulary, .inr (9, [.ref aVocabulary_keys])), (aVocabulary_keys, .inl (cJ, 49, .inr (.inl k5)))] := hD
  refine W.widen (k := 1) (n := 49) (Nat.le_refl _) (Nat.le_refl _) ?_
  refine lv_aload_n hx hb dX10_init_51 rfl (lv_at hl 0 rfl) ?_
  refine va_ldcS hx hb hown hR.2.2.2.2.2 dX10_init_52 ?_
  refine lv_bipush (v := (46 : Int32)) hx hb dX10_init_54 (by decide) ?_
  obtain ⟨k6, hl6, hV⟩ := bd1_some hV
  have hPc := hP.sub (ws' := [(aVocabulary, .inr (9, [.ref aVocabulary_keys])), (aVocabulary_keys, .inl (cJ, 49, .inr (.inl k5)))]) [0, 1] rfl
  have hDc := hD.sub (ws' := [(aVocabulary, .inr (9, [.ref aVocabulary_keys])), (aVocabulary_keys, .inl (cJ, 49, .inr (.inl k5)))]) [0, 1] (by decide) rfl
  have hFc := va_free (wc := [(aVocabulary, .inr (9, [.ref aVocabulary_keys])), (aVocabulary_keys, .inl (cJ, 49, .inr (.inl k5)))]) hD hS hA [0, 1] rfl
  refine va_callv (va_runV (As := [.ref (adK 5), .int (46 : Int32)]) (rest := []) ⟨hx, hb, hml, hown, hts⟩ (ctX10_learn l dC dI cI cC cJ aVocabulary aVocabulary_keys _ adK adV 5 (by decide) k5 (46 : Int32) k6 hl6) (cwV 2 hts (gV_ hc_ mw_671 mw_672 mw_673 mw_95 mw_674) rfl rfl rfl (by decide +kernel) ⟨Nat.le_of_ble_eq_true rfl, Nat.le_of_ble_eq_true rfl⟩) ⟨fun a U g mk q => by obtain ⟨q0, q1, qP, qK, qD, qX⟩ := q; exact ⟨q0, q1, qP, va_K.moved (u := U) (U := U.calling g mk a) (Vm.Alike.refl U.vm) qK, qD, qX.moved (u := U) (U := U.calling g mk a) (Vm.Alike.refl U.vm)⟩, va_recv hK hPc (ci := 9) (q0 := 0) rfl rfl, fun U hU hW => ⟨rfl, by rw [hU], by rw [hU]; exact hPc, va_K.moved hW.alike hK, hDc.weaken (fun _ _ _ _ => trivial), by rw [hU]; exact ((hX.kept hS.2.1).narrow hFc).moved hW.alike⟩⟩ rfl rfl hl.1 rfl (lv_room (Nat.le_of_ble_eq_true rfl)) dX10_init_56 ⟨Nat.le_of_ble_eq_true rfl, Nat.le_of_ble_eq_true rfl⟩) hS (fun q _ h => hFc q h) hFc (fun u t H1 locs ht hvm hw hB hz1 hk1 hS => ?_)
  obtain ⟨hP1, hK1, hD1⟩ := hB
  rw [ht] at hP1
  obtain ⟨hP, hD⟩ := va_join (wr := []) (w1 := [(aVocabulary, .inr (9, [.ref aVocabulary_keys])), (aVocabulary_keys, .inl (cJ, 49, .inr (.inl k6)))]) hP hD [0, 1] [] rfl rfl (by decide) (by decide) hk1 hFc hP1 hD1
  generalize H1 = H at hP hS ⊢
  have hP : va_P (dC, dI) vwCl [(aVocabulary, .inr (9, [.ref aVocabulary_keys])), (aVocabulary_keys, .inl (cJ, 49, .inr (.inl k6)))] H := hP
  have hD : va_D A [(aVocabulary, .inr (9, [.ref aVocabulary_keys])), (aVocabulary_keys, .inl (cJ, 49, .inr (.inl k6)))] := hD
  refine W.widen (k := 1) (n := 49) (Nat.le_refl _) (Nat.le_refl _) ?_
  cases hV
  rw [hQ]
  exact W.vret hx hb hr (fun t ht hW => ⟨⟨(), rfl, trivial, aVocabulary_keys, by rw [ht]; exact hP, va_K.moved hW.alike hK, hD⟩, hS.F ht⟩) hS.2.2 dX10_init_59
abbrev rmX3_init : Room := { frames := 6, cells := 2, slots := 50, locals := 130 }
set_option maxHeartbeats 4000000 in
set_option maxRecDepth 100000 in
theorem ctX3_init (l : Launch) (dC : Nat → ClassId) (dI : Nat → Nat → Nat) (cI cC cJ : ClassId) (aLoader aText aDictionary aMachine : Nat) (sz : Nat) (adK adV : Nat → Nat) (w_keys : Nat → Int64) (hV : fnX10_init = some w_keys)  : Met l yX3_init wsX3_init rmX3_init (va_Pc [.ref aLoader, .ref aText, .ref aDictionary, .ref aMachine] (fun U => U.heap.size = sz ∧ va_P (dC, dI) vwCl [(aLoader, .inr (3, [.null, .null, .null, .null, .int 0]))] U.heap ∧ va_K (dC, dI) vwCl [(cI, .int), (cC, .char), (cJ, .long)] U ∧ va_D (fun _ => True) [(aLoader, .inr (3, [.null, .null, .null, .null, .int 0]))] ∧ SX adK adV (va_A [(aLoader, .inr (3, [.null, .null, .null, .null, .int 0]))] sz) U U.heap ∧ SR adK U)) (va_Qv (fun (_ : Unit) => True) (fun _ t => ∃ (aVocabulary aVocabulary_keys : Nat), va_P (dC, dI) vwCl [(aLoader, .inr (3, [.ref aText, .ref aDictionary, .ref aMachine, .ref aVocabulary, .int (-1 : Int32)])), (aVocabulary, .inr (9, [.ref aVocabulary_keys])), (aVocabulary_keys, .inl (cJ, 49, .inr (.inl w_keys)))] t.heap ∧ va_K (dC, dI) vwCl [(cI, .int), (cC, .char), (cJ, .long)] t ∧ va_D (va_A [(aLoader, .inr (3, [.null, .null, .null, .null, .int 0]))] sz) [(aLoader, .inr (3, [.ref aText, .ref aDictionary, .ref aMachine, .ref aVocabulary, .int (-1 : Int32)])), (aVocabulary, .inr (9, [.ref aVocabulary_keys])), (aVocabulary_keys, .inl (cJ, 49, .inr (.inl w_keys)))]) (va_A [(aLoader, .inr (3, [.null, .null, .null, .null, .int 0]))] sz)) 2 50 (va_A [(aLoader, .inr (3, [.null, .null, .null, .null, .int 0]))] sz) := by
  refine Met.ofW (cc := cX3_init) (maxL := 4) (ret := none) (by decide) rfl ?_
  intro p e s m args below meth c s₁ B hml hv
  obtain ⟨hargs, hsz, hP, hK, hD0, hX, hR⟩ := hv
  have hx := B.exec
  have hb := B.bytes
  have hr := B.returns
  have hts := atoms_spec (ws := wsX3_init) B.pre
  have hown : s.vm.findClass RX3 = some m.cls := findClass_of_methodNamed B.named
  have hlocks := B.notSynchronized
  have hin : meth.name = "<init>" := (name_of_methodNamed B.named B.method).1
  subst hsz
  have hD := hD0.self (sz := s.heap.size)
  generalize hAe : va_A [(aLoader, .inr (3, [.null, .null, .null, .null, .int 0]))] s.heap.size = A at hD hX ⊢
  have hA : ∀ q : Nat, s.heap.size ≤ q → A q := fun q h => by rw [← hAe]; exact Or.inr h
  have hS : va_S A s.heap s.heap [] := va_S.rf
  have hl := lv_entry ([.ref aLoader, .ref aText, .ref aDictionary, .ref aMachine]) (n := 4) (Nat.le_of_ble_eq_true rfl)
  have hfr : entryFrame m args 4 = entryFrame m ([.ref aLoader, .ref aText, .ref aDictionary, .ref aMachine] : List Value).toArray 4 := by rw [hargs]
  rw [hfr, lg_entry_eq]
  generalize (lg_sl ([.ref aLoader, .ref aText, .ref aDictionary, .ref aMachine]) ++ List.replicate (4 - (lg_sl ([.ref aLoader, .ref aText, .ref aDictionary, .ref aMachine])).length) Slot.unset).toArray = ls at hl ⊢
  have hl : lv_has ls 4 [(0, .ref aLoader), (1, .ref aText), (2, .ref aDictionary), (3, .ref aMachine)] := hl
  refine nameQ_ (fun Q hQ => ?_)
  refine lv_aload_n hx hb dX3_init_0 rfl (lv_at hl 0 rfl) ?_
  refine W.objInit hx hb hown (hts _ (List.mem_cons_of_mem _ mw_675)) (hts _ (List.mem_cons_of_mem _ mw_605)) (hts _ (List.mem_cons_of_mem _ mw_606)) rfl (by rw [hml]; exact hl.1) rfl dX3_init_1 (Nat.le_of_ble_eq_true rfl) (Nat.le_of_ble_eq_true rfl) ?_
  refine W.eq (g2 := F0 m 4 ls []) rfl ?_
  refine lv_aload_n hx hb dX3_init_4 rfl (lv_at hl 0 rfl) ?_
  refine lv_aload_n hx hb dX3_init_5 rfl (lv_at hl 1 rfl) ?_
  refine va_putF (D := (dC, dI)) (ci := 3) (v := .ref aText) (ty := .object "WordForge$Text") (C := RX3) (T := TX3) (N := 5) hx hb hts (fun w h => List.mem_cons_of_mem _ (inX3 w h)) tyX3 tyX3_ok nmX3 hown hK hP hD hS 0 rfl rfl 0 (by decide) (hts _ (List.mem_cons_of_mem _ mw_82)) (fun _ h9 => h9) rfl hin rfl (by decide +kernel) rfl rfl (Nat.le_of_ble_eq_true rfl) dX3_init_6 (fun H locs hP hD hS => ?_)
  have hP : va_P (dC, dI) vwCl [(aLoader, .inr (3, [.ref aText, .null, .null, .null, .int 0]))] H := hP
  have hD : va_D A [(aLoader, .inr (3, [.ref aText, .null, .null, .null, .int 0]))] := hD
  refine lv_aload_n hx hb dX3_init_9 rfl (lv_at hl 0 rfl) ?_
  refine lv_aload_n hx hb dX3_init_10 rfl (lv_at hl 2 rfl) ?_
  refine va_putF (D := (dC, dI)) (ci := 3) (v := .ref aDictionary) (ty := .object "WordForge$Dictionary") (C := RX3) (T := TX3) (N := 5) hx hb hts (fun w h => List.mem_cons_of_mem _ (inX3 w h)) tyX3 tyX3_ok nmX3 hown hK hP hD hS 0 rfl rfl 1 (by decide) (hts _ (List.mem_cons_of_mem _ mw_97)) (fun _ h9 => h9) rfl hin rfl (by decide +kernel) rfl rfl (Nat.le_of_ble_eq_true rfl) dX3_init_11 (fun H locs hP hD hS => ?_)
  have hP : va_P (dC, dI) vwCl [(aLoader, .inr (3, [.ref aText, .ref aDictionary, .null, .null, .int 0]))] H := hP
  have hD : va_D A [(aLoader, .inr (3, [.ref aText, .ref aDictionary, .null, .null, .int 0]))] := hD
  refine lv_aload_n hx hb dX3_init_14 rfl (lv_at hl 0 rfl) ?_
  refine lv_aload_n hx hb dX3_init_15 rfl (lv_at hl 3 rfl) ?_
  refine va_putF (D := (dC, dI)) (ci := 3) (v := .ref aMachine) (ty := .object "WordForge$Machine") (C := RX3) (T := TX3) (N := 5) hx hb hts (fun w h => List.mem_cons_of_mem _ (inX3 w h)) tyX3 tyX3_ok nmX3 hown hK hP hD hS 0 rfl rfl 2 (by decide) (hts _ (List.mem_cons_of_mem _ mw_304)) (fun _ h9 => h9) rfl hin rfl (by decide +kernel) rfl rfl (Nat.le_of_ble_eq_true rfl) dX3_init_16 (fun H locs hP hD hS => ?_)
  have hP : va_P (dC, dI) vwCl [(aLoader, .inr (3, [.ref aText, .ref aDictionary, .ref aMachine, .null, .int 0]))] H := hP
  have hD : va_D A [(aLoader, .inr (3, [.ref aText, .ref aDictionary, .ref aMachine, .null, .int 0]))] := hD
  refine lv_aload_n hx hb dX3_init_19 rfl (lv_at hl 0 rfl) ?_
  refine va_new (ci := 9) (fs := [.null]) (C := RX10) (T := TX10) (N := 1) hx hb hts (fun w h => List.mem_cons_of_mem _ (inX10 w h)) tyX10 tyX10_ok hown (hts _ (List.mem_cons_of_mem _ mw_676)) (hts _ (List.mem_cons_of_mem _ mw_677)) (hts _ (List.mem_cons_of_mem _ mw_95)) hK hP hD hS hA rfl (fun j hj => by rcases (show j = 0 by omega) with rfl <;> rfl) (Nat.le_of_ble_eq_true rfl) (Nat.le_of_ble_eq_true rfl) dX3_init_20 (fun aVocabulary H hP hD hS => ?_)
  have hP : va_P (dC, dI) vwCl [(aLoader, .inr (3, [.ref aText, .ref aDictionary, .ref aMachine, .null, .int 0])), (aVocabulary, .inr (9, [.null]))] H := hP
  have hD : va_D A [(aLoader, .inr (3, [.ref aText, .ref aDictionary, .ref aMachine, .null, .int 0])), (aVocabulary, .inr (9, [.null]))] := hD
  refine W.widen (k := 1) (n := 1) (by decide) (by decide) ?_
  refine lv_dup hx hb dX3_init_23 rfl ?_
  have hPc := hP.sub (ws' := [(aVocabulary, .inr (9, [.null]))]) [1] rfl
  have hDc := hD.sub (ws' := [(aVocabulary, .inr (9, [.null]))]) [1] (by decide) rfl
  have hFc := va_free (wc := [(aVocabulary, .inr (9, [.null]))]) hD hS hA [1] rfl
  refine va_callv (va_runI (As := []) (rest := [.ref aVocabulary, .ref aLoader]) ⟨hx, hb, hml, hown, hts⟩ (ctX10_init l dC dI cI cC cJ aVocabulary _ adK adV w_keys hV) (cwI 0 hts (gw_ hc_ mw_678) rfl rfl rfl (hts _ (List.mem_cons_of_mem _ mw_95)) (hts _ (List.mem_cons_of_mem _ mw_679)) (hts _ (List.mem_cons_of_mem _ mw_680)) rfl (by decide +kernel) ⟨Nat.le_of_ble_eq_true rfl, Nat.le_of_ble_eq_true rfl⟩) ⟨fun a U g mk q => by obtain ⟨q0, q1, qP, qK, qD, qX, qR⟩ := q; exact ⟨q0, q1, qP, va_K.moved (u := U) (U := U.calling g mk a) (Vm.Alike.refl U.vm) qK, qD, qX.moved (u := U) (U := U.calling g mk a) (Vm.Alike.refl U.vm), SR.same rfl qR⟩, fun U hU hW => ⟨rfl, by rw [hU], by rw [hU]; exact hPc, va_K.moved hW.alike hK, hDc.weaken (fun _ _ _ _ => trivial), by rw [hU]; exact ((hX.kept hS.2.1).narrow hFc).moved hW.alike, hR.warm hW⟩⟩ rfl rfl hl.1 rfl (lv_room (Nat.le_of_ble_eq_true rfl)) dX3_init_24 ⟨Nat.le_of_ble_eq_true rfl, Nat.le_of_ble_eq_true rfl⟩) hS (fun q _ h => hFc q h) hFc (fun u t H1 locs ht hvm hw hB hz1 hk1 hS => ?_)
  obtain ⟨aVocabulary_keys, hP1, hK1, hD1⟩ := hB
  rw [ht] at hP1
  obtain ⟨hP, hD⟩ := va_join (wr := [(aLoader, .inr (3, [.ref aText, .ref aDictionary, .ref aMachine, .null, .int 0]))]) (w1 := [(aVocabulary, .inr (9, [.ref aVocabulary_keys])), (aVocabulary_keys, .inl (cJ, 49, .inr (.inl w_keys)))]) hP hD [1] [0] rfl rfl (by decide) (by decide) hk1 hFc hP1 hD1
  generalize H1 = H at hP hS ⊢
  have hP : va_P (dC, dI) vwCl [(aLoader, .inr (3, [.ref aText, .ref aDictionary, .ref aMachine, .null, .int 0])), (aVocabulary, .inr (9, [.ref aVocabulary_keys])), (aVocabulary_keys, .inl (cJ, 49, .inr (.inl w_keys)))] H := hP
  have hD : va_D A [(aLoader, .inr (3, [.ref aText, .ref aDictionary, .ref aMachine, .null, .int 0])), (aVocabulary, .inr (9, [.ref aVocabulary_keys])), (aVocabulary_keys, .inl (cJ, 49, .inr (.inl w_keys)))] := hD
  refine W.widen (k := 2) (n := 50) (by decide) (by decide) ?_
  refine va_putF (D := (dC, dI)) (ci := 3) (v := .ref aVocabulary) (ty := .object "WordForge$Vocabulary") (C := RX3) (T := TX3) (N := 5) hx hb hts (fun w h => List.mem_cons_of_mem _ (inX3 w h)) tyX3 tyX3_ok nmX3 hown hK hP hD hS 0 rfl rfl 3 (by decide) (hts _ (List.mem_cons_of_mem _ mw_91)) (fun _ h9 => h9) rfl hin rfl (by decide +kernel) rfl rfl (Nat.le_of_ble_eq_true rfl) dX3_init_27 (fun H locs hP hD hS => ?_)
  have hP : va_P (dC, dI) vwCl [(aLoader, .inr (3, [.ref aText, .ref aDictionary, .ref aMachine, .ref aVocabulary, .int 0])), (aVocabulary, .inr (9, [.ref aVocabulary_keys])), (aVocabulary_keys, .inl (cJ, 49, .inr (.inl w_keys)))] H := hP
  have hD : va_D A [(aLoader, .inr (3, [.ref aText, .ref aDictionary, .ref aMachine, .ref aVocabulary, .int 0])), (aVocabulary, .inr (9, [.ref aVocabulary_keys])), (aVocabulary_keys, .inl (cJ, 49, .inr (.inl w_keys)))] := hD
  refine lv_aload_n hx hb dX3_init_30 rfl (lv_at hl 0 rfl) ?_
  refine lv_iconst (v := (-1 : Int32)) hx hb dX3_init_31 (by decide) ?_
  refine va_put (D := (dC, dI)) (ci := 3) (v := .int (-1 : Int32)) (ty := .int) (C := RX3) (T := TX3) (N := 5) hx hb hts (fun w h => List.mem_cons_of_mem _ (inX3 w h)) tyX3 tyX3_ok nmX3 hown hK hP hD hS 0 rfl rfl 4 (by decide) (hts _ (List.mem_cons_of_mem _ mw_55)) (fun _ h9 => h9) rfl (by decide +kernel) rfl rfl (Nat.le_of_ble_eq_true rfl) dX3_init_32 (fun H locs hP hD hS => ?_)
  have hP : va_P (dC, dI) vwCl [(aLoader, .inr (3, [.ref aText, .ref aDictionary, .ref aMachine, .ref aVocabulary, .int (-1 : Int32)])), (aVocabulary, .inr (9, [.ref aVocabulary_keys])), (aVocabulary_keys, .inl (cJ, 49, .inr (.inl w_keys)))] H := hP
  have hD : va_D A [(aLoader, .inr (3, [.ref aText, .ref aDictionary, .ref aMachine, .ref aVocabulary, .int (-1 : Int32)])), (aVocabulary, .inr (9, [.ref aVocabulary_keys])), (aVocabulary_keys, .inl (cJ, 49, .inr (.inl w_keys)))] := hD
  rw [hQ]
  exact W.vret hx hb hr (fun t ht hW => ⟨⟨(), rfl, trivial, aVocabulary, aVocabulary_keys, by rw [ht]; exact hP, va_K.moved hW.alike hK, hD⟩, hS.F ht⟩) hS.2.2 dX3_init_35
abbrev rmX11_init : Room := { frames := 7, cells := 25, slots := 964, locals := 153 }
set_option maxHeartbeats 4000000 in
set_option maxRecDepth 100000 in
theorem ctX11_init (l : Launch) (dC : Nat → ClassId) (dI : Nat → Nat → Nat) (cI cC cJ : ClassId) (aWF : Nat) (sz : Nat) (adK adV : Nat → Nat) (w_keys : Nat → Int64) (hV : fnX10_init = some w_keys)  : Met l yX11_init wsX11_init rmX11_init (va_Pc [.ref aWF] (fun U => U.heap.size = sz ∧ va_P (dC, dI) vwCl [(aWF, .inr (10, [.null, .null, .null, .null, .null, .null]))] U.heap ∧ va_K (dC, dI) vwCl [(cI, .int), (cC, .char), (cJ, .long)] U ∧ va_D (fun _ => True) [(aWF, .inr (10, [.null, .null, .null, .null, .null, .null]))] ∧ SX adK adV (va_A [(aWF, .inr (10, [.null, .null, .null, .null, .null, .null]))] sz) U U.heap ∧ SR adK U)) (va_Qv (fun (_ : Unit) => True) (fun _ t => ∃ (aText aText_codes aStack aStack_values aTape aTape_latest aDictionary aDictionary_keys aDictionary_starts aCode aCode_ops aCode_args aLinker aLinker_waiting aMachine aMachine_cells aLoops aLoops_counts aLoops_limits aMachine_ends aMachine_returns aMachine_loopsBefore aLoader aVocabulary aVocabulary_keys : Nat), va_P (dC, dI) vwCl [(aWF, .inr (10, [.ref aText, .ref aStack, .ref aTape, .ref aDictionary, .ref aMachine, .ref aLoader])), (aText, .inr (8, [.ref aText_codes, .int 0, .int 0, .int 0, .int 0])), (aText_codes, .inl (cC, 300, .inl (fun _ => 0))), (aStack, .inr (6, [.ref aStack_values, .int 0])), (aStack_values, .inl (cI, 32, .inl (fun _ => 0))), (aTape, .inr (7, [.ref aTape_latest, .int 0])), (aTape_latest, .inl (cI, 16, .inl (fun _ => 0))), (aDictionary_keys, .inl (cJ, 20, .inr (.inl (fun _ => 0)))), (aDictionary_starts, .inl (cI, 21, .inl (fun _ => 0))), (aCode, .inr (0, [.ref aCode_ops, .ref aCode_args])), (aCode_ops, .inl (cI, 200, .inl (fun _ => 0))), (aCode_args, .inl (cI, 200, .inl (fun _ => 0))), (aLinker, .inr (2, [.ref aCode, .ref aLinker_waiting, .int 0, .int 0])), (aLinker_waiting, .inl (cI, 8, .inl (fun _ => 0))), (aMachine, .inr (5, [.ref aStack, .ref aTape, .ref aDictionary, .ref aCode, .ref aMachine_cells, .ref aLoops, .ref aMachine_ends, .ref aMachine_returns, .ref aMachine_loopsBefore, .int 0, .int 0, .int 0])), (aDictionary, .inr (1, [.ref aDictionary_keys, .ref aDictionary_starts, .ref aCode, .ref aLinker, .int 0, .int 0])), (aMachine_cells, .inl (cI, 16, .inl (fun _ => 0))), (aLoops, .inr (4, [.ref aLoops_counts, .ref aLoops_limits, .int 0])), (aLoops_counts, .inl (cI, 12, .inl (fun _ => 0))), (aLoops_limits, .inl (cI, 12, .inl (fun _ => 0))), (aMachine_ends, .inl (cI, 12, .inl (fun _ => 0))), (aMachine_returns, .inl (cI, 12, .inl (fun _ => 0))), (aMachine_loopsBefore, .inl (cI, 12, .inl (fun _ => 0))), (aLoader, .inr (3, [.ref aText, .ref aDictionary, .ref aMachine, .ref aVocabulary, .int (-1 : Int32)])), (aVocabulary, .inr (9, [.ref aVocabulary_keys])), (aVocabulary_keys, .inl (cJ, 49, .inr (.inl w_keys)))] t.heap ∧ va_K (dC, dI) vwCl [(cI, .int), (cC, .char), (cJ, .long)] t ∧ va_D (va_A [(aWF, .inr (10, [.null, .null, .null, .null, .null, .null]))] sz) [(aWF, .inr (10, [.ref aText, .ref aStack, .ref aTape, .ref aDictionary, .ref aMachine, .ref aLoader])), (aText, .inr (8, [.ref aText_codes, .int 0, .int 0, .int 0, .int 0])), (aText_codes, .inl (cC, 300, .inl (fun _ => 0))), (aStack, .inr (6, [.ref aStack_values, .int 0])), (aStack_values, .inl (cI, 32, .inl (fun _ => 0))), (aTape, .inr (7, [.ref aTape_latest, .int 0])), (aTape_latest, .inl (cI, 16, .inl (fun _ => 0))), (aDictionary_keys, .inl (cJ, 20, .inr (.inl (fun _ => 0)))), (aDictionary_starts, .inl (cI, 21, .inl (fun _ => 0))), (aCode, .inr (0, [.ref aCode_ops, .ref aCode_args])), (aCode_ops, .inl (cI, 200, .inl (fun _ => 0))), (aCode_args, .inl (cI, 200, .inl (fun _ => 0))), (aLinker, .inr (2, [.ref aCode, .ref aLinker_waiting, .int 0, .int 0])), (aLinker_waiting, .inl (cI, 8, .inl (fun _ => 0))), (aMachine, .inr (5, [.ref aStack, .ref aTape, .ref aDictionary, .ref aCode, .ref aMachine_cells, .ref aLoops, .ref aMachine_ends, .ref aMachine_returns, .ref aMachine_loopsBefore, .int 0, .int 0, .int 0])), (aDictionary, .inr (1, [.ref aDictionary_keys, .ref aDictionary_starts, .ref aCode, .ref aLinker, .int 0, .int 0])), (aMachine_cells, .inl (cI, 16, .inl (fun _ => 0))), (aLoops, .inr (4, [.ref aLoops_counts, .ref aLoops_limits, .int 0])), (aLoops_counts, .inl (cI, 12, .inl (fun _ => 0))), (aLoops_limits, .inl (cI, 12, .inl (fun _ => 0))), (aMachine_ends, .inl (cI, 12, .inl (fun _ => 0))), (aMachine_returns, .inl (cI, 12, .inl (fun _ => 0))), (aMachine_loopsBefore, .inl (cI, 12, .inl (fun _ => 0))), (aLoader, .inr (3, [.ref aText, .ref aDictionary, .ref aMachine, .ref aVocabulary, .int (-1 : Int32)])), (aVocabulary, .inr (9, [.ref aVocabulary_keys])), (aVocabulary_keys, .inl (cJ, 49, .inr (.inl w_keys)))]) (va_A [(aWF, .inr (10, [.null, .null, .null, .null, .null, .null]))] sz)) 25 964 (va_A [(aWF, .inr (10, [.null, .null, .null, .null, .null, .null]))] sz) := by
  refine Met.ofW (cc := cX11_init) (maxL := 1) (ret := none) (by decide) rfl ?_
  intro p e s m args below meth c s₁ B hml hv
  obtain ⟨hargs, hsz, hP, hK, hD0, hX, hR⟩ := hv
  have hx := B.exec
  have hb := B.bytes
  have hr := B.returns
  have hts := atoms_spec (ws := wsX11_init) B.pre
  have hown : s.vm.findClass RX11 = some m.cls := findClass_of_methodNamed B.named
  have hlocks := B.notSynchronized
  have hin : meth.name = "<init>" := (name_of_methodNamed B.named B.method).1
  subst hsz
  have hD := hD0.self (sz := s.heap.size)
  generalize hAe : va_A [(aWF, .inr (10, [.null, .null, .null, .null, .null, .null]))] s.heap.size = A at hD hX ⊢
  have hA : ∀ q : Nat, s.heap.size ≤ q → A q := fun q h => by rw [← hAe]; exact Or.inr h
  have hS : va_S A s.heap s.heap [] := va_S.rf
  have hl := lv_entry ([.ref aWF]) (n := 1) (Nat.le_of_ble_eq_true rfl)
  have hfr : entryFrame m args 1 = entryFrame m ([.ref aWF] : List Value).toArray 1 := by rw [hargs]
  rw [hfr, lg_entry_eq]
  generalize (lg_sl ([.ref aWF]) ++ List.replicate (1 - (lg_sl ([.ref aWF])).length) Slot.unset).toArray = ls at hl ⊢
  have hl : lv_has ls 1 [(0, .ref aWF)] := hl
  refine nameQ_ (fun Q hQ => ?_)
  refine lv_aload_n hx hb dX11_init_0 rfl (lv_at hl 0 rfl) ?_
  refine W.objInit hx hb hown (hts _ (List.mem_cons_of_mem _ mw_681)) (hts _ (List.mem_cons_of_mem _ mw_605)) (hts _ (List.mem_cons_of_mem _ mw_606)) rfl (by rw [hml]; exact hl.1) rfl dX11_init_1 (Nat.le_of_ble_eq_true rfl) (Nat.le_of_ble_eq_true rfl) ?_
  refine W.eq (g2 := F0 m 4 ls []) rfl ?_
  refine lv_aload_n hx hb dX11_init_4 rfl (lv_at hl 0 rfl) ?_
  refine va_new (ci := 8) (fs := [.null, .int 0, .int 0, .int 0, .int 0]) (C := RX9) (T := TX9) (N := 5) hx hb hts (fun w h => List.mem_cons_of_mem _ (inX9 w h)) tyX9 tyX9_ok hown (hts _ (List.mem_cons_of_mem _ mw_682)) (hts _ (List.mem_cons_of_mem _ mw_683)) (hts _ (List.mem_cons_of_mem _ mw_73)) hK hP hD hS hA rfl (fun j hj => by rcases (show j = 0 ∨ j = 1 ∨ j = 2 ∨ j = 3 ∨ j = 4 by omega) with rfl | rfl | rfl | rfl | rfl <;> rfl) (Nat.le_of_ble_eq_true rfl) (Nat.le_of_ble_eq_true rfl) dX11_init_5 (fun aText H hP hD hS => ?_)
  have hP : va_P (dC, dI) vwCl [(aWF, .inr (10, [.null, .null, .null, .null, .null, .null])), (aText, .inr (8, [.null, .int 0, .int 0, .int 0, .int 0]))] H := hP
  have hD : va_D A [(aWF, .inr (10, [.null, .null, .null, .null, .null, .null])), (aText, .inr (8, [.null, .int 0, .int 0, .int 0, .int 0]))] := hD
  refine W.widen (k := 1) (n := 5) (by decide) (by decide) ?_
  refine lv_dup hx hb dX11_init_8 rfl ?_
  have hPc := hP.sub (ws' := [(aText, .inr (8, [.null, .int 0, .int 0, .int 0, .int 0]))]) [1] rfl
  have hDc := hD.sub (ws' := [(aText, .inr (8, [.null, .int 0, .int 0, .int 0, .int 0]))]) [1] (by decide) rfl
  have hFc := va_free (wc := [(aText, .inr (8, [.null, .int 0, .int 0, .int 0, .int 0]))]) hD hS hA [1] rfl
  refine va_callv (va_runI (As := []) (rest := [.ref aText, .ref aWF]) ⟨hx, hb, hml, hown, hts⟩ (ctX9_init l dC dI cI cC cJ aText _) (cwI 0 hts (gw_ hc_ mw_684) rfl rfl rfl (hts _ (List.mem_cons_of_mem _ mw_73)) (hts _ (List.mem_cons_of_mem _ mw_685)) (hts _ (List.mem_cons_of_mem _ mw_686)) rfl (by decide +kernel) ⟨Nat.le_of_ble_eq_true rfl, Nat.le_of_ble_eq_true rfl⟩) ⟨fun a U g mk q => by obtain ⟨q0, q1, qP, qK, qD⟩ := q; exact ⟨q0, q1, qP, va_K.moved (u := U) (U := U.calling g mk a) (Vm.Alike.refl U.vm) qK, qD⟩, fun U hU hW => ⟨rfl, by rw [hU], by rw [hU]; exact hPc, va_K.moved hW.alike hK, hDc.weaken (fun _ _ _ _ => trivial)⟩⟩ rfl rfl hl.1 rfl (lv_room (Nat.le_of_ble_eq_true rfl)) dX11_init_9 ⟨Nat.le_of_ble_eq_true rfl, Nat.le_of_ble_eq_true rfl⟩) hS (fun q _ h => hFc q h) hFc (fun u t H1 locs ht hvm hw hB hz1 hk1 hS => ?_)
  obtain ⟨aText_codes, hP1, hK1, hD1⟩ := hB
  rw [ht] at hP1
  obtain ⟨hP, hD⟩ := va_join (wr := [(aWF, .inr (10, [.null, .null, .null, .null, .null, .null]))]) (w1 := [(aText, .inr (8, [.ref aText_codes, .int 0, .int 0, .int 0, .int 0])), (aText_codes, .inl (cC, 300, .inl (fun _ => 0)))]) hP hD [1] [0] rfl rfl (by decide) (by decide) hk1 hFc hP1 hD1
  generalize H1 = H at hP hS ⊢
  have hP : va_P (dC, dI) vwCl [(aWF, .inr (10, [.null, .null, .null, .null, .null, .null])), (aText, .inr (8, [.ref aText_codes, .int 0, .int 0, .int 0, .int 0])), (aText_codes, .inl (cC, 300, .inl (fun _ => 0)))] H := hP
  have hD : va_D A [(aWF, .inr (10, [.null, .null, .null, .null, .null, .null])), (aText, .inr (8, [.ref aText_codes, .int 0, .int 0, .int 0, .int 0])), (aText_codes, .inl (cC, 300, .inl (fun _ => 0)))] := hD
  refine W.widen (k := 2) (n := 305) (by decide) (by decide) ?_
  refine va_putF (D := (dC, dI)) (ci := 10) (v := .ref aText) (ty := .object "WordForge$Text") (C := RX11) (T := TX11) (N := 6) hx hb hts (fun w h => List.mem_cons_of_mem _ (inX11 w h)) tyX11 tyX11_ok nmX11 hown hK hP hD hS 0 rfl rfl 0 (by decide) (hts _ (List.mem_cons_of_mem _ mw_347)) (fun _ h9 => h9) rfl hin rfl (by decide +kernel) rfl rfl (Nat.le_of_ble_eq_true rfl) dX11_init_12 (fun H locs hP hD hS => ?_)
  have hP : va_P (dC, dI) vwCl [(aWF, .inr (10, [.ref aText, .null, .null, .null, .null, .null])), (aText, .inr (8, [.ref aText_codes, .int 0, .int 0, .int 0, .int 0])), (aText_codes, .inl (cC, 300, .inl (fun _ => 0)))] H := hP
  have hD : va_D A [(aWF, .inr (10, [.ref aText, .null, .null, .null, .null, .null])), (aText, .inr (8, [.ref aText_codes, .int 0, .int 0, .int 0, .int 0])), (aText_codes, .inl (cC, 300, .inl (fun _ => 0)))] := hD
  refine lv_aload_n hx hb dX11_init_15 rfl (lv_at hl 0 rfl) ?_
  refine va_new (ci := 6) (fs := [.null, .int 0]) (C := RX7) (T := TX7) (N := 2) hx hb hts (fun w h => List.mem_cons_of_mem _ (inX7 w h)) tyX7 tyX7_ok hown (hts _ (List.mem_cons_of_mem _ mw_687)) (hts _ (List.mem_cons_of_mem _ mw_688)) (hts _ (List.mem_cons_of_mem _ mw_155)) hK hP hD hS hA rfl (fun j hj => by rcases (show j = 0 ∨ j = 1 by omega) with rfl | rfl <;> rfl) (Nat.le_of_ble_eq_true rfl) (Nat.le_of_ble_eq_true rfl) dX11_init_16 (fun aStack H hP hD hS => ?_)
  have hP : va_P (dC, dI) vwCl [(aWF, .inr (10, [.ref aText, .null, .null, .null, .null, .null])), (aText, .inr (8, [.ref aText_codes, .int 0, .int 0, .int 0, .int 0])), (aText_codes, .inl (cC, 300, .inl (fun _ => 0))), (aStack, .inr (6, [.null, .int 0]))] H := hP
  have hD : va_D A [(aWF, .inr (10, [.ref aText, .null, .null, .null, .null, .null])), (aText, .inr (8, [.ref aText_codes, .int 0, .int 0, .int 0, .int 0])), (aText_codes, .inl (cC, 300, .inl (fun _ => 0))), (aStack, .inr (6, [.null, .int 0]))] := hD
  refine W.widen (k := 3) (n := 307) (by decide) (by decide) ?_
  refine lv_dup hx hb dX11_init_19 rfl ?_
  have hPc := hP.sub (ws' := [(aStack, .inr (6, [.null, .int 0]))]) [3] rfl
  have hDc := hD.sub (ws' := [(aStack, .inr (6, [.null, .int 0]))]) [3] (by decide) rfl
  have hFc := va_free (wc := [(aStack, .inr (6, [.null, .int 0]))]) hD hS hA [3] rfl
  refine va_callv (va_runI (As := []) (rest := [.ref aStack, .ref aWF]) ⟨hx, hb, hml, hown, hts⟩ (ctX7_init l dC dI cI cC cJ aStack _) (cwI 0 hts (gw_ hc_ mw_689) rfl rfl rfl (hts _ (List.mem_cons_of_mem _ mw_155)) (hts _ (List.mem_cons_of_mem _ mw_690)) (hts _ (List.mem_cons_of_mem _ mw_691)) rfl (by decide +kernel) ⟨Nat.le_of_ble_eq_true rfl, Nat.le_of_ble_eq_true rfl⟩) ⟨fun a U g mk q => by obtain ⟨q0, q1, qP, qK, qD⟩ := q; exact ⟨q0, q1, qP, va_K.moved (u := U) (U := U.calling g mk a) (Vm.Alike.refl U.vm) qK, qD⟩, fun U hU hW => ⟨rfl, by rw [hU], by rw [hU]; exact hPc, va_K.moved hW.alike hK, hDc.weaken (fun _ _ _ _ => trivial)⟩⟩ rfl rfl hl.1 rfl (lv_room (Nat.le_of_ble_eq_true rfl)) dX11_init_20 ⟨Nat.le_of_ble_eq_true rfl, Nat.le_of_ble_eq_true rfl⟩) hS (fun q _ h => hFc q h) hFc (fun u t H1 locs ht hvm hw hB hz1 hk1 hS => ?_)
  obtain ⟨aStack_values, hP1, hK1, hD1⟩ := hB
  rw [ht] at hP1
  obtain ⟨hP, hD⟩ := va_join (wr := [(aWF, .inr (10, [.ref aText, .null, .null, .null, .null, .null])), (aText, .inr (8, [.ref aText_codes, .int 0, .int 0, .int 0, .int 0])), (aText_codes, .inl (cC, 300, .inl (fun _ => 0)))]) (w1 := [(aStack, .inr (6, [.ref aStack_values, .int 0])), (aStack_values, .inl (cI, 32, .inl (fun _ => 0)))]) hP hD [3] [0, 1, 2] rfl rfl (by decide) (by decide) hk1 hFc hP1 hD1
  generalize H1 = H at hP hS ⊢
  have hP : va_P (dC, dI) vwCl [(aWF, .inr (10, [.ref aText, .null, .null, .null, .null, .null])), (aText, .inr (8, [.ref aText_codes, .int 0, .int 0, .int 0, .int 0])), (aText_codes, .inl (cC, 300, .inl (fun _ => 0))), (aStack, .inr (6, [.ref aStack_values, .int 0])), (aStack_values, .inl (cI, 32, .inl (fun _ => 0)))] H := hP
  have hD : va_D A [(aWF, .inr (10, [.ref aText, .null, .null, .null, .null, .null])), (aText, .inr (8, [.ref aText_codes, .int 0, .int 0, .int 0, .int 0])), (aText_codes, .inl (cC, 300, .inl (fun _ => 0))), (aStack, .inr (6, [.ref aStack_values, .int 0])), (aStack_values, .inl (cI, 32, .inl (fun _ => 0)))] := hD
  refine W.widen (k := 4) (n := 339) (by decide) (by decide) ?_
  refine va_putF (D := (dC, dI)) (ci := 10) (v := .ref aStack) (ty := .object "WordForge$Stack") (C := RX11) (T := TX11) (N := 6) hx hb hts (fun w h => List.mem_cons_of_mem _ (inX11 w h)) tyX11 tyX11_ok nmX11 hown hK hP hD hS 0 rfl rfl 1 (by decide) (hts _ (List.mem_cons_of_mem _ mw_370)) (fun _ h9 => h9) rfl hin rfl (by decide +kernel) rfl rfl (Nat.le_of_ble_eq_true rfl) dX11_init_23 (fun H locs hP hD hS => ?_)
  have hP : va_P (dC, dI) vwCl [(aWF, .inr (10, [.ref aText, .ref aStack, .null, .null, .null, .null])), (aText, .inr (8, [.ref aText_codes, .int 0, .int 0, .int 0, .int 0])), (aText_codes, .inl (cC, 300, .inl (fun _ => 0))), (aStack, .inr (6, [.ref aStack_values, .int 0])), (aStack_values, .inl (cI, 32, .inl (fun _ => 0)))] H := hP
  have hD : va_D A [(aWF, .inr (10, [.ref aText, .ref aStack, .null, .null, .null, .null])), (aText, .inr (8, [.ref aText_codes, .int 0, .int 0, .int 0, .int 0])), (aText_codes, .inl (cC, 300, .inl (fun _ => 0))), (aStack, .inr (6, [.ref aStack_values, .int 0])), (aStack_values, .inl (cI, 32, .inl (fun _ => 0)))] := hD
  refine lv_aload_n hx hb dX11_init_26 rfl (lv_at hl 0 rfl) ?_
  refine va_new (ci := 7) (fs := [.null, .int 0]) (C := RX8) (T := TX8) (N := 2) hx hb hts (fun w h => List.mem_cons_of_mem _ (inX8 w h)) tyX8 tyX8_ok hown (hts _ (List.mem_cons_of_mem _ mw_692)) (hts _ (List.mem_cons_of_mem _ mw_693)) (hts _ (List.mem_cons_of_mem _ mw_217)) hK hP hD hS hA rfl (fun j hj => by rcases (show j = 0 ∨ j = 1 by omega) with rfl | rfl <;> rfl) (Nat.le_of_ble_eq_true rfl) (Nat.le_of_ble_eq_true rfl) dX11_init_27 (fun aTape H hP hD hS => ?_)
  have hP : va_P (dC, dI) vwCl [(aWF, .inr (10, [.ref aText, .ref aStack, .null, .null, .null, .null])), (aText, .inr (8, [.ref aText_codes, .int 0, .int 0, .int 0, .int 0])), (aText_codes, .inl (cC, 300, .inl (fun _ => 0))), (aStack, .inr (6, [.ref aStack_values, .int 0])), (aStack_values, .inl (cI, 32, .inl (fun _ => 0))), (aTape, .inr (7, [.null, .int 0]))] H := hP
  have hD : va_D A [(aWF, .inr (10, [.ref aText, .ref aStack, .null, .null, .null, .null])), (aText, .inr (8, [.ref aText_codes, .int 0, .int 0, .int 0, .int 0])), (aText_codes, .inl (cC, 300, .inl (fun _ => 0))), (aStack, .inr (6, [.ref aStack_values, .int 0])), (aStack_values, .inl (cI, 32, .inl (fun _ => 0))), (aTape, .inr (7, [.null, .int 0]))] := hD
  refine W.widen (k := 5) (n := 341) (by decide) (by decide) ?_
  refine lv_dup hx hb dX11_init_30 rfl ?_
  have hPc := hP.sub (ws' := [(aTape, .inr (7, [.null, .int 0]))]) [5] rfl
  have hDc := hD.sub (ws' := [(aTape, .inr (7, [.null, .int 0]))]) [5] (by decide) rfl
  have hFc := va_free (wc := [(aTape, .inr (7, [.null, .int 0]))]) hD hS hA [5] rfl
  refine va_callv (va_runI (As := []) (rest := [.ref aTape, .ref aWF]) ⟨hx, hb, hml, hown, hts⟩ (ctX8_init l dC dI cI cC cJ aTape _) (cwI 0 hts (gw_ hc_ mw_694) rfl rfl rfl (hts _ (List.mem_cons_of_mem _ mw_217)) (hts _ (List.mem_cons_of_mem _ mw_695)) (hts _ (List.mem_cons_of_mem _ mw_696)) rfl (by decide +kernel) ⟨Nat.le_of_ble_eq_true rfl, Nat.le_of_ble_eq_true rfl⟩) ⟨fun a U g mk q => by obtain ⟨q0, q1, qP, qK, qD⟩ := q; exact ⟨q0, q1, qP, va_K.moved (u := U) (U := U.calling g mk a) (Vm.Alike.refl U.vm) qK, qD⟩, fun U hU hW => ⟨rfl, by rw [hU], by rw [hU]; exact hPc, va_K.moved hW.alike hK, hDc.weaken (fun _ _ _ _ => trivial)⟩⟩ rfl rfl hl.1 rfl (lv_room (Nat.le_of_ble_eq_true rfl)) dX11_init_31 ⟨Nat.le_of_ble_eq_true rfl, Nat.le_of_ble_eq_true rfl⟩) hS (fun q _ h => hFc q h) hFc (fun u t H1 locs ht hvm hw hB hz1 hk1 hS => ?_)
  obtain ⟨aTape_latest, hP1, hK1, hD1⟩ := hB
  rw [ht] at hP1
  obtain ⟨hP, hD⟩ := va_join (wr := [(aWF, .inr (10, [.ref aText, .ref aStack, .null, .null, .null, .null])), (aText, .inr (8, [.ref aText_codes, .int 0, .int 0, .int 0, .int 0])), (aText_codes, .inl (cC, 300, .inl (fun _ => 0))), (aStack, .inr (6, [.ref aStack_values, .int 0])), (aStack_values, .inl (cI, 32, .inl (fun _ => 0)))]) (w1 := [(aTape, .inr (7, [.ref aTape_latest, .int 0])), (aTape_latest, .inl (cI, 16, .inl (fun _ => 0)))]) hP hD [5] [0, 1, 2, 3, 4] rfl rfl (by decide) (by decide) hk1 hFc hP1 hD1
  generalize H1 = H at hP hS ⊢
  have hP : va_P (dC, dI) vwCl [(aWF, .inr (10, [.ref aText, .ref aStack, .null, .null, .null, .null])), (aText, .inr (8, [.ref aText_codes, .int 0, .int 0, .int 0, .int 0])), (aText_codes, .inl (cC, 300, .inl (fun _ => 0))), (aStack, .inr (6, [.ref aStack_values, .int 0])), (aStack_values, .inl (cI, 32, .inl (fun _ => 0))), (aTape, .inr (7, [.ref aTape_latest, .int 0])), (aTape_latest, .inl (cI, 16, .inl (fun _ => 0)))] H := hP
  have hD : va_D A [(aWF, .inr (10, [.ref aText, .ref aStack, .null, .null, .null, .null])), (aText, .inr (8, [.ref aText_codes, .int 0, .int 0, .int 0, .int 0])), (aText_codes, .inl (cC, 300, .inl (fun _ => 0))), (aStack, .inr (6, [.ref aStack_values, .int 0])), (aStack_values, .inl (cI, 32, .inl (fun _ => 0))), (aTape, .inr (7, [.ref aTape_latest, .int 0])), (aTape_latest, .inl (cI, 16, .inl (fun _ => 0)))] := hD
  refine W.widen (k := 6) (n := 357) (by decide) (by decide) ?_
  refine va_putF (D := (dC, dI)) (ci := 10) (v := .ref aTape) (ty := .object "WordForge$Tape") (C := RX11) (T := TX11) (N := 6) hx hb hts (fun w h => List.mem_cons_of_mem _ (inX11 w h)) tyX11 tyX11_ok nmX11 hown hK hP hD hS 0 rfl rfl 2 (by decide) (hts _ (List.mem_cons_of_mem _ mw_381)) (fun _ h9 => h9) rfl hin rfl (by decide +kernel) rfl rfl (Nat.le_of_ble_eq_true rfl) dX11_init_34 (fun H locs hP hD hS => ?_)
  have hP : va_P (dC, dI) vwCl [(aWF, .inr (10, [.ref aText, .ref aStack, .ref aTape, .null, .null, .null])), (aText, .inr (8, [.ref aText_codes, .int 0, .int 0, .int 0, .int 0])), (aText_codes, .inl (cC, 300, .inl (fun _ => 0))), (aStack, .inr (6, [.ref aStack_values, .int 0])), (aStack_values, .inl (cI, 32, .inl (fun _ => 0))), (aTape, .inr (7, [.ref aTape_latest, .int 0])), (aTape_latest, .inl (cI, 16, .inl (fun _ => 0)))] H := hP
  have hD : va_D A [(aWF, .inr (10, [.ref aText, .ref aStack, .ref aTape, .null, .null, .null])), (aText, .inr (8, [.ref aText_codes, .int 0, .int 0, .int 0, .int 0])), (aText_codes, .inl (cC, 300, .inl (fun _ => 0))), (aStack, .inr (6, [.ref aStack_values, .int 0])), (aStack_values, .inl (cI, 32, .inl (fun _ => 0))), (aTape, .inr (7, [.ref aTape_latest, .int 0])), (aTape_latest, .inl (cI, 16, .inl (fun _ => 0)))] := hD
  refine lv_aload_n hx hb dX11_init_37 rfl (lv_at hl 0 rfl) ?_
  refine va_new (ci := 1) (fs := [.null, .null, .null, .null, .int 0, .int 0]) (C := RX1) (T := TX1) (N := 6) hx hb hts (fun w h => List.mem_cons_of_mem _ (inX1 w h)) tyX1 tyX1_ok hown (hts _ (List.mem_cons_of_mem _ mw_697)) (hts _ (List.mem_cons_of_mem _ mw_698)) (hts _ (List.mem_cons_of_mem _ mw_8)) hK hP hD hS hA rfl (fun j hj => by rcases (show j = 0 ∨ j = 1 ∨ j = 2 ∨ j = 3 ∨ j = 4 ∨ j = 5 by omega) with rfl | rfl | rfl | rfl | rfl | rfl <;> rfl) (Nat.le_of_ble_eq_true rfl) (Nat.le_of_ble_eq_true rfl) dX11_init_38 (fun aDictionary H hP hD hS => ?_)
  have hP : va_P (dC, dI) vwCl [(aWF, .inr (10, [.ref aText, .ref aStack, .ref aTape, .null, .null, .null])), (aText, .inr (8, [.ref aText_codes, .int 0, .int 0, .int 0, .int 0])), (aText_codes, .inl (cC, 300, .inl (fun _ => 0))), (aStack, .inr (6, [.ref aStack_values, .int 0])), (aStack_values, .inl (cI, 32, .inl (fun _ => 0))), (aTape, .inr (7, [.ref aTape_latest, .int 0])), (aTape_latest, .inl (cI, 16, .inl (fun _ => 0))), (aDictionary, .inr (1, [.null, .null, .null, .null, .int 0, .int 0]))] H := hP
  have hD : va_D A [(aWF, .inr (10, [.ref aText, .ref aStack, .ref aTape, .null, .null, .null])), (aText, .inr (8, [.ref aText_codes, .int 0, .int 0, .int 0, .int 0])), (aText_codes, .inl (cC, 300, .inl (fun _ => 0))), (aStack, .inr (6, [.ref aStack_values, .int 0])), (aStack_values, .inl (cI, 32, .inl (fun _ => 0))), (aTape, .inr (7, [.ref aTape_latest, .int 0])), (aTape_latest, .inl (cI, 16, .inl (fun _ => 0))), (aDictionary, .inr (1, [.null, .null, .null, .null, .int 0, .int 0]))] := hD
  refine W.widen (k := 7) (n := 363) (by decide) (by decide) ?_
  refine lv_dup hx hb dX11_init_41 rfl ?_
  have hPc := hP.sub (ws' := [(aDictionary, .inr (1, [.null, .null, .null, .null, .int 0, .int 0]))]) [7] rfl
  have hDc := hD.sub (ws' := [(aDictionary, .inr (1, [.null, .null, .null, .null, .int 0, .int 0]))]) [7] (by decide) rfl
  have hFc := va_free (wc := [(aDictionary, .inr (1, [.null, .null, .null, .null, .int 0, .int 0]))]) hD hS hA [7] rfl
  refine va_callv (va_runI (As := []) (rest := [.ref aDictionary, .ref aWF]) ⟨hx, hb, hml, hown, hts⟩ (ctX1_init l dC dI cI cC cJ aDictionary _) (cwI 0 hts (gw_ hc_ mw_699) rfl rfl rfl (hts _ (List.mem_cons_of_mem _ mw_8)) (hts _ (List.mem_cons_of_mem _ mw_700)) (hts _ (List.mem_cons_of_mem _ mw_701)) rfl (by decide +kernel) ⟨Nat.le_of_ble_eq_true rfl, Nat.le_of_ble_eq_true rfl⟩) ⟨fun a U g mk q => by obtain ⟨q0, q1, qP, qK, qD⟩ := q; exact ⟨q0, q1, qP, va_K.moved (u := U) (U := U.calling g mk a) (Vm.Alike.refl U.vm) qK, qD⟩, fun U hU hW => ⟨rfl, by rw [hU], by rw [hU]; exact hPc, va_K.moved hW.alike hK, hDc.weaken (fun _ _ _ _ => trivial)⟩⟩ rfl rfl hl.1 rfl (lv_room (Nat.le_of_ble_eq_true rfl)) dX11_init_42 ⟨Nat.le_of_ble_eq_true rfl, Nat.le_of_ble_eq_true rfl⟩) hS (fun q _ h => hFc q h) hFc (fun u t H1 locs ht hvm hw hB hz1 hk1 hS => ?_)
  obtain ⟨aDictionary_keys, aDictionary_starts, aCode, aCode_ops, aCode_args, aLinker, aLinker_waiting, hP1, hK1, hD1⟩ := hB
  rw [ht] at hP1
  obtain ⟨hP, hD⟩ := va_join (wr := [(aWF, .inr (10, [.ref aText, .ref aStack, .ref aTape, .null, .null, .null])), (aText, .inr (8, [.ref aText_codes, .int 0, .int 0, .int 0, .int 0])), (aText_codes, .inl (cC, 300, .inl (fun _ => 0))), (aStack, .inr (6, [.ref aStack_values, .int 0])), (aStack_values, .inl (cI, 32, .inl (fun _ => 0))), (aTape, .inr (7, [.ref aTape_latest, .int 0])), (aTape_latest, .inl (cI, 16, .inl (fun _ => 0)))]) (w1 := [(aDictionary, .inr (1, [.ref aDictionary_keys, .ref aDictionary_starts, .ref aCode, .ref aLinker, .int 0, .int 0])), (aDictionary_keys, .inl (cJ, 20, .inr (.inl (fun _ => 0)))), (aDictionary_starts, .inl (cI, 21, .inl (fun _ => 0))), (aCode, .inr (0, [.ref aCode_ops, .ref aCode_args])), (aCode_ops, .inl (cI, 200, .inl (fun _ => 0))), (aCode_args, .inl (cI, 200, .inl (fun _ => 0))), (aLinker, .inr (2, [.ref aCode, .ref aLinker_waiting, .int 0, .int 0])), (aLinker_waiting, .inl (cI, 8, .inl (fun _ => 0)))]) hP hD [7] [0, 1, 2, 3, 4, 5, 6] rfl rfl (by decide) (by decide) hk1 hFc hP1 hD1
  generalize H1 = H at hP hS ⊢
  have hP : va_P (dC, dI) vwCl [(aWF, .inr (10, [.ref aText, .ref aStack, .ref aTape, .null, .null, .null])), (aText, .inr (8, [.ref aText_codes, .int 0, .int 0, .int 0, .int 0])), (aText_codes, .inl (cC, 300, .inl (fun _ => 0))), (aStack, .inr (6, [.ref aStack_values, .int 0])), (aStack_values, .inl (cI, 32, .inl (fun _ => 0))), (aTape, .inr (7, [.ref aTape_latest, .int 0])), (aTape_latest, .inl (cI, 16, .inl (fun _ => 0))), (aDictionary, .inr (1, [.ref aDictionary_keys, .ref aDictionary_starts, .ref aCode, .ref aLinker, .int 0, .int 0])), (aDictionary_keys, .inl (cJ, 20, .inr (.inl (fun _ => 0)))), (aDictionary_starts, .inl (cI, 21, .inl (fun _ => 0))), (aCode, .inr (0, [.ref aCode_ops, .ref aCode_args])), (aCode_ops, .inl (cI, 200, .inl (fun _ => 0))), (aCode_args, .inl (cI, 200, .inl (fun _ => 0))), (aLinker, .inr (2, [.ref aCode, .ref aLinker_waiting, .int 0, .int 0])), (aLinker_waiting, .inl (cI, 8, .inl (fun _ => 0)))] H := hP
  have hD : va_D A [(aWF, .inr (10, [.ref aText, .ref aStack, .ref aTape, .null, .null, .null])), (aText, .inr (8, [.ref aText_codes, .int 0, .int 0, .int 0, .int 0])), (aText_codes, .inl (cC, 300, .inl (fun _ => 0))), (aStack, .inr (6, [.ref aStack_values, .int 0])), (aStack_values, .inl (cI, 32, .inl (fun _ => 0))), (aTape, .inr (7, [.ref aTape_latest, .int 0])), (aTape_latest, .inl (cI, 16, .inl (fun _ => 0))), (aDictionary, .inr (1, [.ref aDictionary_keys, .ref aDictionary_starts, .ref aCode, .ref aLinker, .int 0, .int 0])), (aDictionary_keys, .inl (cJ, 20, .inr (.inl (fun _ => 0)))), (aDictionary_starts, .inl (cI, 21, .inl (fun _ => 0))), (aCode, .inr (0, [.ref aCode_ops, .ref aCode_args])), (aCode_ops, .inl (cI, 200, .inl (fun _ => 0))), (aCode_args, .inl (cI, 200, .inl (fun _ => 0))), (aLinker, .inr (2, [.ref aCode, .ref aLinker_waiting, .int 0, .int 0])), (aLinker_waiting, .inl (cI, 8, .inl (fun _ => 0)))] := hD
  refine W.widen (k := 14) (n := 818) (by decide) (by decide) ?_
  refine va_putF (D := (dC, dI)) (ci := 10) (v := .ref aDictionary) (ty := .object "WordForge$Dictionary") (C := RX11) (T := TX11) (N := 6) hx hb hts (fun w h => List.mem_cons_of_mem _ (inX11 w h)) tyX11 tyX11_ok nmX11 hown hK hP hD hS 0 rfl rfl 3 (by decide) (hts _ (List.mem_cons_of_mem _ mw_394)) (fun _ h9 => h9) rfl hin rfl (by decide +kernel) rfl rfl (Nat.le_of_ble_eq_true rfl) dX11_init_45 (fun H locs hP hD hS => ?_)
  have hP : va_P (dC, dI) vwCl [(aWF, .inr (10, [.ref aText, .ref aStack, .ref aTape, .ref aDictionary, .null, .null])), (aText, .inr (8, [.ref aText_codes, .int 0, .int 0, .int 0, .int 0])), (aText_codes, .inl (cC, 300, .inl (fun _ => 0))), (aStack, .inr (6, [.ref aStack_values, .int 0])), (aStack_values, .inl (cI, 32, .inl (fun _ => 0))), (aTape, .inr (7, [.ref aTape_latest, .int 0])), (aTape_latest, .inl (cI, 16, .inl (fun _ => 0))), (aDictionary, .inr (1, [.ref aDictionary_keys, .ref aDictionary_starts, .ref aCode, .ref aLinker, .int 0, .int 0])), (aDictionary_keys, .inl (cJ, 20, .inr (.inl (fun _ => 0)))), (aDictionary_starts, .inl (cI, 21, .inl (fun _ => 0))), (aCode, .inr (0, [.ref aCode_ops, .ref aCode_args])), (aCode_ops, .inl (cI, 200, .inl (fun _ => 0))), (aCode_args, .inl (cI, 200, .inl (fun _ => 0))), (aLinker, .inr (2, [.ref aCode, .ref aLinker_waiting, .int 0, .int 0])), (aLinker_waiting, .inl (cI, 8, .inl (fun _ => 0)))] H := hP
  have hD : va_D A [(aWF, .inr (10, [.ref aText, .ref aStack, .ref aTape, .ref aDictionary, .null, .null])), (aText, .inr (8, [.ref aText_codes, .int 0, .int 0, .int 0, .int 0])), (aText_codes, .inl (cC, 300, .inl (fun _ => 0))), (aStack, .inr (6, [.ref aStack_values, .int 0])), (aStack_values, .inl (cI, 32, .inl (fun _ => 0))), (aTape, .inr (7, [.ref aTape_latest, .int 0])), (aTape_latest, .inl (cI, 16, .inl (fun _ => 0))), (aDictionary, .inr (1, [.ref aDictionary_keys, .ref aDictionary_starts, .ref aCode, .ref aLinker, .int 0, .int 0])), (aDictionary_keys, .inl (cJ, 20, .inr (.inl (fun _ => 0)))), (aDictionary_starts, .inl (cI, 21, .inl (fun _ => 0))), (aCode, .inr (0, [.ref aCode_ops, .ref aCode_args])), (aCode_ops, .inl (cI, 200, .inl (fun _ => 0))), (aCode_args, .inl (cI, 200, .inl (fun _ => 0))), (aLinker, .inr (2, [.ref aCode, .ref aLinker_waiting, .int 0, .int 0])), (aLinker_waiting, .inl (cI, 8, .inl (fun _ => 0)))] := hD
  refine lv_aload_n hx hb dX11_init_48 rfl (lv_at hl 0 rfl) ?_
  refine va_new (ci := 5) (fs := [.null, .null, .null, .null, .null, .null, .null, .null, .null, .int 0, .int 0, .int 0]) (C := RX5) (T := TX5) (N := 12) hx hb hts (fun w h => List.mem_cons_of_mem _ (inX5 w h)) tyX5 tyX5_ok hown (hts _ (List.mem_cons_of_mem _ mw_702)) (hts _ (List.mem_cons_of_mem _ mw_703)) (hts _ (List.mem_cons_of_mem _ mw_170)) hK hP hD hS hA rfl (fun j hj => by rcases (show j = 0 ∨ j = 1 ∨ j = 2 ∨ j = 3 ∨ j = 4 ∨ j = 5 ∨ j = 6 ∨ j = 7 ∨ j = 8 ∨ j = 9 ∨ j = 10 ∨ j = 11 by omega) with rfl | rfl | rfl | rfl | rfl | rfl | rfl | rfl | rfl | rfl | rfl | rfl <;> rfl) (Nat.le_of_ble_eq_true rfl) (Nat.le_of_ble_eq_true rfl) dX11_init_49 (fun aMachine H hP hD hS => ?_)
  have hP : va_P (dC, dI) vwCl [(aWF, .inr (10, [.ref aText, .ref aStack, .ref aTape, .ref aDictionary, .null, .null])), (aText, .inr (8, [.ref aText_codes, .int 0, .int 0, .int 0, .int 0])), (aText_codes, .inl (cC, 300, .inl (fun _ => 0))), (aStack, .inr (6, [.ref aStack_values, .int 0])), (aStack_values, .inl (cI, 32, .inl (fun _ => 0))), (aTape, .inr (7, [.ref aTape_latest, .int 0])), (aTape_latest, .inl (cI, 16, .inl (fun _ => 0))), (aDictionary, .inr (1, [.ref aDictionary_keys, .ref aDictionary_starts, .ref aCode, .ref aLinker, .int 0, .int 0])), (aDictionary_keys, .inl (cJ, 20, .inr (.inl (fun _ => 0)))), (aDictionary_starts, .inl (cI, 21, .inl (fun _ => 0))), (aCode, .inr (0, [.ref aCode_ops, .ref aCode_args])), (aCode_ops, .inl (cI, 200, .inl (fun _ => 0))), (aCode_args, .inl (cI, 200, .inl (fun _ => 0))), (aLinker, .inr (2, [.ref aCode, .ref aLinker_waiting, .int 0, .int 0])), (aLinker_waiting, .inl (cI, 8, .inl (fun _ => 0))), (aMachine, .inr (5, [.null, .null, .null, .null, .null, .null, .null, .null, .null, .int 0, .int 0, .int 0]))] H := hP
  have hD : va_D A [(aWF, .inr (10, [.ref aText, .ref aStack, .ref aTape, .ref aDictionary, .null, .null])), (aText, .inr (8, [.ref aText_codes, .int 0, .int 0, .int 0, .int 0])), (aText_codes, .inl (cC, 300, .inl (fun _ => 0))), (aStack, .inr (6, [.ref aStack_values, .int 0])), (aStack_values, .inl (cI, 32, .inl (fun _ => 0))), (aTape, .inr (7, [.ref aTape_latest, .int 0])), (aTape_latest, .inl (cI, 16, .inl (fun _ => 0))), (aDictionary, .inr (1, [.ref aDictionary_keys, .ref aDictionary_starts, .ref aCode, .ref aLinker, .int 0, .int 0])), (aDictionary_keys, .inl (cJ, 20, .inr (.inl (fun _ => 0)))), (aDictionary_starts, .inl (cI, 21, .inl (fun _ => 0))), (aCode, .inr (0, [.ref aCode_ops, .ref aCode_args])), (aCode_ops, .inl (cI, 200, .inl (fun _ => 0))), (aCode_args, .inl (cI, 200, .inl (fun _ => 0))), (aLinker, .inr (2, [.ref aCode, .ref aLinker_waiting, .int 0, .int 0])), (aLinker_waiting, .inl (cI, 8, .inl (fun _ => 0))), (aMachine, .inr (5, [.null, .null, .null, .null, .null, .null, .null, .null, .null, .int 0, .int 0, .int 0]))] := hD
  refine W.widen (k := 15) (n := 830) (by decide) (by decide) ?_
  refine lv_dup hx hb dX11_init_52 rfl ?_
  refine lv_aload_n hx hb dX11_init_53 rfl (lv_at hl 0 rfl) ?_
  refine va_get (D := (dC, dI)) (ci := 10) (v := .ref aStack) (C := RX11) (T := TX11) (N := 6) hx hb hts (fun w h => List.mem_cons_of_mem _ (inX11 w h)) hown hK hP 0 rfl rfl 1 (by decide) (hts _ (List.mem_cons_of_mem _ mw_370)) (fun _ h9 => h9) rfl dX11_init_54 ?_
  refine lv_aload_n hx hb dX11_init_57 rfl (lv_at hl 0 rfl) ?_
  refine va_get (D := (dC, dI)) (ci := 10) (v := .ref aTape) (C := RX11) (T := TX11) (N := 6) hx hb hts (fun w h => List.mem_cons_of_mem _ (inX11 w h)) hown hK hP 0 rfl rfl 2 (by decide) (hts _ (List.mem_cons_of_mem _ mw_381)) (fun _ h9 => h9) rfl dX11_init_58 ?_
  refine lv_aload_n hx hb dX11_init_61 rfl (lv_at hl 0 rfl) ?_
  refine va_get (D := (dC, dI)) (ci := 10) (v := .ref aDictionary) (C := RX11) (T := TX11) (N := 6) hx hb hts (fun w h => List.mem_cons_of_mem _ (inX11 w h)) hown hK hP 0 rfl rfl 3 (by decide) (hts _ (List.mem_cons_of_mem _ mw_394)) (fun _ h9 => h9) rfl dX11_init_62 ?_
  have hPc := hP.sub (ws' := [(aMachine, .inr (5, [.null, .null, .null, .null, .null, .null, .null, .null, .null, .int 0, .int 0, .int 0])), (aDictionary, .inr (1, [.ref aDictionary_keys, .ref aDictionary_starts, .ref aCode, .ref aLinker, .int 0, .int 0]))]) [15, 7] rfl
  have hDc := hD.sub (ws' := [(aMachine, .inr (5, [.null, .null, .null, .null, .null, .null, .null, .null, .null, .int 0, .int 0, .int 0])), (aDictionary, .inr (1, [.ref aDictionary_keys, .ref aDictionary_starts, .ref aCode, .ref aLinker, .int 0, .int 0]))]) [15, 7] (by decide) rfl
  have hFc := va_free (wc := [(aMachine, .inr (5, [.null, .null, .null, .null, .null, .null, .null, .null, .null, .int 0, .int 0, .int 0])), (aDictionary, .inr (1, [.ref aDictionary_keys, .ref aDictionary_starts, .ref aCode, .ref aLinker, .int 0, .int 0]))]) hD hS hA [15, 7] rfl
  refine va_callv (va_runI (As := [.ref aStack, .ref aTape, .ref aDictionary]) (rest := [.ref aMachine, .ref aWF]) ⟨hx, hb, hml, hown, hts⟩ (ctX5_init l dC dI cI cC cJ aMachine aStack aTape aDictionary aDictionary_keys aDictionary_starts aCode aLinker _ 0 0) (cwI 3 hts (gw_ hc_ mw_704) rfl rfl rfl (hts _ (List.mem_cons_of_mem _ mw_170)) (hts _ (List.mem_cons_of_mem _ mw_705)) (hts _ (List.mem_cons_of_mem _ mw_706)) rfl (by decide +kernel) ⟨Nat.le_of_ble_eq_true rfl, Nat.le_of_ble_eq_true rfl⟩) ⟨fun a U g mk q => by obtain ⟨q0, q1, qP, qK, qD⟩ := q; exact ⟨q0, q1, qP, va_K.moved (u := U) (U := U.calling g mk a) (Vm.Alike.refl U.vm) qK, qD⟩, fun U hU hW => ⟨rfl, by rw [hU], by rw [hU]; exact hPc, va_K.moved hW.alike hK, hDc.weaken (fun _ _ _ _ => trivial)⟩⟩ rfl rfl hl.1 rfl (lv_room (Nat.le_of_ble_eq_true rfl)) dX11_init_65 ⟨Nat.le_of_ble_eq_true rfl, Nat.le_of_ble_eq_true rfl⟩) hS (fun q _ h => hFc q h) hFc (fun u t H1 locs ht hvm hw hB hz1 hk1 hS => ?_)
  obtain ⟨aMachine_cells, aLoops, aLoops_counts, aLoops_limits, aMachine_ends, aMachine_returns, aMachine_loopsBefore, hP1, hK1, hD1⟩ := hB
  rw [ht] at hP1
  obtain ⟨hP, hD⟩ := va_join (wr := [(aWF, .inr (10, [.ref aText, .ref aStack, .ref aTape, .ref aDictionary, .null, .null])), (aText, .inr (8, [.ref aText_codes, .int 0, .int 0, .int 0, .int 0])), (aText_codes, .inl (cC, 300, .inl (fun _ => 0))), (aStack, .inr (6, [.ref aStack_values, .int 0])), (aStack_values, .inl (cI, 32, .inl (fun _ => 0))), (aTape, .inr (7, [.ref aTape_latest, .int 0])), (aTape_latest, .inl (cI, 16, .inl (fun _ => 0))), (aDictionary_keys, .inl (cJ, 20, .inr (.inl (fun _ => 0)))), (aDictionary_starts, .inl (cI, 21, .inl (fun _ => 0))), (aCode, .inr (0, [.ref aCode_ops, .ref aCode_args])), (aCode_ops, .inl (cI, 200, .inl (fun _ => 0))), (aCode_args, .inl (cI, 200, .inl (fun _ => 0))), (aLinker, .inr (2, [.ref aCode, .ref aLinker_waiting, .int 0, .int 0])), (aLinker_waiting, .inl (cI, 8, .inl (fun _ => 0)))]) (w1 := [(aMachine, .inr (5, [.ref aStack, .ref aTape, .ref aDictionary, .ref aCode, .ref aMachine_cells, .ref aLoops, .ref aMachine_ends, .ref aMachine_returns, .ref aMachine_loopsBefore, .int 0, .int 0, .int 0])), (aDictionary, .inr (1, [.ref aDictionary_keys, .ref aDictionary_starts, .ref aCode, .ref aLinker, .int 0, .int 0])), (aMachine_cells, .inl (cI, 16, .inl (fun _ => 0))), (aLoops, .inr (4, [.ref aLoops_counts, .ref aLoops_limits, .int 0])), (aLoops_counts, .inl (cI, 12, .inl (fun _ => 0))), (aLoops_limits, .inl (cI, 12, .inl (fun _ => 0))), (aMachine_ends, .inl (cI, 12, .inl (fun _ => 0))), (aMachine_returns, .inl (cI, 12, .inl (fun _ => 0))), (aMachine_loopsBefore, .inl (cI, 12, .inl (fun _ => 0)))]) hP hD [15, 7] [0, 1, 2, 3, 4, 5, 6, 8, 9, 10, 11, 12, 13, 14] rfl rfl (by decide) (by decide) hk1 hFc hP1 hD1
  generalize H1 = H at hP hS ⊢
  have hP : va_P (dC, dI) vwCl [(aWF, .inr (10, [.ref aText, .ref aStack, .ref aTape, .ref aDictionary, .null, .null])), (aText, .inr (8, [.ref aText_codes, .int 0, .int 0, .int 0, .int 0])), (aText_codes, .inl (cC, 300, .inl (fun _ => 0))), (aStack, .inr (6, [.ref aStack_values, .int 0])), (aStack_values, .inl (cI, 32, .inl (fun _ => 0))), (aTape, .inr (7, [.ref aTape_latest, .int 0])), (aTape_latest, .inl (cI, 16, .inl (fun _ => 0))), (aDictionary_keys, .inl (cJ, 20, .inr (.inl (fun _ => 0)))), (aDictionary_starts, .inl (cI, 21, .inl (fun _ => 0))), (aCode, .inr (0, [.ref aCode_ops, .ref aCode_args])), (aCode_ops, .inl (cI, 200, .inl (fun _ => 0))), (aCode_args, .inl (cI, 200, .inl (fun _ => 0))), (aLinker, .inr (2, [.ref aCode, .ref aLinker_waiting, .int 0, .int 0])), (aLinker_waiting, .inl (cI, 8, .inl (fun _ => 0))), (aMachine, .inr (5, [.ref aStack, .ref aTape, .ref aDictionary, .ref aCode, .ref aMachine_cells, .ref aLoops, .ref aMachine_ends, .ref aMachine_returns, .ref aMachine_loopsBefore, .int 0, .int 0, .int 0])), (aDictionary, .inr (1, [.ref aDictionary_keys, .ref aDictionary_starts, .ref aCode, .ref aLinker, .int 0, .int 0])), (aMachine_cells, .inl (cI, 16, .inl (fun _ => 0))), (aLoops, .inr (4, [.ref aLoops_counts, .ref aLoops_limits, .int 0])), (aLoops_counts, .inl (cI, 12, .inl (fun _ => 0))), (aLoops_limits, .inl (cI, 12, .inl (fun _ => 0))), (aMachine_ends, .inl (cI, 12, .inl (fun _ => 0))), (aMachine_returns, .inl (cI, 12, .inl (fun _ => 0))), (aMachine_loopsBefore, .inl (cI, 12, .inl (fun _ => 0)))] H := hP
  have hD : va_D A [(aWF, .inr (10, [.ref aText, .ref aStack, .ref aTape, .ref aDictionary, .null, .null])), (aText, .inr (8, [.ref aText_codes, .int 0, .int 0, .int 0, .int 0])), (aText_codes, .inl (cC, 300, .inl (fun _ => 0))), (aStack, .inr (6, [.ref aStack_values, .int 0])), (aStack_values, .inl (cI, 32, .inl (fun _ => 0))), (aTape, .inr (7, [.ref aTape_latest, .int 0])), (aTape_latest, .inl (cI, 16, .inl (fun _ => 0))), (aDictionary_keys, .inl (cJ, 20, .inr (.inl (fun _ => 0)))), (aDictionary_starts, .inl (cI, 21, .inl (fun _ => 0))), (aCode, .inr (0, [.ref aCode_ops, .ref aCode_args])), (aCode_ops, .inl (cI, 200, .inl (fun _ => 0))), (aCode_args, .inl (cI, 200, .inl (fun _ => 0))), (aLinker, .inr (2, [.ref aCode, .ref aLinker_waiting, .int 0, .int 0])), (aLinker_waiting, .inl (cI, 8, .inl (fun _ => 0))), (aMachine, .inr (5, [.ref aStack, .ref aTape, .ref aDictionary, .ref aCode, .ref aMachine_cells, .ref aLoops, .ref aMachine_ends, .ref aMachine_returns, .ref aMachine_loopsBefore, .int 0, .int 0, .int 0])), (aDictionary, .inr (1, [.ref aDictionary_keys, .ref aDictionary_starts, .ref aCode, .ref aLinker, .int 0, .int 0])), (aMachine_cells, .inl (cI, 16, .inl (fun _ => 0))), (aLoops, .inr (4, [.ref aLoops_counts, .ref aLoops_limits, .int 0])), (aLoops_counts, .inl (cI, 12, .inl (fun _ => 0))), (aLoops_limits, .inl (cI, 12, .inl (fun _ => 0))), (aMachine_ends, .inl (cI, 12, .inl (fun _ => 0))), (aMachine_returns, .inl (cI, 12, .inl (fun _ => 0))), (aMachine_loopsBefore, .inl (cI, 12, .inl (fun _ => 0)))] := hD
  refine W.widen (k := 22) (n := 909) (by decide) (by decide) ?_
  refine va_putF (D := (dC, dI)) (ci := 10) (v := .ref aMachine) (ty := .object "WordForge$Machine") (C := RX11) (T := TX11) (N := 6) hx hb hts (fun w h => List.mem_cons_of_mem _ (inX11 w h)) tyX11 tyX11_ok nmX11 hown hK hP hD hS 0 rfl rfl 4 (by decide) (hts _ (List.mem_cons_of_mem _ mw_365)) (fun _ h9 => h9) rfl hin rfl (by decide +kernel) rfl rfl (Nat.le_of_ble_eq_true rfl) dX11_init_68 (fun H locs hP hD hS => ?_)
  have hP : va_P (dC, dI) vwCl [(aWF, .inr (10, [.ref aText, .ref aStack, .ref aTape, .ref aDictionary, .ref aMachine, .null])), (aText, .inr (8, [.ref aText_codes, .int 0, .int 0, .int 0, .int 0])), (aText_codes, .inl (cC, 300, .inl (fun _ => 0))), (aStack, .inr (6, [.ref aStack_values, .int 0])), (aStack_values, .inl (cI, 32, .inl (fun _ => 0))), (aTape, .inr (7, [.ref aTape_latest, .int 0])), (aTape_latest, .inl (cI, 16, .inl (fun _ => 0))), (aDictionary_keys, .inl (cJ, 20, .inr (.inl (fun _ => 0)))), (aDictionary_starts, .inl (cI, 21, .inl (fun _ => 0))), (aCode, .inr (0, [.ref aCode_ops, .ref aCode_args])), (aCode_ops, .inl (cI, 200, .inl (fun _ => 0))), (aCode_args, .inl (cI, 200, .inl (fun _ => 0))), (aLinker, .inr (2, [.ref aCode, .ref aLinker_waiting, .int 0, .int 0])), (aLinker_waiting, .inl (cI, 8, .inl (fun _ => 0))), (aMachine, .inr (5, [.ref aStack, .ref aTape, .ref aDictionary, .ref aCode, .ref aMachine_cells, .ref aLoops, .ref aMachine_ends, .ref aMachine_returns, .ref aMachine_loopsBefore, .int 0, .int 0, .int 0])), (aDictionary, .inr (1, [.ref aDictionary_keys, .ref aDictionary_starts, .ref aCode, .ref aLinker, .int 0, .int 0])), (aMachine_cells, .inl (cI, 16, .inl (fun _ => 0))), (aLoops, .inr (4, [.ref aLoops_counts, .ref aLoops_limits, .int 0])), (aLoops_counts, .inl (cI, 12, .inl (fun _ => 0))), (aLoops_limits, .inl (cI, 12, .inl (fun _ => 0))), (aMachine_ends, .inl (cI, 12, .inl (fun _ => 0))), (aMachine_returns, .inl (cI, 12, .inl (fun _ => 0))), (aMachine_loopsBefore, .inl (cI, 12, .inl (fun _ => 0)))] H := hP
  have hD : va_D A [(aWF, .inr (10, [.ref aText, .ref aStack, .ref aTape, .ref aDictionary, .ref aMachine, .null])), (aText, .inr (8, [.ref aText_codes, .int 0, .int 0, .int 0, .int 0])), (aText_codes, .inl (cC, 300, .inl (fun _ => 0))), (aStack, .inr (6, [.ref aStack_values, .int 0])), (aStack_values, .inl (cI, 32, .inl (fun _ => 0))), (aTape, .inr (7, [.ref aTape_latest, .int 0])), (aTape_latest, .inl (cI, 16, .inl (fun _ => 0))), (aDictionary_keys, .inl (cJ, 20, .inr (.inl (fun _ => 0)))), (aDictionary_starts, .inl (cI, 21, .inl (fun _ => 0))), (aCode, .inr (0, [.ref aCode_ops, .ref aCode_args])), (aCode_ops, .inl (cI, 200, .inl (fun _ => 0))), (aCode_args, .inl (cI, 200, .inl (fun _ => 0))), (aLinker, .inr (2, [.ref aCode, .ref aLinker_waiting, .int 0, .int 0])), (aLinker_waiting, .inl (cI, 8, .inl (fun _ => 0))), (aMachine, .inr (5, [.ref aStack, .ref aTape, .ref aDictionary, .ref aCode, .ref aMachine_cells, .ref aLoops, .ref aMachine_ends, .ref aMachine_returns, .ref aMachine_loopsBefore, .int 0, .int 0, .int 0])), (aDictionary, .inr (1, [.ref aDictionary_keys, .ref aDictionary_starts, .ref aCode, .ref aLinker, .int 0, .int 0])), (aMachine_cells, .inl (cI, 16, .inl (fun _ => 0))), (aLoops, .inr (4, [.ref aLoops_counts, .ref aLoops_limits, .int 0])), (aLoops_counts, .inl (cI, 12, .inl (fun _ => 0))), (aLoops_limits, .inl (cI, 12, .inl (fun _ => 0))), (aMachine_ends, .inl (cI, 12, .inl (fun _ => 0))), (aMachine_returns, .inl (cI, 12, .inl (fun _ => 0))), (aMachine_loopsBefore, .inl (cI, 12, .inl (fun _ => 0)))] := hD
  refine lv_aload_n hx hb dX11_init_71 rfl (lv_at hl 0 rfl) ?_
  refine va_new (ci := 3) (fs := [.null, .null, .null, .null, .int 0]) (C := RX3) (T := TX3) (N := 5) hx hb hts (fun w h => List.mem_cons_of_mem _ (inX3 w h)) tyX3 tyX3_ok hown (hts _ (List.mem_cons_of_mem _ mw_707)) (hts _ (List.mem_cons_of_mem _ mw_708)) (hts _ (List.mem_cons_of_mem _ mw_121)) hK hP hD hS hA rfl (fun j hj => by rcases (show j = 0 ∨ j = 1 ∨ j = 2 ∨ j = 3 ∨ j = 4 by omega) with rfl | rfl | rfl | rfl | rfl <;> rfl) (Nat.le_of_ble_eq_true rfl) (Nat.le_of_ble_eq_true rfl) dX11_init_72 (fun aLoader H hP hD hS => ?_)
  have hP : va_P (dC, dI) vwCl [(aWF, .inr (10, [.ref aText, .ref aStack, .ref aTape, .ref aDictionary, .ref aMachine, .null])), (aText, .inr (8, [.ref aText_codes, .int 0, .int 0, .int 0, .int 0])), (aText_codes, .inl (cC, 300, .inl (fun _ => 0))), (aStack, .inr (6, [.ref aStack_values, .int 0])), (aStack_values, .inl (cI, 32, .inl (fun _ => 0))), (aTape, .inr (7, [.ref aTape_latest, .int 0])), (aTape_latest, .inl (cI, 16, .inl (fun _ => 0))), (aDictionary_keys, .inl (cJ, 20, .inr (.inl (fun _ => 0)))), (aDictionary_starts, .inl (cI, 21, .inl (fun _ => 0))), (aCode, .inr (0, [.ref aCode_ops, .ref aCode_args])), (aCode_ops, .inl (cI, 200, .inl (fun _ => 0))), (aCode_args, .inl (cI, 200, .inl (fun _ => 0))), (aLinker, .inr (2, [.ref aCode, .ref aLinker_waiting, .int 0, .int 0])), (aLinker_waiting, .inl (cI, 8, .inl (fun _ => 0))), (aMachine, .inr (5, [.ref aStack, .ref aTape, .ref aDictionary, .ref aCode, .ref aMachine_cells, .ref aLoops, .ref aMachine_ends, .ref aMachine_returns, .ref aMachine_loopsBefore, .int 0, .int 0, .int 0])), (aDictionary, .inr (1, [.ref aDictionary_keys, .ref aDictionary_starts, .ref aCode, .ref aLinker, .int 0, .int 0])), (aMachine_cells, .inl (cI, 16, .inl (fun _ => 0))), (aLoops, .inr (4, [.ref aLoops_counts, .ref aLoops_limits, .int 0])), (aLoops_counts, .inl (cI, 12, .inl (fun _ => 0))), (aLoops_limits, .inl (cI, 12, .inl (fun _ => 0))), (aMachine_ends, .inl (cI, 12, .inl (fun _ => 0))), (aMachine_returns, .inl (cI, 12, .inl (fun _ => 0))), (aMachine_loopsBefore, .inl (cI, 12, .inl (fun _ => 0))), (aLoader, .inr (3, [.null, .null, .null, .null, .int 0]))] H := hP
  have hD : va_D A [(aWF, .inr (10, [.ref aText, .ref aStack, .ref aTape, .ref aDictionary, .ref aMachine, .null])), (aText, .inr (8, [.ref aText_codes, .int 0, .int 0, .int 0, .int 0])), (aText_codes, .inl (cC, 300, .inl (fun _ => 0))), (aStack, .inr (6, [.ref aStack_values, .int 0])), (aStack_values, .inl (cI, 32, .inl (fun _ => 0))), (aTape, .inr (7, [.ref aTape_latest, .int 0])), (aTape_latest, .inl (cI, 16, .inl (fun _ => 0))), (aDictionary_keys, .inl (cJ, 20, .inr (.inl (fun _ => 0)))), (aDictionary_starts, .inl (cI, 21, .inl (fun _ => 0))), (aCode, .inr (0, [.ref aCode_ops, .ref aCode_args])), (aCode_ops, .inl (cI, 200, .inl (fun _ => 0))), (aCode_args, .inl (cI, 200, .inl (fun _ => 0))), (aLinker, .inr (2, [.ref aCode, .ref aLinker_waiting, .int 0, .int 0])), (aLinker_waiting, .inl (cI, 8, .inl (fun _ => 0))), (aMachine, .inr (5, [.ref aStack, .ref aTape, .ref aDictionary, .ref aCode, .ref aMachine_cells, .ref aLoops, .ref aMachine_ends, .ref aMachine_returns, .ref aMachine_loopsBefore, .int 0, .int 0, .int 0])), (aDictionary, .inr (1, [.ref aDictionary_keys, .ref aDictionary_starts, .ref aCode, .ref aLinker, .int 0, .int 0])), (aMachine_cells, .inl (cI, 16, .inl (fun _ => 0))), (aLoops, .inr (4, [.ref aLoops_counts, .ref aLoops_limits, .int 0])), (aLoops_counts, .inl (cI, 12, .inl (fun _ => 0))), (aLoops_limits, .inl (cI, 12, .inl (fun _ => 0))), (aMachine_ends, .inl (cI, 12, .inl (fun _ => 0))), (aMachine_returns, .inl (cI, 12, .inl (fun _ => 0))), (aMachine_loopsBefore, .inl (cI, 12, .inl (fun _ => 0))), (aLoader, .inr (3, [.null, .null, .null, .null, .int 0]))] := hD
  refine W.widen (k := 23) (n := 914) (by decide) (by decide) ?_
  refine lv_dup hx hb dX11_init_75 rfl ?_
  refine lv_aload_n hx hb dX11_init_76 rfl (lv_at hl 0 rfl) ?_
  refine va_get (D := (dC, dI)) (ci := 10) (v := .ref aText) (C := RX11) (T := TX11) (N := 6) hx hb hts (fun w h => List.mem_cons_of_mem _ (inX11 w h)) hown hK hP 0 rfl rfl 0 (by decide) (hts _ (List.mem_cons_of_mem _ mw_347)) (fun _ h9 => h9) rfl dX11_init_77 ?_
  refine lv_aload_n hx hb dX11_init_80 rfl (lv_at hl 0 rfl) ?_
  refine va_get (D := (dC, dI)) (ci := 10) (v := .ref aDictionary) (C := RX11) (T := TX11) (N := 6) hx hb hts (fun w h => List.mem_cons_of_mem _ (inX11 w h)) hown hK hP 0 rfl rfl 3 (by decide) (hts _ (List.mem_cons_of_mem _ mw_394)) (fun _ h9 => h9) rfl dX11_init_81 ?_
  refine lv_aload_n hx hb dX11_init_84 rfl (lv_at hl 0 rfl) ?_
  refine va_get (D := (dC, dI)) (ci := 10) (v := .ref aMachine) (C := RX11) (T := TX11) (N := 6) hx hb hts (fun w h => List.mem_cons_of_mem _ (inX11 w h)) hown hK hP 0 rfl rfl 4 (by decide) (hts _ (List.mem_cons_of_mem _ mw_365)) (fun _ h9 => h9) rfl dX11_init_85 ?_
  have hPc := hP.sub (ws' := [(aLoader, .inr (3, [.null, .null, .null, .null, .int 0]))]) [23] rfl
  have hDc := hD.sub (ws' := [(aLoader, .inr (3, [.null, .null, .null, .null, .int 0]))]) [23] (by decide) rfl
  have hFc := va_free (wc := [(aLoader, .inr (3, [.null, .null, .null, .null, .int 0]))]) hD hS hA [23] rfl
  refine va_callv (va_runI (As := [.ref aText, .ref aDictionary, .ref aMachine]) (rest := [.ref aLoader, .ref aWF]) ⟨hx, hb, hml, hown, hts⟩ (ctX3_init l dC dI cI cC cJ aLoader aText aDictionary aMachine _ adK adV w_keys hV) (cwI 3 hts (gw_ hc_ mw_709) rfl rfl rfl (hts _ (List.mem_cons_of_mem _ mw_121)) (hts _ (List.mem_cons_of_mem _ mw_710)) (hts _ (List.mem_cons_of_mem _ mw_711)) rfl (by decide +kernel) ⟨Nat.le_of_ble_eq_true rfl, Nat.le_of_ble_eq_true rfl⟩) ⟨fun a U g mk q => by obtain ⟨q0, q1, qP, qK, qD, qX, qR⟩ := q; exact ⟨q0, q1, qP, va_K.moved (u := U) (U := U.calling g mk a) (Vm.Alike.refl U.vm) qK, qD, qX.moved (u := U) (U := U.calling g mk a) (Vm.Alike.refl U.vm), SR.same rfl qR⟩, fun U hU hW => ⟨rfl, by rw [hU], by rw [hU]; exact hPc, va_K.moved hW.alike hK, hDc.weaken (fun _ _ _ _ => trivial), by rw [hU]; exact ((hX.kept hS.2.1).narrow hFc).moved hW.alike, hR.warm hW⟩⟩ rfl rfl hl.1 rfl (lv_room (Nat.le_of_ble_eq_true rfl)) dX11_init_88 ⟨Nat.le_of_ble_eq_true rfl, Nat.le_of_ble_eq_true rfl⟩) hS (fun q _ h => hFc q h) hFc (fun u t H1 locs ht hvm hw hB hz1 hk1 hS => ?_)
  obtain ⟨aVocabulary, aVocabulary_keys, hP1, hK1, hD1⟩ := hB
  rw [ht] at hP1
  obtain ⟨hP, hD⟩ := va_join (wr := [(aWF, .inr (10, [.ref aText, .ref aStack, .ref aTape, .ref aDictionary, .ref aMachine, .null])), (aText, .inr (8, [.ref aText_codes, .int 0, .int 0, .int 0, .int 0])), (aText_codes, .inl (cC, 300, .inl (fun _ => 0))), (aStack, .inr (6, [.ref aStack_values, .int 0])), (aStack_values, .inl (cI, 32, .inl (fun _ => 0))), (aTape, .inr (7, [.ref aTape_latest, .int 0])), (aTape_latest, .inl (cI, 16, .inl (fun _ => 0))), (aDictionary_keys, .inl (cJ, 20, .inr (.inl (fun _ => 0)))), (aDictionary_starts, .inl (cI, 21, .inl (fun _ => 0))), (aCode, .inr (0, [.ref aCode_ops, .ref aCode_args])), (aCode_ops, .inl (cI, 200, .inl (fun _ => 0))), (aCode_args, .inl (cI, 200, .inl (fun _ => 0))), (aLinker, .inr (2, [.ref aCode, .ref aLinker_waiting, .int 0, .int 0])), (aLinker_waiting, .inl (cI, 8, .inl (fun _ => 0))), (aMachine, .inr (5, [.ref aStack, .ref aTape, .ref aDictionary, .ref aCode, .ref aMachine_cells, .ref aLoops, .ref aMachine_ends, .ref aMachine_returns, .ref aMachine_loopsBefore, .int 0, .int 0, .int 0])), (aDictionary, .inr (1, [.ref aDictionary_keys, .ref aDictionary_starts, .ref aCode, .ref aLinker, .int 0, .int 0])), (aMachine_cells, .inl (cI, 16, .inl (fun _ => 0))), (aLoops, .inr (4, [.ref aLoops_counts, .ref aLoops_limits, .int 0])), (aLoops_counts, .inl (cI, 12, .inl (fun _ => 0))), (aLoops_limits, .inl (cI, 12, .inl (fun _ => 0))), (aMachine_ends, .inl (cI, 12, .inl (fun _ => 0))), (aMachine_returns, .inl (cI, 12, .inl (fun _ => 0))), (aMachine_loopsBefore, .inl (cI, 12, .inl (fun _ => 0)))]) (w1 := [(aLoader, .inr (3, [.ref aText, .ref aDictionary, .ref aMachine, .ref aVocabulary, .int (-1 : Int32)])), (aVocabulary, .inr (9, [.ref aVocabulary_keys])), (aVocabulary_keys, .inl (cJ, 49, .inr (.inl w_keys)))]) hP hD [23] [0, 1, 2, 3, 4, 5, 6, 7, 8, 9, 10, 11, 12, 13, 14, 15, 16, 17, 18, 19, 20, 21, 22] rfl rfl (by decide) (by decide) hk1 hFc hP1 hD1
  generalize H1 = H at hP hS ⊢
  have hP : va_P (dC, dI) vwCl [(aWF, .inr (10, [.ref aText, .ref aStack, .ref aTape, .ref aDictionary, .ref aMachine, .null])), (aText, .inr (8, [.ref aText_codes, .int 0, .int 0, .int 0, .int 0])), (aText_codes, .inl (cC, 300, .inl (fun _ => 0))), (aStack, .inr (6, [.ref aStack_values, .int 0])), (aStack_values, .inl (cI, 32, .inl (fun _ => 0))), (aTape, .inr (7, [.ref aTape_latest, .int 0])), (aTape_latest, .inl (cI, 16, .inl (fun _ => 0))), (aDictionary_keys, .inl (cJ, 20, .inr (.inl (fun _ => 0)))), (aDictionary_starts, .inl (cI, 21, .inl (fun _ => 0))), (aCode, .inr (0, [.ref aCode_ops, .ref aCode_args])), (aCode_ops, .inl (cI, 200, .inl (fun _ => 0))), (aCode_args, .inl (cI, 200, .inl (fun _ => 0))), (aLinker, .inr (2, [.ref aCode, .ref aLinker_waiting, .int 0, .int 0])), (aLinker_waiting, .inl (cI, 8, .inl (fun _ => 0))), (aMachine, .inr (5, [.ref aStack, .ref aTape, .ref aDictionary, .ref aCode, .ref aMachine_cells, .ref aLoops, .ref aMachine_ends, .ref aMachine_returns, .ref aMachine_loopsBefore, .int 0, .int 0, .int 0])), (aDictionary, .inr (1, [.ref aDictionary_keys, .ref aDictionary_starts, .ref aCode, .ref aLinker, .int 0, .int 0])), (aMachine_cells, .inl (cI, 16, .inl (fun _ => 0))), (aLoops, .inr (4, [.ref aLoops_counts, .ref aLoops_limits, .int 0])), (aLoops_counts, .inl (cI, 12, .inl (fun _ => 0))), (aLoops_limits, .inl (cI, 12, .inl (fun _ => 0))), (aMachine_ends, .inl (cI, 12, .inl (fun _ => 0))), (aMachine_returns, .inl (cI, 12, .inl (fun _ => 0))), (aMachine_loopsBefore, .inl (cI, 12, .inl (fun _ => 0))), (aLoader, .inr (3, [.ref aText, .ref aDictionary, .ref aMachine, .ref aVocabulary, .int (-1 : Int32)])), (aVocabulary, .inr (9, [.ref aVocabulary_keys])), (aVocabulary_keys, .inl (cJ, 49, .inr (.inl w_keys)))] H := hP
  have hD : va_D A [(aWF, .inr (10, [.ref aText, .ref aStack, .ref aTape, .ref aDictionary, .ref aMachine, .null])), (aText, .inr (8, [.ref aText_codes, .int 0, .int 0, .int 0, .int 0])), (aText_codes, .inl (cC, 300, .inl (fun _ => 0))), (aStack, .inr (6, [.ref aStack_values, .int 0])), (aStack_values, .inl (cI, 32, .inl (fun _ => 0))), (aTape, .inr (7, [.ref aTape_latest, .int 0])), (aTape_latest, .inl (cI, 16, .inl (fun _ => 0))), (aDictionary_keys, .inl (cJ, 20, .inr (.inl (fun _ => 0)))), (aDictionary_starts, .inl (cI, 21, .inl (fun _ => 0))), (aCode, .inr (0, [.ref aCode_ops, .ref aCode_args])), (aCode_ops, .inl (cI, 200, .inl (fun _ => 0))), (aCode_args, .inl (cI, 200, .inl (fun _ => 0))), (aLinker, .inr (2, [.ref aCode, .ref aLinker_waiting, .int 0, .int 0])), (aLinker_waiting, .inl (cI, 8, .inl (fun _ => 0))), (aMachine, .inr (5, [.ref aStack, .ref aTape, .ref aDictionary, .ref aCode, .ref aMachine_cells, .ref aLoops, .ref aMachine_ends, .ref aMachine_returns, .ref aMachine_loopsBefore, .int 0, .int 0, .int 0])), (aDictionary, .inr (1, [.ref aDictionary_keys, .ref aDictionary_starts, .ref aCode, .ref aLinker, .int 0, .int 0])), (aMachine_cells, .inl (cI, 16, .inl (fun _ => 0))), (aLoops, .inr (4, [.ref aLoops_counts, .ref aLoops_limits, .int 0])), (aLoops_counts, .inl (cI, 12, .inl (fun _ => 0))), (aLoops_limits, .inl (cI, 12, .inl (fun _ => 0))), (aMachine_ends, .inl (cI, 12, .inl (fun _ => 0))), (aMachine_returns, .inl (cI, 12, .inl (fun _ => 0))), (aMachine_loopsBefore, .inl (cI, 12, .inl (fun _ => 0))), (aLoader, .inr (3, [.ref aText, .ref aDictionary, .ref aMachine, .ref aVocabulary, .int (-1 : Int32)])), (aVocabulary, .inr (9, [.ref aVocabulary_keys])), (aVocabulary_keys, .inl (cJ, 49, .inr (.inl w_keys)))] := hD
  refine W.widen (k := 25) (n := 964) (by decide) (by decide) ?_
  refine va_putF (D := (dC, dI)) (ci := 10) (v := .ref aLoader) (ty := .object "WordForge$Loader") (C := RX11) (T := TX11) (N := 6) hx hb hts (fun w h => List.mem_cons_of_mem _ (inX11 w h)) tyX11 tyX11_ok nmX11 hown hK hP hD hS 0 rfl rfl 5 (by decide) (hts _ (List.mem_cons_of_mem _ mw_356)) (fun _ h9 => h9) rfl hin rfl (by decide +kernel) rfl rfl (Nat.le_of_ble_eq_true rfl) dX11_init_91 (fun H locs hP hD hS => ?_)
  have hP : va_P (dC, dI) vwCl [(aWF, .inr (10, [.ref aText, .ref aStack, .ref aTape, .ref aDictionary, .ref aMachine, .ref aLoader])), (aText, .inr (8, [.ref aText_codes, .int 0, .int 0, .int 0, .int 0])), (aText_codes, .inl (cC, 300, .inl (fun _ => 0))), (aStack, .inr (6, [.ref aStack_values, .int 0])), (aStack_values, .inl (cI, 32, .inl (fun _ => 0))), (aTape, .inr (7, [.ref aTape_latest, .int 0])), (aTape_latest, .inl (cI, 16, .inl (fun _ => 0))), (aDictionary_keys, .inl (cJ, 20, .inr (.inl (fun _ => 0)))), (aDictionary_starts, .inl (cI, 21, .inl (fun _ => 0))), (aCode, .inr (0, [.ref aCode_ops, .ref aCode_args])), (aCode_ops, .inl (cI, 200, .inl (fun _ => 0))), (aCode_args, .inl (cI, 200, .inl (fun _ => 0))), (aLinker, .inr (2, [.ref aCode, .ref aLinker_waiting, .int 0, .int 0])), (aLinker_waiting, .inl (cI, 8, .inl (fun _ => 0))), (aMachine, .inr (5, [.ref aStack, .ref aTape, .ref aDictionary, .ref aCode, .ref aMachine_cells, .ref aLoops, .ref aMachine_ends, .ref aMachine_returns, .ref aMachine_loopsBefore, .int 0, .int 0, .int 0])), (aDictionary, .inr (1, [.ref aDictionary_keys, .ref aDictionary_starts, .ref aCode, .ref aLinker, .int 0, .int 0])), (aMachine_cells, .inl (cI, 16, .inl (fun _ => 0))), (aLoops, .inr (4, [.ref aLoops_counts, .ref aLoops_limits, .int 0])), (aLoops_counts, .inl (cI, 12, .inl (fun _ => 0))), (aLoops_limits, .inl (cI, 12, .inl (fun _ => 0))), (aMachine_ends, .inl (cI, 12, .inl (fun _ => 0))), (aMachine_returns, .inl (cI, 12, .inl (fun _ => 0))), (aMachine_loopsBefore, .inl (cI, 12, .inl (fun _ => 0))), (aLoader, .inr (3, [.ref aText, .ref aDictionary, .ref aMachine, .ref aVocabulary, .int (-1 : Int32)])), (aVocabulary, .inr (9, [.ref aVocabulary_keys])), (aVocabulary_keys, .inl (cJ, 49, .inr (.inl w_keys)))] H := hP
  have hD : va_D A [(aWF, .inr (10, [.ref aText, .ref aStack, .ref aTape, .ref aDictionary, .ref aMachine, .ref aLoader])), (aText, .inr (8, [.ref aText_codes, .int 0, .int 0, .int 0, .int 0])), (aText_codes, .inl (cC, 300, .inl (fun _ => 0))), (aStack, .inr (6, [.ref aStack_values, .int 0])), (aStack_values, .inl (cI, 32, .inl (fun _ => 0))), (aTape, .inr (7, [.ref aTape_latest, .int 0])), (aTape_latest, .inl (cI, 16, .inl (fun _ => 0))), (aDictionary_keys, .inl (cJ, 20, .inr (.inl (fun _ => 0)))), (aDictionary_starts, .inl (cI, 21, .inl (fun _ => 0))), (aCode, .inr (0, [.ref aCode_ops, .ref aCode_args])), (aCode_ops, .inl (cI, 200, .inl (fun _ => 0))), (aCode_args, .inl (cI, 200, .inl (fun _ => 0))), (aLinker, .inr (2, [.ref aCode, .ref aLinker_waiting, .int 0, .int 0])), (aLinker_waiting, .inl (cI, 8, .inl (fun _ => 0))), (aMachine, .inr (5, [.ref aStack, .ref aTape, .ref aDictionary, .ref aCode, .ref aMachine_cells, .ref aLoops, .ref aMachine_ends, .ref aMachine_returns, .ref aMachine_loopsBefore, .int 0, .int 0, .int 0])), (aDictionary, .inr (1, [.ref aDictionary_keys, .ref aDictionary_starts, .ref aCode, .ref aLinker, .int 0, .int 0])), (aMachine_cells, .inl (cI, 16, .inl (fun _ => 0))), (aLoops, .inr (4, [.ref aLoops_counts, .ref aLoops_limits, .int 0])), (aLoops_counts, .inl (cI, 12, .inl (fun _ => 0))), (aLoops_limits, .inl (cI, 12, .inl (fun _ => 0))), (aMachine_ends, .inl (cI, 12, .inl (fun _ => 0))), (aMachine_returns, .inl (cI, 12, .inl (fun _ => 0))), (aMachine_loopsBefore, .inl (cI, 12, .inl (fun _ => 0))), (aLoader, .inr (3, [.ref aText, .ref aDictionary, .ref aMachine, .ref aVocabulary, .int (-1 : Int32)])), (aVocabulary, .inr (9, [.ref aVocabulary_keys])), (aVocabulary_keys, .inl (cJ, 49, .inr (.inl w_keys)))] := hD
  rw [hQ]
  exact W.vret hx hb hr (fun t ht hW => ⟨⟨(), rfl, trivial, aText, aText_codes, aStack, aStack_values, aTape, aTape_latest, aDictionary, aDictionary_keys, aDictionary_starts, aCode, aCode_ops, aCode_args, aLinker, aLinker_waiting, aMachine, aMachine_cells, aLoops, aLoops_counts, aLoops_limits, aMachine_ends, aMachine_returns, aMachine_loopsBefore, aLoader, aVocabulary, aVocabulary_keys, by rw [ht]; exact hP, va_K.moved hW.alike hK, hD⟩, hS.F ht⟩) hS.2.2 dX11_init_94
