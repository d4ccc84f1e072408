theorem dX8_init_0 : decode cX8_init 0 = .ok (.aload_n 0, 1) := by decide +kernel
theorem dX8_init_1 : decode cX8_init 1 = .ok (.invokespecial 1, 3) := by decide +kernel
theorem dX8_init_4 : decode cX8_init 4 = .ok (.aload_n 0, 1) := by decide +kernel
theorem dX8_init_5 : decode cX8_init 5 = .ok (.bipush 16, 2) := by decide +kernel
theorem dX8_init_7 : decode cX8_init 7 = .ok (.newarray .int, 2) := by decide +kernel
theorem dX8_init_9 : decode cX8_init 9 = .ok (.putfield 9, 3) := by decide +kernel
theorem dX8_init_12 : decode cX8_init 12 = .ok (.return_, 1) := by decide +kernel
theorem dX8_count_0 : decode cX8_count 0 = .ok (.aload_n 0, 1) := by decide +kernel
theorem dX8_count_1 : decode cX8_count 1 = .ok (.getfield 13, 3) := by decide +kernel
theorem dX8_count_4 : decode cX8_count 4 = .ok (.ireturn, 1) := by decide +kernel
theorem dX8_add_0 : decode cX8_add 0 = .ok (.aload_n 0, 1) := by decide +kernel
theorem dX8_add_1 : decode cX8_add 1 = .ok (.getfield 9, 3) := by decide +kernel
theorem dX8_add_4 : decode cX8_add 4 = .ok (.aload_n 0, 1) := by decide +kernel
theorem dX8_add_5 : decode cX8_add 5 = .ok (.getfield 13, 3) := by decide +kernel
theorem dX8_add_8 : decode cX8_add 8 = .ok (.bipush 15, 2) := by decide +kernel
theorem dX8_add_10 : decode cX8_add 10 = .ok (.iand, 1) := by decide +kernel
theorem dX8_add_11 : decode cX8_add 11 = .ok (.iload_n 1, 1) := by decide +kernel
theorem dX8_add_12 : decode cX8_add 12 = .ok (.iastore, 1) := by decide +kernel
theorem dX8_add_13 : decode cX8_add 13 = .ok (.aload_n 0, 1) := by decide +kernel
theorem dX8_add_14 : decode cX8_add 14 = .ok (.dup, 1) := by decide +kernel
theorem dX8_add_15 : decode cX8_add 15 = .ok (.getfield 13, 3) := by decide +kernel
theorem dX8_add_18 : decode cX8_add 18 = .ok (.iconst 1, 1) := by decide +kernel
theorem dX8_add_19 : decode cX8_add 19 = .ok (.iadd, 1) := by decide +kernel
theorem dX8_add_20 : decode cX8_add 20 = .ok (.putfield 13, 3) := by decide +kernel
theorem dX8_add_23 : decode cX8_add 23 = .ok (.return_, 1) := by decide +kernel
theorem dX8_has_0 : decode cX8_has 0 = .ok (.iload_n 1, 1) := by decide +kernel
theorem dX8_has_1 : decode cX8_has 1 = .ok (.ifCond .lt 21, 3) := by decide +kernel
theorem dX8_has_4 : decode cX8_has 4 = .ok (.iload_n 1, 1) := by decide +kernel
theorem dX8_has_5 : decode cX8_has 5 = .ok (.bipush 16, 2) := by decide +kernel
theorem dX8_has_7 : decode cX8_has 7 = .ok (.if_icmp .ge 15, 3) := by decide +kernel
theorem dX8_has_10 : decode cX8_has 10 = .ok (.iload_n 1, 1) := by decide +kernel
theorem dX8_has_11 : decode cX8_has 11 = .ok (.aload_n 0, 1) := by decide +kernel
theorem dX8_has_12 : decode cX8_has 12 = .ok (.getfield 13, 3) := by decide +kernel
theorem dX8_has_15 : decode cX8_has 15 = .ok (.if_icmp .ge 7, 3) := by decide +kernel
theorem dX8_has_18 : decode cX8_has 18 = .ok (.iconst 1, 1) := by decide +kernel
theorem dX8_has_19 : decode cX8_has 19 = .ok (.goto 4, 3) := by decide +kernel
theorem dX8_has_22 : decode cX8_has 22 = .ok (.iconst 0, 1) := by decide +kernel
theorem dX8_has_23 : decode cX8_has 23 = .ok (.ireturn, 1) := by decide +kernel
theorem dX8_fromLatest_0 : decode cX8_fromLatest 0 = .ok (.aload_n 0, 1) := by decide +kernel
theorem dX8_fromLatest_1 : decode cX8_fromLatest 1 = .ok (.getfield 9, 3) := by decide +kernel
theorem dX8_fromLatest_4 : decode cX8_fromLatest 4 = .ok (.aload_n 0, 1) := by decide +kernel
theorem dX8_fromLatest_5 : decode cX8_fromLatest 5 = .ok (.getfield 13, 3) := by decide +kernel
theorem dX8_fromLatest_8 : decode cX8_fromLatest 8 = .ok (.iconst 1, 1) := by decide +kernel
theorem dX8_fromLatest_9 : decode cX8_fromLatest 9 = .ok (.isub, 1) := by decide +kernel
theorem dX8_fromLatest_10 : decode cX8_fromLatest 10 = .ok (.iload_n 1, 1) := by decide +kernel
theorem dX8_fromLatest_11 : decode cX8_fromLatest 11 = .ok (.isub, 1) := by decide +kernel
theorem dX8_fromLatest_12 : decode cX8_fromLatest 12 = .ok (.bipush 15, 2) := by decide +kernel
theorem dX8_fromLatest_14 : decode cX8_fromLatest 14 = .ok (.iand, 1) := by decide +kernel
theorem dX8_fromLatest_15 : decode cX8_fromLatest 15 = .ok (.iaload, 1) := by decide +kernel
theorem dX8_fromLatest_16 : decode cX8_fromLatest 16 = .ok (.ireturn, 1) := by decide +kernel
theorem dX9_init_0 : decode cX9_init 0 = .ok (.aload_n 0, 1) := by decide +kernel
theorem dX9_init_1 : decode cX9_init 1 = .ok (.invokespecial 1, 3) := by decide +kernel
theorem dX9_init_4 : decode cX9_init 4 = .ok (.aload_n 0, 1) := by decide +kernel
theorem dX9_init_5 : decode cX9_init 5 = .ok (.sipush 300, 3) := by decide +kernel
theorem dX9_init_8 : decode cX9_init 8 = .ok (.newarray .char, 2) := by decide +kernel
theorem dX9_init_10 : decode cX9_init 10 = .ok (.putfield 9, 3) := by decide +kernel
theorem dX9_init_13 : decode cX9_init 13 = .ok (.return_, 1) := by decide +kernel
theorem dX9_erase_0 : decode cX9_erase 0 = .ok (.aload_n 0, 1) := by decide +kernel
theorem dX9_erase_1 : decode cX9_erase 1 = .ok (.iconst 0, 1) := by decide +kernel
theorem dX9_erase_2 : decode cX9_erase 2 = .ok (.putfield 13, 3) := by decide +kernel
theorem dX9_erase_5 : decode cX9_erase 5 = .ok (.return_, 1) := by decide +kernel
theorem dX9_append_0 : decode cX9_append 0 = .ok (.iconst 0, 1) := by decide +kernel
theorem dX9_append_1 : decode cX9_append 1 = .ok (.istore_n 2, 1) := by decide +kernel
theorem dX9_append_2 : decode cX9_append 2 = .ok (.iload_n 2, 1) := by decide +kernel
theorem dX9_append_3 : decode cX9_append 3 = .ok (.iconst 4, 1) := by decide +kernel
theorem dX9_append_4 : decode cX9_append 4 = .ok (.if_icmp .ge 39, 3) := by decide +kernel
theorem dX9_append_7 : decode cX9_append 7 = .ok (.iload_n 1, 1) := by decide +kernel
theorem dX9_append_8 : decode cX9_append 8 = .ok (.iload_n 2, 1) := by decide +kernel
theorem dX9_append_9 : decode cX9_append 9 = .ok (.invokestatic 17, 3) := by decide +kernel
theorem dX9_append_12 : decode cX9_append 12 = .ok (.ifCond .eq 31, 3) := by decide +kernel
theorem dX9_append_15 : decode cX9_append 15 = .ok (.iload_n 1, 1) := by decide +kernel
theorem dX9_append_16 : decode cX9_append 16 = .ok (.iload_n 2, 1) := by decide +kernel
theorem dX9_append_17 : decode cX9_append 17 = .ok (.invokestatic 17, 3) := by decide +kernel
theorem dX9_append_20 : decode cX9_append 20 = .ok (.bipush 32, 2) := by decide +kernel
theorem dX9_append_22 : decode cX9_append 22 = .ok (.if_icmp .lt 13, 3) := by decide +kernel
theorem dX9_append_25 : decode cX9_append 25 = .ok (.iload_n 1, 1) := by decide +kernel
theorem dX9_append_26 : decode cX9_append 26 = .ok (.iload_n 2, 1) := by decide +kernel
theorem dX9_append_27 : decode cX9_append 27 = .ok (.invokestatic 17, 3) := by decide +kernel
theorem dX9_append_30 : decode cX9_append 30 = .ok (.bipush 126, 2) := by decide +kernel
theorem dX9_append_32 : decode cX9_append 32 = .ok (.if_icmp .le 5, 3) := by decide +kernel
theorem dX9_append_35 : decode cX9_append 35 = .ok (.iconst (-1), 1) := by decide +kernel
theorem dX9_append_36 : decode cX9_append 36 = .ok (.ireturn, 1) := by decide +kernel
theorem dX9_append_37 : decode cX9_append 37 = .ok (.iinc 2 1, 3) := by decide +kernel
theorem dX9_append_40 : decode cX9_append 40 = .ok (.goto (-38), 3) := by decide +kernel
theorem dX9_append_43 : decode cX9_append 43 = .ok (.aload_n 0, 1) := by decide +kernel
theorem dX9_append_44 : decode cX9_append 44 = .ok (.getfield 13, 3) := by decide +kernel
theorem dX9_append_47 : decode cX9_append 47 = .ok (.ifCond .lt 17, 3) := by decide +kernel
theorem dX9_append_50 : decode cX9_append 50 = .ok (.aload_n 0, 1) := by decide +kernel
theorem dX9_append_51 : decode cX9_append 51 = .ok (.getfield 13, 3) := by decide +kernel
theorem dX9_append_54 : decode cX9_append 54 = .ok (.iload_n 2, 1) := by decide +kernel
theorem dX9_append_55 : decode cX9_append 55 = .ok (.iadd, 1) := by decide +kernel
theorem dX9_append_56 : decode cX9_append 56 = .ok (.aload_n 0, 1) := by decide +kernel
theorem dX9_append_57 : decode cX9_append 57 = .ok (.getfield 9, 3) := by decide +kernel
theorem dX9_append_60 : decode cX9_append 60 = .ok (.arraylength, 1) := by decide +kernel
theorem dX9_append_61 : decode cX9_append 61 = .ok (.if_icmp .le 5, 3) := by decide +kernel
theorem dX9_append_64 : decode cX9_append 64 = .ok (.iconst (-1), 1) := by decide +kernel
theorem dX9_append_65 : decode cX9_append 65 = .ok (.ireturn, 1) := by decide +kernel
theorem dX9_append_66 : decode cX9_append 66 = .ok (.iconst 0, 1) := by decide +kernel
theorem dX9_append_67 : decode cX9_append 67 = .ok (.istore_n 3, 1) := by decide +kernel
theorem dX9_append_68 : decode cX9_append 68 = .ok (.iload_n 3, 1) := by decide +kernel
theorem dX9_append_69 : decode cX9_append 69 = .ok (.iload_n 2, 1) := by decide +kernel
theorem dX9_append_70 : decode cX9_append 70 = .ok (.if_icmp .ge 26, 3) := by decide +kernel
theorem dX9_append_73 : decode cX9_append 73 = .ok (.aload_n 0, 1) := by decide +kernel
theorem dX9_append_74 : decode cX9_append 74 = .ok (.getfield 9, 3) := by decide +kernel
theorem dX9_append_77 : decode cX9_append 77 = .ok (.aload_n 0, 1) := by decide +kernel
theorem dX9_append_78 : decode cX9_append 78 = .ok (.getfield 13, 3) := by decide +kernel
theorem dX9_append_81 : decode cX9_append 81 = .ok (.iload_n 3, 1) := by decide +kernel
theorem dX9_append_82 : decode cX9_append 82 = .ok (.iadd, 1) := by decide +kernel
theorem dX9_append_83 : decode cX9_append 83 = .ok (.iload_n 1, 1) := by decide +kernel
theorem dX9_append_84 : decode cX9_append 84 = .ok (.iload_n 3, 1) := by decide +kernel
theorem dX9_append_85 : decode cX9_append 85 = .ok (.invokestatic 17, 3) := by decide +kernel
theorem dX9_append_88 : decode cX9_append 88 = .ok (.i2c, 1) := by decide +kernel
theorem dX9_append_89 : decode cX9_append 89 = .ok (.castore, 1) := by decide +kernel
theorem dX9_append_90 : decode cX9_append 90 = .ok (.iinc 3 1, 3) := by decide +kernel
theorem dX9_append_93 : decode cX9_append 93 = .ok (.goto (-25), 3) := by decide +kernel
theorem dX9_append_96 : decode cX9_append 96 = .ok (.aload_n 0, 1) := by decide +kernel
theorem dX9_append_97 : decode cX9_append 97 = .ok (.dup, 1) := by decide +kernel
theorem dX9_append_98 : decode cX9_append 98 = .ok (.getfield 13, 3) := by decide +kernel
theorem dX9_append_101 : decode cX9_append 101 = .ok (.iload_n 2, 1) := by decide +kernel
theorem dX9_append_102 : decode cX9_append 102 = .ok (.iadd, 1) := by decide +kernel
theorem dX9_append_103 : decode cX9_append 103 = .ok (.putfield 13, 3) := by decide +kernel
theorem dX9_append_106 : decode cX9_append 106 = .ok (.iload_n 2, 1) := by decide +kernel
theorem dX9_append_107 : decode cX9_append 107 = .ok (.ireturn, 1) := by decide +kernel
theorem dX9_codeOf_0 : decode cX9_codeOf 0 = .ok (.iload_n 0, 1) := by decide +kernel
theorem dX9_codeOf_1 : decode cX9_codeOf 1 = .ok (.bipush 8, 2) := by decide +kernel
theorem dX9_codeOf_3 : decode cX9_codeOf 3 = .ok (.iload_n 1, 1) := by decide +kernel
theorem dX9_codeOf_4 : decode cX9_codeOf 4 = .ok (.imul, 1) := by decide +kernel
theorem dX9_codeOf_5 : decode cX9_codeOf 5 = .ok (.ishr, 1) := by decide +kernel
theorem dX9_codeOf_6 : decode cX9_codeOf 6 = .ok (.sipush 255, 3) := by decide +kernel
theorem dX9_codeOf_9 : decode cX9_codeOf 9 = .ok (.iand, 1) := by decide +kernel
theorem dX9_codeOf_10 : decode cX9_codeOf 10 = .ok (.ireturn, 1) := by decide +kernel
theorem dX9_rewind_0 : decode cX9_rewind 0 = .ok (.aload_n 0, 1) := by decide +kernel
theorem dX9_rewind_1 : decode cX9_rewind 1 = .ok (.iconst 0, 1) := by decide +kernel
theorem dX9_rewind_2 : decode cX9_rewind 2 = .ok (.putfield 21, 3) := by decide +kernel
theorem dX9_rewind_5 : decode cX9_rewind 5 = .ok (.aload_n 0, 1) := by decide +kernel
theorem dX9_rewind_6 : decode cX9_rewind 6 = .ok (.iconst (-1), 1) := by decide +kernel
theorem dX9_rewind_7 : decode cX9_rewind 7 = .ok (.putfield 24, 3) := by decide +kernel
theorem dX9_rewind_10 : decode cX9_rewind 10 = .ok (.return_, 1) := by decide +kernel
theorem dX9_advance_0 : decode cX9_advance 0 = .ok (.aload_n 0, 1) := by decide +kernel
theorem dX9_advance_1 : decode cX9_advance 1 = .ok (.aload_n 0, 1) := by decide +kernel
theorem dX9_advance_2 : decode cX9_advance 2 = .ok (.getfield 21, 3) := by decide +kernel
theorem dX9_advance_5 : decode cX9_advance 5 = .ok (.putfield 27, 3) := by decide +kernel
theorem dX9_advance_8 : decode cX9_advance 8 = .ok (.aload_n 0, 1) := by decide +kernel
theorem dX9_advance_9 : decode cX9_advance 9 = .ok (.getfield 27, 3) := by decide +kernel
theorem dX9_advance_12 : decode cX9_advance 12 = .ok (.aload_n 0, 1) := by decide +kernel
theorem dX9_advance_13 : decode cX9_advance 13 = .ok (.getfield 13, 3) := by decide +kernel
theorem dX9_advance_16 : decode cX9_advance 16 = .ok (.if_icmp .ge 29, 3) := by decide +kernel
theorem dX9_advance_19 : decode cX9_advance 19 = .ok (.aload_n 0, 1) := by decide +kernel
theorem dX9_advance_20 : decode cX9_advance 20 = .ok (.aload_n 0, 1) := by decide +kernel
theorem dX9_advance_21 : decode cX9_advance 21 = .ok (.getfield 27, 3) := by decide +kernel
theorem dX9_advance_24 : decode cX9_advance 24 = .ok (.invokevirtual 30, 3) := by decide +kernel
theorem dX9_advance_27 : decode cX9_advance 27 = .ok (.bipush 32, 2) := by decide +kernel
theorem dX9_advance_29 : decode cX9_advance 29 = .ok (.if_icmp .ne 16, 3) := by decide +kernel
theorem dX9_advance_32 : decode cX9_advance 32 = .ok (.aload_n 0, 1) := by decide +kernel
theorem dX9_advance_33 : decode cX9_advance 33 = .ok (.dup, 1) := by decide +kernel
theorem dX9_advance_34 : decode cX9_advance 34 = .ok (.getfield 27, 3) := by decide +kernel
theorem dX9_advance_37 : decode cX9_advance 37 = .ok (.iconst 1, 1) := by decide +kernel
theorem dX9_advance_38 : decode cX9_advance 38 = .ok (.iadd, 1) := by decide +kernel
theorem dX9_advance_39 : decode cX9_advance 39 = .ok (.putfield 27, 3) := by decide +kernel
theorem dX9_advance_42 : decode cX9_advance 42 = .ok (.goto (-34), 3) := by decide +kernel
theorem dX9_advance_45 : decode cX9_advance 45 = .ok (.aload_n 0, 1) := by decide +kernel
theorem dX9_advance_46 : decode cX9_advance 46 = .ok (.aload_n 0, 1) := by decide +kernel
theorem dX9_advance_47 : decode cX9_advance 47 = .ok (.getfield 27, 3) := by decide +kernel
theorem dX9_advance_50 : decode cX9_advance 50 = .ok (.putfield 21, 3) := by decide +kernel
theorem dX9_advance_53 : decode cX9_advance 53 = .ok (.aload_n 0, 1) := by decide +kernel
theorem dX9_advance_54 : decode cX9_advance 54 = .ok (.getfield 21, 3) := by decide +kernel
theorem dX9_advance_57 : decode cX9_advance 57 = .ok (.aload_n 0, 1) := by decide +kernel
theorem dX9_advance_58 : decode cX9_advance 58 = .ok (.getfield 13, 3) := by decide +kernel
theorem dX9_advance_61 : decode cX9_advance 61 = .ok (.if_icmp .ge 29, 3) := by decide +kernel
theorem dX9_advance_64 : decode cX9_advance 64 = .ok (.aload_n 0, 1) := by decide +kernel
theorem dX9_advance_65 : decode cX9_advance 65 = .ok (.aload_n 0, 1) := by decide +kernel
theorem dX9_advance_66 : decode cX9_advance 66 = .ok (.getfield 21, 3) := by decide +kernel
theorem dX9_advance_69 : decode cX9_advance 69 = .ok (.invokevirtual 30, 3) := by decide +kernel
theorem dX9_advance_72 : decode cX9_advance 72 = .ok (.bipush 32, 2) := by decide +kernel
theorem dX9_advance_74 : decode cX9_advance 74 = .ok (.if_icmp .eq 16, 3) := by decide +kernel
theorem dX9_advance_77 : decode cX9_advance 77 = .ok (.aload_n 0, 1) := by decide +kernel
theorem dX9_advance_78 : decode cX9_advance 78 = .ok (.dup, 1) := by decide +kernel
theorem dX9_advance_79 : decode cX9_advance 79 = .ok (.getfield 21, 3) := by decide +kernel
theorem dX9_advance_82 : decode cX9_advance 82 = .ok (.iconst 1, 1) := by decide +kernel
theorem dX9_advance_83 : decode cX9_advance 83 = .ok (.iadd, 1) := by decide +kernel
theorem dX9_advance_84 : decode cX9_advance 84 = .ok (.putfield 21, 3) := by decide +kernel
theorem dX9_advance_87 : decode cX9_advance 87 = .ok (.goto (-34), 3) := by decide +kernel
theorem dX9_advance_90 : decode cX9_advance 90 = .ok (.aload_n 0, 1) := by decide +kernel
theorem dX9_advance_91 : decode cX9_advance 91 = .ok (.dup, 1) := by decide +kernel
theorem dX9_advance_92 : decode cX9_advance 92 = .ok (.getfield 24, 3) := by decide +kernel
theorem dX9_advance_95 : decode cX9_advance 95 = .ok (.iconst 1, 1) := by decide +kernel
theorem dX9_advance_96 : decode cX9_advance 96 = .ok (.iadd, 1) := by decide +kernel
theorem dX9_advance_97 : decode cX9_advance 97 = .ok (.putfield 24, 3) := by decide +kernel
theorem dX9_advance_100 : decode cX9_advance 100 = .ok (.aload_n 0, 1) := by decide +kernel
theorem dX9_advance_101 : decode cX9_advance 101 = .ok (.getfield 27, 3) := by decide +kernel
theorem dX9_advance_104 : decode cX9_advance 104 = .ok (.aload_n 0, 1) := by decide +kernel
theorem dX9_advance_105 : decode cX9_advance 105 = .ok (.getfield 21, 3) := by decide +kernel
theorem dX9_advance_108 : decode cX9_advance 108 = .ok (.if_icmp .ge 7, 3) := by decide +kernel
theorem dX9_advance_111 : decode cX9_advance 111 = .ok (.iconst 1, 1) := by decide +kernel
theorem dX9_advance_112 : decode cX9_advance 112 = .ok (.goto 4, 3) := by decide +kernel
theorem dX9_advance_115 : decode cX9_advance 115 = .ok (.iconst 0, 1) := by decide +kernel
theorem dX9_advance_116 : decode cX9_advance 116 = .ok (.ireturn, 1) := by decide +kernel
theorem dX9_charAt_0 : decode cX9_charAt 0 = .ok (.iload_n 1, 1) := by decide +kernel
theorem dX9_charAt_1 : decode cX9_charAt 1 = .ok (.ifCond .lt 29, 3) := by decide +kernel
theorem dX9_charAt_4 : decode cX9_charAt 4 = .ok (.iload_n 1, 1) := by decide +kernel
theorem dX9_charAt_5 : decode cX9_charAt 5 = .ok (.aload_n 0, 1) := by decide +kernel
theorem dX9_charAt_6 : decode cX9_charAt 6 = .ok (.getfield 13, 3) := by decide +kernel
theorem dX9_charAt_9 : decode cX9_charAt 9 = .ok (.if_icmp .ge 21, 3) := by decide +kernel
theorem dX9_charAt_12 : decode cX9_charAt 12 = .ok (.iload_n 1, 1) := by decide +kernel
theorem dX9_charAt_13 : decode cX9_charAt 13 = .ok (.aload_n 0, 1) := by decide +kernel
theorem dX9_charAt_14 : decode cX9_charAt 14 = .ok (.getfield 9, 3) := by decide +kernel
theorem dX9_charAt_17 : decode cX9_charAt 17 = .ok (.arraylength, 1) := by decide +kernel
theorem dX9_charAt_18 : decode cX9_charAt 18 = .ok (.if_icmp .ge 12, 3) := by decide +kernel
theorem dX9_charAt_21 : decode cX9_charAt 21 = .ok (.aload_n 0, 1) := by decide +kernel
theorem dX9_charAt_22 : decode cX9_charAt 22 = .ok (.getfield 9, 3) := by decide +kernel
theorem dX9_charAt_25 : decode cX9_charAt 25 = .ok (.iload_n 1, 1) := by decide +kernel
theorem dX9_charAt_26 : decode cX9_charAt 26 = .ok (.caload, 1) := by decide +kernel
theorem dX9_charAt_27 : decode cX9_charAt 27 = .ok (.goto 5, 3) := by decide +kernel
theorem dX9_charAt_30 : decode cX9_charAt 30 = .ok (.bipush 32, 2) := by decide +kernel
theorem dX9_charAt_32 : decode cX9_charAt 32 = .ok (.ireturn, 1) := by decide +kernel
theorem dX9_wordPlace_0 : decode cX9_wordPlace 0 = .ok (.aload_n 0, 1) := by decide +kernel
theorem dX9_wordPlace_1 : decode cX9_wordPlace 1 = .ok (.getfield 24, 3) := by decide +kernel
theorem dX9_wordPlace_4 : decode cX9_wordPlace 4 = .ok (.ireturn, 1) := by decide +kernel
theorem dX9_wordLength_0 : decode cX9_wordLength 0 = .ok (.aload_n 0, 1) := by decide +kernel
theorem dX9_wordLength_1 : decode cX9_wordLength 1 = .ok (.getfield 21, 3) := by decide +kernel
theorem dX9_wordLength_4 : decode cX9_wordLength 4 = .ok (.aload_n 0, 1) := by decide +kernel
theorem dX9_wordLength_5 : decode cX9_wordLength 5 = .ok (.getfield 27, 3) := by decide +kernel
theorem dX9_wordLength_8 : decode cX9_wordLength 8 = .ok (.isub, 1) := by decide +kernel
theorem dX9_wordLength_9 : decode cX9_wordLength 9 = .ok (.ireturn, 1) := by decide +kernel
theorem dX9_wordKey_0 : decode cX9_wordKey 0 = .ok (.aload_n 0, 1) := by decide +kernel
theorem dX9_wordKey_1 : decode cX9_wordKey 1 = .ok (.getfield 21, 3) := by decide +kernel
theorem dX9_wordKey_4 : decode cX9_wordKey 4 = .ok (.aload_n 0, 1) := by decide +kernel
theorem dX9_wordKey_5 : decode cX9_wordKey 5 = .ok (.getfield 27, 3) := by decide +kernel
theorem dX9_wordKey_8 : decode cX9_wordKey 8 = .ok (.isub, 1) := by decide +kernel
theorem dX9_wordKey_9 : decode cX9_wordKey 9 = .ok (.bipush 7, 2) := by decide +kernel
theorem dX9_wordKey_11 : decode cX9_wordKey 11 = .ok (.if_icmp .le 7, 3) := by decide +kernel
theorem dX9_wordKey_14 : decode cX9_wordKey 14 = .ok (.ldc2_w 34, 3) := by decide +kernel
theorem dX9_wordKey_17 : decode cX9_wordKey 17 = .ok (.lreturn, 1) := by decide +kernel
theorem dX9_wordKey_18 : decode cX9_wordKey 18 = .ok (.lconst 0, 1) := by decide +kernel
theorem dX9_wordKey_19 : decode cX9_wordKey 19 = .ok (.lstore_n 1, 1) := by decide +kernel
theorem dX9_wordKey_20 : decode cX9_wordKey 20 = .ok (.aload_n 0, 1) := by decide +kernel
theorem dX9_wordKey_21 : decode cX9_wordKey 21 = .ok (.getfield 27, 3) := by decide +kernel
theorem dX9_wordKey_24 : decode cX9_wordKey 24 = .ok (.istore_n 3, 1) := by decide +kernel
theorem dX9_wordKey_25 : decode cX9_wordKey 25 = .ok (.iload_n 3, 1) := by decide +kernel
theorem dX9_wordKey_26 : decode cX9_wordKey 26 = .ok (.aload_n 0, 1) := by decide +kernel
theorem dX9_wordKey_27 : decode cX9_wordKey 27 = .ok (.getfield 21, 3) := by decide +kernel
theorem dX9_wordKey_30 : decode cX9_wordKey 30 = .ok (.if_icmp .ge 22, 3) := by decide +kernel
theorem dX9_wordKey_33 : decode cX9_wordKey 33 = .ok (.lload_n 1, 1) := by decide +kernel
theorem dX9_wordKey_34 : decode cX9_wordKey 34 = .ok (.ldc2_w 36, 3) := by decide +kernel
theorem dX9_wordKey_37 : decode cX9_wordKey 37 = .ok (.lmul, 1) := by decide +kernel
theorem dX9_wordKey_38 : decode cX9_wordKey 38 = .ok (.aload_n 0, 1) := by decide +kernel
theorem dX9_wordKey_39 : decode cX9_wordKey 39 = .ok (.iload_n 3, 1) := by decide +kernel
theorem dX9_wordKey_40 : decode cX9_wordKey 40 = .ok (.invokevirtual 30, 3) := by decide +kernel
theorem dX9_wordKey_43 : decode cX9_wordKey 43 = .ok (.i2l, 1) := by decide +kernel
theorem dX9_wordKey_44 : decode cX9_wordKey 44 = .ok (.ladd, 1) := by decide +kernel
theorem dX9_wordKey_45 : decode cX9_wordKey 45 = .ok (.lstore_n 1, 1) := by decide +kernel
theorem dX9_wordKey_46 : decode cX9_wordKey 46 = .ok (.iinc 3 1, 3) := by decide +kernel
theorem dX9_wordKey_49 : decode cX9_wordKey 49 = .ok (.goto (-24), 3) := by decide +kernel
theorem dX9_wordKey_52 : decode cX9_wordKey 52 = .ok (.lload_n 1, 1) := by decide +kernel
theorem dX9_wordKey_53 : decode cX9_wordKey 53 = .ok (.lreturn, 1) := by decide +kernel
theorem dX9_isNumber_0 : decode cX9_isNumber 0 = .ok (.aload_n 0, 1) := by decide +kernel
theorem dX9_isNumber_1 : decode cX9_isNumber 1 = .ok (.invokevirtual 38, 3) := by decide +kernel
theorem dX9_isNumber_4 : decode cX9_isNumber 4 = .ok (.istore_n 1, 1) := by decide +kernel
theorem dX9_isNumber_5 : decode cX9_isNumber 5 = .ok (.iload_n 1, 1) := by decide +kernel
theorem dX9_isNumber_6 : decode cX9_isNumber 6 = .ok (.aload_n 0, 1) := by decide +kernel
theorem dX9_isNumber_7 : decode cX9_isNumber 7 = .ok (.getfield 21, 3) := by decide +kernel
theorem dX9_isNumber_10 : decode cX9_isNumber 10 = .ok (.if_icmp .ge 14, 3) := by decide +kernel
theorem dX9_isNumber_13 : decode cX9_isNumber 13 = .ok (.aload_n 0, 1) := by decide +kernel
theorem dX9_isNumber_14 : decode cX9_isNumber 14 = .ok (.getfield 21, 3) := by decide +kernel
theorem dX9_isNumber_17 : decode cX9_isNumber 17 = .ok (.iload_n 1, 1) := by decide +kernel
theorem dX9_isNumber_18 : decode cX9_isNumber 18 = .ok (.isub, 1) := by decide +kernel
theorem dX9_isNumber_19 : decode cX9_isNumber 19 = .ok (.bipush 9, 2) := by decide +kernel
theorem dX9_isNumber_21 : decode cX9_isNumber 21 = .ok (.if_icmp .le 5, 3) := by decide +kernel
theorem dX9_isNumber_24 : decode cX9_isNumber 24 = .ok (.iconst 0, 1) := by decide +kernel
theorem dX9_isNumber_25 : decode cX9_isNumber 25 = .ok (.ireturn, 1) := by decide +kernel
theorem dX9_isNumber_26 : decode cX9_isNumber 26 = .ok (.iload_n 1, 1) := by decide +kernel
theorem dX9_isNumber_27 : decode cX9_isNumber 27 = .ok (.istore_n 2, 1) := by decide +kernel
theorem dX9_isNumber_28 : decode cX9_isNumber 28 = .ok (.iload_n 2, 1) := by decide +kernel
theorem dX9_isNumber_29 : decode cX9_isNumber 29 = .ok (.aload_n 0, 1) := by decide +kernel
theorem dX9_isNumber_30 : decode cX9_isNumber 30 = .ok (.getfield 21, 3) := by decide +kernel
theorem dX9_isNumber_33 : decode cX9_isNumber 33 = .ok (.if_icmp .ge 31, 3) := by decide +kernel
theorem dX9_isNumber_36 : decode cX9_isNumber 36 = .ok (.aload_n 0, 1) := by decide +kernel
theorem dX9_isNumber_37 : decode cX9_isNumber 37 = .ok (.iload_n 2, 1) := by decide +kernel
theorem dX9_isNumber_38 : decode cX9_isNumber 38 = .ok (.invokevirtual 30, 3) := by decide +kernel
theorem dX9_isNumber_41 : decode cX9_isNumber 41 = .ok (.bipush 48, 2) := by decide +kernel
theorem dX9_isNumber_43 : decode cX9_isNumber 43 = .ok (.if_icmp .lt 13, 3) := by decide +kernel
theorem dX9_isNumber_46 : decode cX9_isNumber 46 = .ok (.aload_n 0, 1) := by decide +kernel
theorem dX9_isNumber_47 : decode cX9_isNumber 47 = .ok (.iload_n 2, 1) := by decide +kernel
theorem dX9_isNumber_48 : decode cX9_isNumber 48 = .ok (.invokevirtual 30, 3) := by decide +kernel
theorem dX9_isNumber_51 : decode cX9_isNumber 51 = .ok (.bipush 57, 2) := by decide +kernel
theorem dX9_isNumber_53 : decode cX9_isNumber 53 = .ok (.if_icmp .le 5, 3) := by decide +kernel
theorem dX9_isNumber_56 : decode cX9_isNumber 56 = .ok (.iconst 0, 1) := by decide +kernel
theorem dX9_isNumber_57 : decode cX9_isNumber 57 = .ok (.ireturn, 1) := by decide +kernel
theorem dX9_isNumber_58 : decode cX9_isNumber 58 = .ok (.iinc 2 1, 3) := by decide +kernel
theorem dX9_isNumber_61 : decode cX9_isNumber 61 = .ok (.goto (-33), 3) := by decide +kernel
theorem dX9_isNumber_64 : decode cX9_isNumber 64 = .ok (.iconst 1, 1) := by decide +kernel
theorem dX9_isNumber_65 : decode cX9_isNumber 65 = .ok (.ireturn, 1) := by decide +kernel
theorem dX9_numberValue_0 : decode cX9_numberValue 0 = .ok (.aload_n 0, 1) := by decide +kernel
theorem dX9_numberValue_1 : decode cX9_numberValue 1 = .ok (.invokevirtual 38, 3) := by decide +kernel
theorem dX9_numberValue_4 : decode cX9_numberValue 4 = .ok (.istore_n 1, 1) := by decide +kernel
theorem dX9_numberValue_5 : decode cX9_numberValue 5 = .ok (.iconst 0, 1) := by decide +kernel
theorem dX9_numberValue_6 : decode cX9_numberValue 6 = .ok (.istore_n 2, 1) := by decide +kernel
theorem dX9_numberValue_7 : decode cX9_numberValue 7 = .ok (.iload_n 1, 1) := by decide +kernel
theorem dX9_numberValue_8 : decode cX9_numberValue 8 = .ok (.istore_n 3, 1) := by decide +kernel
theorem dX9_numberValue_9 : decode cX9_numberValue 9 = .ok (.iload_n 3, 1) := by decide +kernel
theorem dX9_numberValue_10 : decode cX9_numberValue 10 = .ok (.aload_n 0, 1) := by decide +kernel
theorem dX9_numberValue_11 : decode cX9_numberValue 11 = .ok (.getfield 21, 3) := by decide +kernel
theorem dX9_numberValue_14 : decode cX9_numberValue 14 = .ok (.if_icmp .ge 23, 3) := by decide +kernel
theorem dX9_numberValue_17 : decode cX9_numberValue 17 = .ok (.iload_n 2, 1) := by decide +kernel
theorem dX9_numberValue_18 : decode cX9_numberValue 18 = .ok (.bipush 10, 2) := by decide +kernel
theorem dX9_numberValue_20 : decode cX9_numberValue 20 = .ok (.imul, 1) := by decide +kernel
theorem dX9_numberValue_21 : decode cX9_numberValue 21 = .ok (.aload_n 0, 1) := by decide +kernel
theorem dX9_numberValue_22 : decode cX9_numberValue 22 = .ok (.iload_n 3, 1) := by decide +kernel
theorem dX9_numberValue_23 : decode cX9_numberValue 23 = .ok (.invokevirtual 30, 3) := by decide +kernel
theorem dX9_numberValue_26 : decode cX9_numberValue 26 = .ok (.bipush 48, 2) := by decide +kernel
theorem dX9_numberValue_28 : decode cX9_numberValue 28 = .ok (.isub, 1) := by decide +kernel
theorem dX9_numberValue_29 : decode cX9_numberValue 29 = .ok (.iadd, 1) := by decide +kernel
theorem dX9_numberValue_30 : decode cX9_numberValue 30 = .ok (.istore_n 2, 1) := by decide +kernel
theorem dX9_numberValue_31 : decode cX9_numberValue 31 = .ok (.iinc 3 1, 3) := by decide +kernel
theorem dX9_numberValue_34 : decode cX9_numberValue 34 = .ok (.goto (-25), 3) := by decide +kernel
theorem dX9_numberValue_37 : decode cX9_numberValue 37 = .ok (.iload_n 1, 1) := by decide +kernel
theorem dX9_numberValue_38 : decode cX9_numberValue 38 = .ok (.aload_n 0, 1) := by decide +kernel
theorem dX9_numberValue_39 : decode cX9_numberValue 39 = .ok (.getfield 27, 3) := by decide +kernel
theorem dX9_numberValue_42 : decode cX9_numberValue 42 = .ok (.if_icmp .le 8, 3) := by decide +kernel
theorem dX9_numberValue_45 : decode cX9_numberValue 45 = .ok (.iload_n 2, 1) := by decide +kernel
theorem dX9_numberValue_46 : decode cX9_numberValue 46 = .ok (.ineg, 1) := by decide +kernel
theorem dX9_numberValue_47 : decode cX9_numberValue 47 = .ok (.goto 4, 3) := by decide +kernel
theorem dX9_numberValue_50 : decode cX9_numberValue 50 = .ok (.iload_n 2, 1) := by decide +kernel
theorem dX9_numberValue_51 : decode cX9_numberValue 51 = .ok (.ireturn, 1) := by decide +kernel
theorem dX9_firstDigit_0 : decode cX9_firstDigit 0 = .ok (.aload_n 0, 1) := by decide +kernel
theorem dX9_firstDigit_1 : decode cX9_firstDigit 1 = .ok (.aload_n 0, 1) := by decide +kernel
theorem dX9_firstDigit_2 : decode cX9_firstDigit 2 = .ok (.getfield 27, 3) := by decide +kernel
theorem dX9_firstDigit_5 : decode cX9_firstDigit 5 = .ok (.invokevirtual 30, 3) := by decide +kernel
theorem dX9_firstDigit_8 : decode cX9_firstDigit 8 = .ok (.bipush 45, 2) := by decide +kernel
theorem dX9_firstDigit_10 : decode cX9_firstDigit 10 = .ok (.if_icmp .ne 12, 3) := by decide +kernel
theorem dX9_firstDigit_13 : decode cX9_firstDigit 13 = .ok (.aload_n 0, 1) := by decide +kernel
theorem dX9_firstDigit_14 : decode cX9_firstDigit 14 = .ok (.getfield 27, 3) := by decide +kernel
theorem dX9_firstDigit_17 : decode cX9_firstDigit 17 = .ok (.iconst 1, 1) := by decide +kernel
theorem dX9_firstDigit_18 : decode cX9_firstDigit 18 = .ok (.iadd, 1) := by decide +kernel
theorem dX9_firstDigit_19 : decode cX9_firstDigit 19 = .ok (.goto 7, 3) := by decide +kernel
theorem dX9_firstDigit_22 : decode cX9_firstDigit 22 = .ok (.aload_n 0, 1) := by decide +kernel
theorem dX9_firstDigit_23 : decode cX9_firstDigit 23 = .ok (.getfield 27, 3) := by decide +kernel
theorem dX9_firstDigit_26 : decode cX9_firstDigit 26 = .ok (.ireturn, 1) := by decide +kernel
theorem dX10_init_0 : decode cX10_init 0 = .ok (.aload_n 0, 1) := by decide +kernel
theorem dX10_init_1 : decode cX10_init 1 = .ok (.invokespecial 1, 3) := by decide +kernel
theorem dX10_init_4 : decode cX10_init 4 = .ok (.aload_n 0, 1) := by decide +kernel
theorem dX10_init_5 : decode cX10_init 5 = .ok (.bipush 49, 2) := by decide +kernel
theorem dX10_init_7 : decode cX10_init 7 = .ok (.newarray .long, 2) := by decide +kernel
theorem dX10_init_9 : decode cX10_init 9 = .ok (.putfield 9, 3) := by decide +kernel
theorem dX10_init_12 : decode cX10_init 12 = .ok (.aload_n 0, 1) := by decide +kernel
theorem dX10_init_13 : decode cX10_init 13 = .ok (.ldc 15, 2) := by decide +kernel
theorem dX10_init_15 : decode cX10_init 15 = .ok (.iconst 0, 1) := by decide +kernel
theorem dX10_init_16 : decode cX10_init 16 = .ok (.invokevirtual 17, 3) := by decide +kernel
theorem dX10_init_19 : decode cX10_init 19 = .ok (.aload_n 0, 1) := by decide +kernel
theorem dX10_init_20 : decode cX10_init 20 = .ok (.ldc 21, 2) := by decide +kernel
theorem dX10_init_22 : decode cX10_init 22 = .ok (.bipush 9, 2) := by decide +kernel
theorem dX10_init_24 : decode cX10_init 24 = .ok (.invokevirtual 17, 3) := by decide +kernel
theorem dX10_init_27 : decode cX10_init 27 = .ok (.aload_n 0, 1) := by decide +kernel
theorem dX10_init_28 : decode cX10_init 28 = .ok (.ldc 23, 2) := by decide +kernel
theorem dX10_init_30 : decode cX10_init 30 = .ok (.bipush 24, 2) := by decide +kernel
theorem dX10_init_32 : decode cX10_init 32 = .ok (.invokevirtual 17, 3) := by decide +kernel
theorem dX10_init_35 : decode cX10_init 35 = .ok (.aload_n 0, 1) := by decide +kernel
theorem dX10_init_36 : decode cX10_init 36 = .ok (.ldc 25, 2) := by decide +kernel
theorem dX10_init_38 : decode cX10_init 38 = .ok (.bipush 29, 2) := by decide +kernel
theorem dX10_init_40 : decode cX10_init 40 = .ok (.invokevirtual 17, 3) := by decide +kernel
theorem dX10_init_43 : decode cX10_init 43 = .ok (.aload_n 0, 1) := by decide +kernel
theorem dX10_init_44 : decode cX10_init 44 = .ok (.ldc 27, 2) := by decide +kernel
theorem dX10_init_46 : decode cX10_init 46 = .ok (.bipush 33, 2) := by decide +kernel
theorem dX10_init_48 : decode cX10_init 48 = .ok (.invokevirtual 17, 3) := by decide +kernel
theorem dX10_init_51 : decode cX10_init 51 = .ok (.aload_n 0, 1) := by decide +kernel
theorem dX10_init_52 : decode cX10_init 52 = .ok (.ldc 29, 2) := by decide +kernel
theorem dX10_init_54 : decode cX10_init 54 = .ok (.bipush 46, 2) := by decide +kernel
theorem dX10_init_56 : decode cX10_init 56 = .ok (.invokevirtual 17, 3) := by decide +kernel
theorem dX10_init_59 : decode cX10_init 59 = .ok (.return_, 1) := by decide +kernel
theorem dX10_learn_0 : decode cX10_learn 0 = .ok (.iload_n 2, 1) := by decide +kernel
theorem dX10_learn_1 : decode cX10_learn 1 = .ok (.istore_n 3, 1) := by decide +kernel
theorem dX10_learn_2 : decode cX10_learn 2 = .ok (.iconst 0, 1) := by decide +kernel
theorem dX10_learn_3 : decode cX10_learn 3 = .ok (.istore 4, 2) := by decide +kernel
theorem dX10_learn_5 : decode cX10_learn 5 = .ok (.iload 4, 2) := by decide +kernel
theorem dX10_learn_7 : decode cX10_learn 7 = .ok (.aload_n 1, 1) := by decide +kernel
theorem dX10_learn_8 : decode cX10_learn 8 = .ok (.invokevirtual 31, 3) := by decide +kernel
theorem dX10_learn_11 : decode cX10_learn 11 = .ok (.if_icmp .ge 63, 3) := by decide +kernel
theorem dX10_learn_14 : decode cX10_learn 14 = .ok (.aload_n 1, 1) := by decide +kernel
theorem dX10_learn_15 : decode cX10_learn 15 = .ok (.iload 4, 2) := by decide +kernel
theorem dX10_learn_17 : decode cX10_learn 17 = .ok (.invokevirtual 37, 3) := by decide +kernel
theorem dX10_learn_20 : decode cX10_learn 20 = .ok (.istore 5, 2) := by decide +kernel
theorem dX10_learn_22 : decode cX10_learn 22 = .ok (.iload 5, 2) := by decide +kernel
theorem dX10_learn_24 : decode cX10_learn 24 = .ok (.bipush 32, 2) := by decide +kernel
theorem dX10_learn_26 : decode cX10_learn 26 = .ok (.if_icmp .ne 9, 3) := by decide +kernel
theorem dX10_learn_29 : decode cX10_learn 29 = .ok (.iinc 3 1, 3) := by decide +kernel
theorem dX10_learn_32 : decode cX10_learn 32 = .ok (.goto 36, 3) := by decide +kernel
theorem dX10_learn_35 : decode cX10_learn 35 = .ok (.iload_n 3, 1) := by decide +kernel
theorem dX10_learn_36 : decode cX10_learn 36 = .ok (.ifCond .lt 32, 3) := by decide +kernel
theorem dX10_learn_39 : decode cX10_learn 39 = .ok (.iload_n 3, 1) := by decide +kernel
theorem dX10_learn_40 : decode cX10_learn 40 = .ok (.aload_n 0, 1) := by decide +kernel
theorem dX10_learn_41 : decode cX10_learn 41 = .ok (.getfield 9, 3) := by decide +kernel
theorem dX10_learn_44 : decode cX10_learn 44 = .ok (.arraylength, 1) := by decide +kernel
theorem dX10_learn_45 : decode cX10_learn 45 = .ok (.if_icmp .ge 23, 3) := by decide +kernel
theorem dX10_learn_48 : decode cX10_learn 48 = .ok (.aload_n 0, 1) := by decide +kernel
theorem dX10_learn_49 : decode cX10_learn 49 = .ok (.getfield 9, 3) := by decide +kernel
theorem dX10_learn_52 : decode cX10_learn 52 = .ok (.iload_n 3, 1) := by decide +kernel
theorem dX10_learn_53 : decode cX10_learn 53 = .ok (.aload_n 0, 1) := by decide +kernel
theorem dX10_learn_54 : decode cX10_learn 54 = .ok (.getfield 9, 3) := by decide +kernel
theorem dX10_learn_57 : decode cX10_learn 57 = .ok (.iload_n 3, 1) := by decide +kernel
theorem dX10_learn_58 : decode cX10_learn 58 = .ok (.laload, 1) := by decide +kernel
theorem dX10_learn_59 : decode cX10_learn 59 = .ok (.ldc2_w 43, 3) := by decide +kernel
theorem dX10_learn_62 : decode cX10_learn 62 = .ok (.lmul, 1) := by decide +kernel
theorem dX10_learn_63 : decode cX10_learn 63 = .ok (.iload 5, 2) := by decide +kernel
theorem dX10_learn_65 : decode cX10_learn 65 = .ok (.i2l, 1) := by decide +kernel
theorem dX10_learn_66 : decode cX10_learn 66 = .ok (.ladd, 1) := by decide +kernel
theorem dX10_learn_67 : decode cX10_learn 67 = .ok (.lastore, 1) := by decide +kernel
theorem dX10_learn_68 : decode cX10_learn 68 = .ok (.iinc 4 1, 3) := by decide +kernel
theorem dX10_learn_71 : decode cX10_learn 71 = .ok (.goto (-66), 3) := by decide +kernel
theorem dX10_learn_74 : decode cX10_learn 74 = .ok (.return_, 1) := by decide +kernel
theorem dX10_find_0 : decode cX10_find 0 = .ok (.iconst 0, 1) := by decide +kernel
theorem dX10_find_1 : decode cX10_find 1 = .ok (.istore_n 3, 1) := by decide +kernel
theorem dX10_find_2 : decode cX10_find 2 = .ok (.iload_n 3, 1) := by decide +kernel
theorem dX10_find_3 : decode cX10_find 3 = .ok (.aload_n 0, 1) := by decide +kernel
theorem dX10_find_4 : decode cX10_find 4 = .ok (.getfield 9, 3) := by decide +kernel
theorem dX10_find_7 : decode cX10_find 7 = .ok (.arraylength, 1) := by decide +kernel
theorem dX10_find_8 : decode cX10_find 8 = .ok (.if_icmp .ge 22, 3) := by decide +kernel
theorem dX10_find_11 : decode cX10_find 11 = .ok (.aload_n 0, 1) := by decide +kernel
theorem dX10_find_12 : decode cX10_find 12 = .ok (.getfield 9, 3) := by decide +kernel
theorem dX10_find_15 : decode cX10_find 15 = .ok (.iload_n 3, 1) := by decide +kernel
theorem dX10_find_16 : decode cX10_find 16 = .ok (.laload, 1) := by decide +kernel
theorem dX10_find_17 : decode cX10_find 17 = .ok (.lload_n 1, 1) := by decide +kernel
theorem dX10_find_18 : decode cX10_find 18 = .ok (.lcmp, 1) := by decide +kernel
theorem dX10_find_19 : decode cX10_find 19 = .ok (.ifCond .ne 5, 3) := by decide +kernel
theorem dX10_find_22 : decode cX10_find 22 = .ok (.iload_n 3, 1) := by decide +kernel
theorem dX10_find_23 : decode cX10_find 23 = .ok (.ireturn, 1) := by decide +kernel
theorem dX10_find_24 : decode cX10_find 24 = .ok (.iinc 3 1, 3) := by decide +kernel
theorem dX10_find_27 : decode cX10_find 27 = .ok (.goto (-25), 3) := by decide +kernel
theorem dX10_find_30 : decode cX10_find 30 = .ok (.bipush 52, 2) := by decide +kernel
theorem dX10_find_32 : decode cX10_find 32 = .ok (.ireturn, 1) := by decide +kernel
theorem dX11_init_0 : decode cX11_init 0 = .ok (.aload_n 0, 1) := by decide +kernel
theorem dX11_init_1 : decode cX11_init 1 = .ok (.invokespecial 1, 3) := by decide +kernel
theorem dX11_init_4 : decode cX11_init 4 = .ok (.aload_n 0, 1) := by decide +kernel
theorem dX11_init_5 : decode cX11_init 5 = .ok (.new 7, 3) := by decide +kernel
theorem dX11_init_8 : decode cX11_init 8 = .ok (.dup, 1) := by decide +kernel
theorem dX11_init_9 : decode cX11_init 9 = .ok (.invokespecial 9, 3) := by decide +kernel
theorem dX11_init_12 : decode cX11_init 12 = .ok (.putfield 10, 3) := by decide +kernel
theorem dX11_init_15 : decode cX11_init 15 = .ok (.aload_n 0, 1) := by decide +kernel
theorem dX11_init_16 : decode cX11_init 16 = .ok (.new 16, 3) := by decide +kernel
theorem dX11_init_19 : decode cX11_init 19 = .ok (.dup, 1) := by decide +kernel
theorem dX11_init_20 : decode cX11_init 20 = .ok (.invokespecial 18, 3) := by decide +kernel
theorem dX11_init_23 : decode cX11_init 23 = .ok (.putfield 19, 3) := by decide +kernel
theorem dX11_init_26 : decode cX11_init 26 = .ok (.aload_n 0, 1) := by decide +kernel
theorem dX11_init_27 : decode cX11_init 27 = .ok (.new 23, 3) := by decide +kernel
theorem dX11_init_30 : decode cX11_init 30 = .ok (.dup, 1) := by decide +kernel
theorem dX11_init_31 : decode cX11_init 31 = .ok (.invokespecial 25, 3) := by decide +kernel
theorem dX11_init_34 : decode cX11_init 34 = .ok (.putfield 26, 3) := by decide +kernel
theorem dX11_init_37 : decode cX11_init 37 = .ok (.aload_n 0, 1) := by decide +kernel
theorem dX11_init_38 : decode cX11_init 38 = .ok (.new 30, 3) := by decide +kernel
theorem dX11_init_41 : decode cX11_init 41 = .ok (.dup, 1) := by decide +kernel
theorem dX11_init_42 : decode cX11_init 42 = .ok (.invokespecial 32, 3) := by decide +kernel
theorem dX11_init_45 : decode cX11_init 45 = .ok (.putfield 33, 3) := by decide +kernel
theorem dX11_init_48 : decode cX11_init 48 = .ok (.aload_n 0, 1) := by decide +kernel
theorem dX11_init_49 : decode cX11_init 49 = .ok (.new 37, 3) := by decide +kernel
theorem dX11_init_52 : decode cX11_init 52 = .ok (.dup, 1) := by decide +kernel
theorem dX11_init_53 : decode cX11_init 53 = .ok (.aload_n 0, 1) := by decide +kernel
theorem dX11_init_54 : decode cX11_init 54 = .ok (.getfield 19, 3) := by decide +kernel
theorem dX11_init_57 : decode cX11_init 57 = .ok (.aload_n 0, 1) := by decide +kernel
theorem dX11_init_58 : decode cX11_init 58 = .ok (.getfield 26, 3) := by decide +kernel
theorem dX11_init_61 : decode cX11_init 61 = .ok (.aload_n 0, 1) := by decide +kernel
theorem dX11_init_62 : decode cX11_init 62 = .ok (.getfield 33, 3) := by decide +kernel
theorem dX11_init_65 : decode cX11_init 65 = .ok (.invokespecial 39, 3) := by decide +kernel
theorem dX11_init_68 : decode cX11_init 68 = .ok (.putfield 42, 3) := by decide +kernel
theorem dX11_init_71 : decode cX11_init 71 = .ok (.aload_n 0, 1) := by decide +kernel
theorem dX11_init_72 : decode cX11_init 72 = .ok (.new 46, 3) := by decide +kernel
theorem dX11_init_75 : decode cX11_init 75 = .ok (.dup, 1) := by decide +kernel
theorem dX11_init_76 : decode cX11_init 76 = .ok (.aload_n 0, 1) := by decide +kernel
theorem dX11_init_77 : decode cX11_init 77 = .ok (.getfield 10, 3) := by decide +kernel
theorem dX11_init_80 : decode cX11_init 80 = .ok (.aload_n 0, 1) := by decide +kernel
theorem dX11_init_81 : decode cX11_init 81 = .ok (.getfield 33, 3) := by decide +kernel
theorem dX11_init_84 : decode cX11_init 84 = .ok (.aload_n 0, 1) := by decide +kernel
theorem dX11_init_85 : decode cX11_init 85 = .ok (.getfield 42, 3) := by decide +kernel
theorem dX11_init_88 : decode cX11_init 88 = .ok (.invokespecial 48, 3) := by decide +kernel
theorem dX11_init_91 : decode cX11_init 91 = .ok (.putfield 51, 3) := by decide +kernel
theorem dX11_init_94 : decode cX11_init 94 = .ok (.return_, 1) := by decide +kernel
theorem dX11_feed_0 : decode cX11_feed 0 = .ok (.aload_n 0, 1) := by decide +kernel
theorem dX11_feed_1 : decode cX11_feed 1 = .ok (.getfield 10, 3) := by decide +kernel
theorem dX11_feed_4 : decode cX11_feed 4 = .ok (.iload_n 1, 1) := by decide +kernel
theorem dX11_feed_5 : decode cX11_feed 5 = .ok (.invokevirtual 55, 3) := by decide +kernel
theorem dX11_feed_8 : decode cX11_feed 8 = .ok (.ireturn, 1) := by decide +kernel
theorem dX11_clear_0 : decode cX11_clear 0 = .ok (.aload_n 0, 1) := by decide +kernel
theorem dX11_clear_1 : decode cX11_clear 1 = .ok (.getfield 10, 3) := by decide +kernel
theorem dX11_clear_4 : decode cX11_clear 4 = .ok (.invokevirtual 59, 3) := by decide +kernel
theorem dX11_clear_7 : decode cX11_clear 7 = .ok (.return_, 1) := by decide +kernel
theorem dX11_load_0 : decode cX11_load 0 = .ok (.aload_n 0, 1) := by decide +kernel
theorem dX11_load_1 : decode cX11_load 1 = .ok (.getfield 51, 3) := by decide +kernel
theorem dX11_load_4 : decode cX11_load 4 = .ok (.invokevirtual 62, 3) := by decide +kernel
theorem dX11_load_7 : decode cX11_load 7 = .ok (.ireturn, 1) := by decide +kernel
theorem dX11_faultAt_0 : decode cX11_faultAt 0 = .ok (.aload_n 0, 1) := by decide +kernel
theorem dX11_faultAt_1 : decode cX11_faultAt 1 = .ok (.getfield 51, 3) := by decide +kernel
theorem dX11_faultAt_4 : decode cX11_faultAt 4 = .ok (.invokevirtual 66, 3) := by decide +kernel
theorem dX11_faultAt_7 : decode cX11_faultAt 7 = .ok (.ireturn, 1) := by decide +kernel
theorem dX11_steps_0 : decode cX11_steps 0 = .ok (.aload_n 0, 1) := by decide +kernel
theorem dX11_steps_1 : decode cX11_steps 1 = .ok (.getfield 42, 3) := by decide +kernel
theorem dX11_steps_4 : decode cX11_steps 4 = .ok (.invokevirtual 69, 3) := by decide +kernel
theorem dX11_steps_7 : decode cX11_steps 7 = .ok (.ireturn, 1) := by decide +kernel
theorem dX11_depth_0 : decode cX11_depth 0 = .ok (.aload_n 0, 1) := by decide +kernel
theorem dX11_depth_1 : decode cX11_depth 1 = .ok (.getfield 19, 3) := by decide +kernel
theorem dX11_depth_4 : decode cX11_depth 4 = .ok (.invokevirtual 72, 3) := by decide +kernel
theorem dX11_depth_7 : decode cX11_depth 7 = .ok (.ireturn, 1) := by decide +kernel
theorem dX11_value_0 : decode cX11_value 0 = .ok (.aload_n 0, 1) := by decide +kernel
theorem dX11_value_1 : decode cX11_value 1 = .ok (.getfield 19, 3) := by decide +kernel
theorem dX11_value_4 : decode cX11_value 4 = .ok (.iload_n 1, 1) := by decide +kernel
theorem dX11_value_5 : decode cX11_value 5 = .ok (.invokevirtual 75, 3) := by decide +kernel
theorem dX11_value_8 : decode cX11_value 8 = .ok (.ifCond .eq 15, 3) := by decide +kernel
theorem dX11_value_11 : decode cX11_value 11 = .ok (.aload_n 0, 1) := by decide +kernel
theorem dX11_value_12 : decode cX11_value 12 = .ok (.getfield 19, 3) := by decide +kernel
theorem dX11_value_15 : decode cX11_value 15 = .ok (.iload_n 1, 1) := by decide +kernel
theorem dX11_value_16 : decode cX11_value 16 = .ok (.invokevirtual 79, 3) := by decide +kernel
theorem dX11_value_19 : decode cX11_value 19 = .ok (.i2l, 1) := by decide +kernel
theorem dX11_value_20 : decode cX11_value 20 = .ok (.goto 6, 3) := by decide +kernel
theorem dX11_value_23 : decode cX11_value 23 = .ok (.ldc2_w 82, 3) := by decide +kernel
theorem dX11_value_26 : decode cX11_value 26 = .ok (.lreturn, 1) := by decide +kernel
theorem dX11_push_0 : decode cX11_push 0 = .ok (.aload_n 0, 1) := by decide +kernel
theorem dX11_push_1 : decode cX11_push 1 = .ok (.getfield 19, 3) := by decide +kernel
theorem dX11_push_4 : decode cX11_push 4 = .ok (.iload_n 1, 1) := by decide +kernel
theorem dX11_push_5 : decode cX11_push 5 = .ok (.invokevirtual 84, 3) := by decide +kernel
theorem dX11_push_8 : decode cX11_push 8 = .ok (.ireturn, 1) := by decide +kernel
theorem dX11_cell_0 : decode cX11_cell 0 = .ok (.iload_n 1, 1) := by decide +kernel
theorem dX11_cell_1 : decode cX11_cell 1 = .ok (.invokestatic 87, 3) := by decide +kernel
theorem dX11_cell_4 : decode cX11_cell 4 = .ok (.ifCond .eq 15, 3) := by decide +kernel
theorem dX11_cell_7 : decode cX11_cell 7 = .ok (.aload_n 0, 1) := by decide +kernel
theorem dX11_cell_8 : decode cX11_cell 8 = .ok (.getfield 42, 3) := by decide +kernel
theorem dX11_cell_11 : decode cX11_cell 11 = .ok (.iload_n 1, 1) := by decide +kernel
theorem dX11_cell_12 : decode cX11_cell 12 = .ok (.invokevirtual 90, 3) := by decide +kernel
theorem dX11_cell_15 : decode cX11_cell 15 = .ok (.i2l, 1) := by decide +kernel
theorem dX11_cell_16 : decode cX11_cell 16 = .ok (.goto 6, 3) := by decide +kernel
theorem dX11_cell_19 : decode cX11_cell 19 = .ok (.ldc2_w 82, 3) := by decide +kernel
theorem dX11_cell_22 : decode cX11_cell 22 = .ok (.lreturn, 1) := by decide +kernel
theorem dX11_puts_0 : decode cX11_puts 0 = .ok (.aload_n 0, 1) := by decide +kernel
theorem dX11_puts_1 : decode cX11_puts 1 = .ok (.getfield 26, 3) := by decide +kernel
theorem dX11_puts_4 : decode cX11_puts 4 = .ok (.invokevirtual 93, 3) := by decide +kernel
theorem dX11_puts_7 : decode cX11_puts 7 = .ok (.ireturn, 1) := by decide +kernel
theorem dX11_output_0 : decode cX11_output 0 = .ok (.aload_n 0, 1) := by decide +kernel
theorem dX11_output_1 : decode cX11_output 1 = .ok (.getfield 26, 3) := by decide +kernel
theorem dX11_output_4 : decode cX11_output 4 = .ok (.iload_n 1, 1) := by decide +kernel
theorem dX11_output_5 : decode cX11_output 5 = .ok (.invokevirtual 96, 3) := by decide +kernel
theorem dX11_output_8 : decode cX11_output 8 = .ok (.ifCond .eq 15, 3) := by decide +kernel
theorem dX11_output_11 : decode cX11_output 11 = .ok (.aload_n 0, 1) := by decide +kernel
theorem dX11_output_12 : decode cX11_output 12 = .ok (.getfield 26, 3) := by decide +kernel
theorem dX11_output_15 : decode cX11_output 15 = .ok (.iload_n 1, 1) := by decide +kernel
theorem dX11_output_16 : decode cX11_output 16 = .ok (.invokevirtual 97, 3) := by decide +kernel
theorem dX11_output_19 : decode cX11_output 19 = .ok (.i2l, 1) := by decide +kernel
theorem dX11_output_20 : decode cX11_output 20 = .ok (.goto 6, 3) := by decide +kernel
theorem dX11_output_23 : decode cX11_output 23 = .ok (.ldc2_w 82, 3) := by decide +kernel
theorem dX11_output_26 : decode cX11_output 26 = .ok (.lreturn, 1) := by decide +kernel
theorem dX11_definitions_0 : decode cX11_definitions 0 = .ok (.aload_n 0, 1) := by decide +kernel
theorem dX11_definitions_1 : decode cX11_definitions 1 = .ok (.getfield 33, 3) := by decide +kernel
theorem dX11_definitions_4 : decode cX11_definitions 4 = .ok (.invokevirtual 100, 3) := by decide +kernel
theorem dX11_definitions_7 : decode cX11_definitions 7 = .ok (.ireturn, 1) := by decide +kernel
theorem dX11_body_0 : decode cX11_body 0 = .ok (.aload_n 0, 1) := by decide +kernel
theorem dX11_body_1 : decode cX11_body 1 = .ok (.getfield 33, 3) := by decide +kernel
theorem dX11_body_4 : decode cX11_body 4 = .ok (.iload_n 1, 1) := by decide +kernel
theorem dX11_body_5 : decode cX11_body 5 = .ok (.invokevirtual 101, 3) := by decide +kernel
theorem dX11_body_8 : decode cX11_body 8 = .ok (.ifCond .eq 23, 3) := by decide +kernel
theorem dX11_body_11 : decode cX11_body 11 = .ok (.aload_n 0, 1) := by decide +kernel
theorem dX11_body_12 : decode cX11_body 12 = .ok (.getfield 33, 3) := by decide +kernel
theorem dX11_body_15 : decode cX11_body 15 = .ok (.iload_n 1, 1) := by decide +kernel
theorem dX11_body_16 : decode cX11_body 16 = .ok (.invokevirtual 102, 3) := by decide +kernel
theorem dX11_body_19 : decode cX11_body 19 = .ok (.aload_n 0, 1) := by decide +kernel
theorem dX11_body_20 : decode cX11_body 20 = .ok (.getfield 33, 3) := by decide +kernel
theorem dX11_body_23 : decode cX11_body 23 = .ok (.iload_n 1, 1) := by decide +kernel
theorem dX11_body_24 : decode cX11_body 24 = .ok (.invokevirtual 105, 3) := by decide +kernel
theorem dX11_body_27 : decode cX11_body 27 = .ok (.isub, 1) := by decide +kernel
theorem dX11_body_28 : decode cX11_body 28 = .ok (.goto 4, 3) := by decide +kernel
theorem dX11_body_31 : decode cX11_body 31 = .ok (.iconst (-1), 1) := by decide +kernel
theorem dX11_body_32 : decode cX11_body 32 = .ok (.ireturn, 1) := by decide +kernel
theorem dX11_name_0 : decode cX11_name 0 = .ok (.aload_n 0, 1) := by decide +kernel
theorem dX11_name_1 : decode cX11_name 1 = .ok (.getfield 33, 3) := by decide +kernel
theorem dX11_name_4 : decode cX11_name 4 = .ok (.iload_n 1, 1) := by decide +kernel
theorem dX11_name_5 : decode cX11_name 5 = .ok (.invokevirtual 101, 3) := by decide +kernel
theorem dX11_name_8 : decode cX11_name 8 = .ok (.ifCond .eq 14, 3) := by decide +kernel
theorem dX11_name_11 : decode cX11_name 11 = .ok (.aload_n 0, 1) := by decide +kernel
theorem dX11_name_12 : decode cX11_name 12 = .ok (.getfield 33, 3) := by decide +kernel
theorem dX11_name_15 : decode cX11_name 15 = .ok (.iload_n 1, 1) := by decide +kernel
theorem dX11_name_16 : decode cX11_name 16 = .ok (.invokevirtual 108, 3) := by decide +kernel
theorem dX11_name_19 : decode cX11_name 19 = .ok (.goto 6, 3) := by decide +kernel
theorem dX11_name_22 : decode cX11_name 22 = .ok (.ldc2_w 112, 3) := by decide +kernel
theorem dX11_name_25 : decode cX11_name 25 = .ok (.lreturn, 1) := by decide +kernel
theorem dX12_init_0 : decode cX12_init 0 = .ok (.aload_n 0, 1) := by decide +kernel
theorem dX12_init_1 : decode cX12_init 1 = .ok (.invokespecial 1, 3) := by decide +kernel
theorem dX12_init_4 : decode cX12_init 4 = .ok (.aload_n 0, 1) := by decide +kernel
theorem dX12_init_5 : decode cX12_init 5 = .ok (.sipush 300, 3) := by decide +kernel
theorem dX12_init_8 : decode cX12_init 8 = .ok (.newarray .int, 2) := by decide +kernel
theorem dX12_init_10 : decode cX12_init 10 = .ok (.putfield 7, 3) := by decide +kernel
theorem dX12_init_13 : decode cX12_init 13 = .ok (.aload_n 0, 1) := by decide +kernel
theorem dX12_init_14 : decode cX12_init 14 = .ok (.sipush 150, 3) := by decide +kernel
theorem dX12_init_17 : decode cX12_init 17 = .ok (.newarray .int, 2) := by decide +kernel
theorem dX12_init_19 : decode cX12_init 19 = .ok (.putfield 13, 3) := by decide +kernel
theorem dX12_init_22 : decode cX12_init 22 = .ok (.aload_n 0, 1) := by decide +kernel
theorem dX12_init_23 : decode cX12_init 23 = .ok (.sipush 150, 3) := by decide +kernel
theorem dX12_init_26 : decode cX12_init 26 = .ok (.newarray .int, 2) := by decide +kernel
theorem dX12_init_28 : decode cX12_init 28 = .ok (.putfield 16, 3) := by decide +kernel
theorem dX12_init_31 : decode cX12_init 31 = .ok (.aload_n 0, 1) := by decide +kernel
theorem dX12_init_32 : decode cX12_init 32 = .ok (.bipush 33, 2) := by decide +kernel
theorem dX12_init_34 : decode cX12_init 34 = .ok (.newarray .int, 2) := by decide +kernel
theorem dX12_init_36 : decode cX12_init 36 = .ok (.putfield 19, 3) := by decide +kernel
theorem dX12_init_39 : decode cX12_init 39 = .ok (.aload_n 0, 1) := by decide +kernel
theorem dX12_init_40 : decode cX12_init 40 = .ok (.bipush 16, 2) := by decide +kernel
theorem dX12_init_42 : decode cX12_init 42 = .ok (.newarray .int, 2) := by decide +kernel
theorem dX12_init_44 : decode cX12_init 44 = .ok (.putfield 22, 3) := by decide +kernel
theorem dX12_init_47 : decode cX12_init 47 = .ok (.aload_n 0, 1) := by decide +kernel
theorem dX12_init_48 : decode cX12_init 48 = .ok (.bipush 16, 2) := by decide +kernel
theorem dX12_init_50 : decode cX12_init 50 = .ok (.newarray .int, 2) := by decide +kernel
theorem dX12_init_52 : decode cX12_init 52 = .ok (.putfield 25, 3) := by decide +kernel
theorem dX12_init_55 : decode cX12_init 55 = .ok (.aload_n 0, 1) := by decide +kernel
theorem dX12_init_56 : decode cX12_init 56 = .ok (.bipush 20, 2) := by decide +kernel
theorem dX12_init_58 : decode cX12_init 58 = .ok (.newarray .long, 2) := by decide +kernel
theorem dX12_init_60 : decode cX12_init 60 = .ok (.putfield 28, 3) := by decide +kernel
theorem dX12_init_63 : decode cX12_init 63 = .ok (.aload_n 0, 1) := by decide +kernel
theorem dX12_init_64 : decode cX12_init 64 = .ok (.bipush 20, 2) := by decide +kernel
theorem dX12_init_66 : decode cX12_init 66 = .ok (.newarray .int, 2) := by decide +kernel
theorem dX12_init_68 : decode cX12_init 68 = .ok (.putfield 32, 3) := by decide +kernel
theorem dX12_init_71 : decode cX12_init 71 = .ok (.aload_n 0, 1) := by decide +kernel
theorem dX12_init_72 : decode cX12_init 72 = .ok (.bipush 20, 2) := by decide +kernel
theorem dX12_init_74 : decode cX12_init 74 = .ok (.newarray .int, 2) := by decide +kernel
theorem dX12_init_76 : decode cX12_init 76 = .ok (.putfield 35, 3) := by decide +kernel
theorem dX12_init_79 : decode cX12_init 79 = .ok (.aload_n 0, 1) := by decide +kernel
theorem dX12_init_80 : decode cX12_init 80 = .ok (.sipush 350, 3) := by decide +kernel
theorem dX12_init_83 : decode cX12_init 83 = .ok (.newarray .int, 2) := by decide +kernel
theorem dX12_init_85 : decode cX12_init 85 = .ok (.putfield 38, 3) := by decide +kernel
theorem dX12_init_88 : decode cX12_init 88 = .ok (.aload_n 0, 1) := by decide +kernel
theorem dX12_init_89 : decode cX12_init 89 = .ok (.sipush 350, 3) := by decide +kernel
theorem dX12_init_92 : decode cX12_init 92 = .ok (.newarray .int, 2) := by decide +kernel
theorem dX12_init_94 : decode cX12_init 94 = .ok (.putfield 41, 3) := by decide +kernel
theorem dX12_init_97 : decode cX12_init 97 = .ok (.aload_n 0, 1) := by decide +kernel
theorem dX12_init_98 : decode cX12_init 98 = .ok (.bipush 12, 2) := by decide +kernel
theorem dX12_init_100 : decode cX12_init 100 = .ok (.newarray .int, 2) := by decide +kernel
theorem dX12_init_102 : decode cX12_init 102 = .ok (.putfield 44, 3) := by decide +kernel
theorem dX12_init_105 : decode cX12_init 105 = .ok (.aload_n 0, 1) := by decide +kernel
theorem dX12_init_106 : decode cX12_init 106 = .ok (.bipush 12, 2) := by decide +kernel
theorem dX12_init_108 : decode cX12_init 108 = .ok (.newarray .int, 2) := by decide +kernel
theorem dX12_init_110 : decode cX12_init 110 = .ok (.putfield 47, 3) := by decide +kernel
theorem dX12_init_113 : decode cX12_init 113 = .ok (.aload_n 0, 1) := by decide +kernel
theorem dX12_init_114 : decode cX12_init 114 = .ok (.bipush 12, 2) := by decide +kernel
theorem dX12_init_116 : decode cX12_init 116 = .ok (.newarray .int, 2) := by decide +kernel
theorem dX12_init_118 : decode cX12_init 118 = .ok (.putfield 50, 3) := by decide +kernel
theorem dX12_init_121 : decode cX12_init 121 = .ok (.aload_n 0, 1) := by decide +kernel
theorem dX12_init_122 : decode cX12_init 122 = .ok (.bipush 12, 2) := by decide +kernel
theorem dX12_init_124 : decode cX12_init 124 = .ok (.newarray .int, 2) := by decide +kernel
theorem dX12_init_126 : decode cX12_init 126 = .ok (.putfield 53, 3) := by decide +kernel
theorem dX12_init_129 : decode cX12_init 129 = .ok (.aload_n 0, 1) := by decide +kernel
theorem dX12_init_130 : decode cX12_init 130 = .ok (.bipush 12, 2) := by decide +kernel
theorem dX12_init_132 : decode cX12_init 132 = .ok (.newarray .int, 2) := by decide +kernel
theorem dX12_init_134 : decode cX12_init 134 = .ok (.putfield 56, 3) := by decide +kernel
theorem dX12_init_137 : decode cX12_init 137 = .ok (.aload_n 0, 1) := by decide +kernel
theorem dX12_init_138 : decode cX12_init 138 = .ok (.bipush 9, 2) := by decide +kernel
theorem dX12_init_140 : decode cX12_init 140 = .ok (.newarray .int, 2) := by decide +kernel
theorem dX12_init_142 : decode cX12_init 142 = .ok (.putfield 59, 3) := by decide +kernel
theorem dX12_init_145 : decode cX12_init 145 = .ok (.aload_n 0, 1) := by decide +kernel
theorem dX12_init_146 : decode cX12_init 146 = .ok (.iconst (-1), 1) := by decide +kernel
theorem dX12_init_147 : decode cX12_init 147 = .ok (.putfield 62, 3) := by decide +kernel
theorem dX12_init_150 : decode cX12_init 150 = .ok (.return_, 1) := by decide +kernel
theorem dX12_feed_0 : decode cX12_feed 0 = .ok (.iconst 0, 1) := by decide +kernel
theorem dX12_feed_1 : decode cX12_feed 1 = .ok (.istore_n 2, 1) := by decide +kernel
theorem dX12_feed_2 : decode cX12_feed 2 = .ok (.iconst 0, 1) := by decide +kernel
theorem dX12_feed_3 : decode cX12_feed 3 = .ok (.istore_n 3, 1) := by decide +kernel
theorem dX12_feed_4 : decode cX12_feed 4 = .ok (.iload_n 3, 1) := by decide +kernel
theorem dX12_feed_5 : decode cX12_feed 5 = .ok (.iconst 4, 1) := by decide +kernel
theorem dX12_feed_6 : decode cX12_feed 6 = .ok (.if_icmp .ge 51, 3) := by decide +kernel
theorem dX12_feed_9 : decode cX12_feed 9 = .ok (.iload_n 1, 1) := by decide +kernel
theorem dX12_feed_10 : decode cX12_feed 10 = .ok (.bipush 8, 2) := by decide +kernel
theorem dX12_feed_12 : decode cX12_feed 12 = .ok (.iload_n 3, 1) := by decide +kernel
theorem dX12_feed_13 : decode cX12_feed 13 = .ok (.imul, 1) := by decide +kernel
theorem dX12_feed_14 : decode cX12_feed 14 = .ok (.ishr, 1) := by decide +kernel
theorem dX12_feed_15 : decode cX12_feed 15 = .ok (.sipush 255, 3) := by decide +kernel
theorem dX12_feed_18 : decode cX12_feed 18 = .ok (.iand, 1) := by decide +kernel
theorem dX12_feed_19 : decode cX12_feed 19 = .ok (.istore 4, 2) := by decide +kernel
theorem dX12_feed_21 : decode cX12_feed 21 = .ok (.iload_n 2, 1) := by decide +kernel
theorem dX12_feed_22 : decode cX12_feed 22 = .ok (.iload_n 3, 1) := by decide +kernel
theorem dX12_feed_23 : decode cX12_feed 23 = .ok (.if_icmp .ne 28, 3) := by decide +kernel
theorem dX12_feed_26 : decode cX12_feed 26 = .ok (.iload 4, 2) := by decide +kernel
theorem dX12_feed_28 : decode cX12_feed 28 = .ok (.ifCond .eq 23, 3) := by decide +kernel
theorem dX12_feed_31 : decode cX12_feed 31 = .ok (.iload 4, 2) := by decide +kernel
theorem dX12_feed_33 : decode cX12_feed 33 = .ok (.bipush 32, 2) := by decide +kernel
theorem dX12_feed_35 : decode cX12_feed 35 = .ok (.if_icmp .lt 10, 3) := by decide +kernel
theorem dX12_feed_38 : decode cX12_feed 38 = .ok (.iload 4, 2) := by decide +kernel
theorem dX12_feed_40 : decode cX12_feed 40 = .ok (.bipush 126, 2) := by decide +kernel
theorem dX12_feed_42 : decode cX12_feed 42 = .ok (.if_icmp .le 5, 3) := by decide +kernel
theorem dX12_feed_45 : decode cX12_feed 45 = .ok (.iconst (-1), 1) := by decide +kernel
theorem dX12_feed_46 : decode cX12_feed 46 = .ok (.ireturn, 1) := by decide +kernel
theorem dX12_feed_47 : decode cX12_feed 47 = .ok (.iload_n 2, 1) := by decide +kernel
theorem dX12_feed_48 : decode cX12_feed 48 = .ok (.iconst 1, 1) := by decide +kernel
theorem dX12_feed_49 : decode cX12_feed 49 = .ok (.iadd, 1) := by decide +kernel
theorem dX12_feed_50 : decode cX12_feed 50 = .ok (.istore_n 2, 1) := by decide +kernel
theorem dX12_feed_51 : decode cX12_feed 51 = .ok (.iinc 3 1, 3) := by decide +kernel
theorem dX12_feed_54 : decode cX12_feed 54 = .ok (.goto (-50), 3) := by decide +kernel
theorem dX12_feed_57 : decode cX12_feed 57 = .ok (.aload_n 0, 1) := by decide +kernel
theorem dX12_feed_58 : decode cX12_feed 58 = .ok (.getfield 66, 3) := by decide +kernel
theorem dX12_feed_61 : decode cX12_feed 61 = .ok (.iload_n 2, 1) := by decide +kernel
theorem dX12_feed_62 : decode cX12_feed 62 = .ok (.iadd, 1) := by decide +kernel
theorem dX12_feed_63 : decode cX12_feed 63 = .ok (.sipush 300, 3) := by decide +kernel
theorem dX12_feed_66 : decode cX12_feed 66 = .ok (.if_icmp .le 5, 3) := by decide +kernel
theorem dX12_feed_69 : decode cX12_feed 69 = .ok (.iconst (-1), 1) := by decide +kernel
theorem dX12_feed_70 : decode cX12_feed 70 = .ok (.ireturn, 1) := by decide +kernel
theorem dX12_feed_71 : decode cX12_feed 71 = .ok (.iconst 0, 1) := by decide +kernel
theorem dX12_feed_72 : decode cX12_feed 72 = .ok (.istore_n 3, 1) := by decide +kernel
theorem dX12_feed_73 : decode cX12_feed 73 = .ok (.iload_n 3, 1) := by decide +kernel
theorem dX12_feed_74 : decode cX12_feed 74 = .ok (.iload_n 2, 1) := by decide +kernel
theorem dX12_feed_75 : decode cX12_feed 75 = .ok (.if_icmp .ge 30, 3) := by decide +kernel
theorem dX12_feed_78 : decode cX12_feed 78 = .ok (.aload_n 0, 1) := by decide +kernel
theorem dX12_feed_79 : decode cX12_feed 79 = .ok (.getfield 7, 3) := by decide +kernel
theorem dX12_feed_82 : decode cX12_feed 82 = .ok (.aload_n 0, 1) := by decide +kernel
theorem dX12_feed_83 : decode cX12_feed 83 = .ok (.getfield 66, 3) := by decide +kernel
theorem dX12_feed_86 : decode cX12_feed 86 = .ok (.iload_n 3, 1) := by decide +kernel
theorem dX12_feed_87 : decode cX12_feed 87 = .ok (.iadd, 1) := by decide +kernel
theorem dX12_feed_88 : decode cX12_feed 88 = .ok (.iload_n 1, 1) := by decide +kernel
theorem dX12_feed_89 : decode cX12_feed 89 = .ok (.bipush 8, 2) := by decide +kernel
theorem dX12_feed_91 : decode cX12_feed 91 = .ok (.iload_n 3, 1) := by decide +kernel
theorem dX12_feed_92 : decode cX12_feed 92 = .ok (.imul, 1) := by decide +kernel
theorem dX12_feed_93 : decode cX12_feed 93 = .ok (.ishr, 1) := by decide +kernel
theorem dX12_feed_94 : decode cX12_feed 94 = .ok (.sipush 255, 3) := by decide +kernel
theorem dX12_feed_97 : decode cX12_feed 97 = .ok (.iand, 1) := by decide +kernel
theorem dX12_feed_98 : decode cX12_feed 98 = .ok (.iastore, 1) := by decide +kernel
theorem dX12_feed_99 : decode cX12_feed 99 = .ok (.iinc 3 1, 3) := by decide +kernel
theorem dX12_feed_102 : decode cX12_feed 102 = .ok (.goto (-29), 3) := by decide +kernel
theorem dX12_feed_105 : decode cX12_feed 105 = .ok (.aload_n 0, 1) := by decide +kernel
theorem dX12_feed_106 : decode cX12_feed 106 = .ok (.aload_n 0, 1) := by decide +kernel
theorem dX12_feed_107 : decode cX12_feed 107 = .ok (.getfield 66, 3) := by decide +kernel
theorem dX12_feed_110 : decode cX12_feed 110 = .ok (.iload_n 2, 1) := by decide +kernel
theorem dX12_feed_111 : decode cX12_feed 111 = .ok (.iadd, 1) := by decide +kernel
theorem dX12_feed_112 : decode cX12_feed 112 = .ok (.putfield 66, 3) := by decide +kernel
theorem dX12_feed_115 : decode cX12_feed 115 = .ok (.iload_n 2, 1) := by decide +kernel
theorem dX12_feed_116 : decode cX12_feed 116 = .ok (.ireturn, 1) := by decide +kernel
theorem dX12_clear_0 : decode cX12_clear 0 = .ok (.aload_n 0, 1) := by decide +kernel
theorem dX12_clear_1 : decode cX12_clear 1 = .ok (.iconst 0, 1) := by decide +kernel
theorem dX12_clear_2 : decode cX12_clear 2 = .ok (.putfield 66, 3) := by decide +kernel
theorem dX12_clear_5 : decode cX12_clear 5 = .ok (.return_, 1) := by decide +kernel
theorem dX12_split_0 : decode cX12_split 0 = .ok (.aload_n 0, 1) := by decide +kernel
theorem dX12_split_1 : decode cX12_split 1 = .ok (.iconst 0, 1) := by decide +kernel
theorem dX12_split_2 : decode cX12_split 2 = .ok (.putfield 69, 3) := by decide +kernel
theorem dX12_split_5 : decode cX12_split 5 = .ok (.iconst 0, 1) := by decide +kernel
theorem dX12_split_6 : decode cX12_split 6 = .ok (.istore_n 1, 1) := by decide +kernel
theorem dX12_split_7 : decode cX12_split 7 = .ok (.iload_n 1, 1) := by decide +kernel
theorem dX12_split_8 : decode cX12_split 8 = .ok (.aload_n 0, 1) := by decide +kernel
theorem dX12_split_9 : decode cX12_split 9 = .ok (.getfield 66, 3) := by decide +kernel
theorem dX12_split_12 : decode cX12_split 12 = .ok (.if_icmp .ge 71, 3) := by decide +kernel
theorem dX12_split_15 : decode cX12_split 15 = .ok (.aload_n 0, 1) := by decide +kernel
theorem dX12_split_16 : decode cX12_split 16 = .ok (.getfield 7, 3) := by decide +kernel
theorem dX12_split_19 : decode cX12_split 19 = .ok (.iload_n 1, 1) := by decide +kernel
theorem dX12_split_20 : decode cX12_split 20 = .ok (.iaload, 1) := by decide +kernel
theorem dX12_split_21 : decode cX12_split 21 = .ok (.bipush 32, 2) := by decide +kernel
theorem dX12_split_23 : decode cX12_split 23 = .ok (.if_icmp .eq 54, 3) := by decide +kernel
theorem dX12_split_26 : decode cX12_split 26 = .ok (.iload_n 1, 1) := by decide +kernel
theorem dX12_split_27 : decode cX12_split 27 = .ok (.ifCond .eq 16, 3) := by decide +kernel
theorem dX12_split_30 : decode cX12_split 30 = .ok (.aload_n 0, 1) := by decide +kernel
theorem dX12_split_31 : decode cX12_split 31 = .ok (.getfield 7, 3) := by decide +kernel
theorem dX12_split_34 : decode cX12_split 34 = .ok (.iload_n 1, 1) := by decide +kernel
theorem dX12_split_35 : decode cX12_split 35 = .ok (.iconst 1, 1) := by decide +kernel
theorem dX12_split_36 : decode cX12_split 36 = .ok (.isub, 1) := by decide +kernel
theorem dX12_split_37 : decode cX12_split 37 = .ok (.iaload, 1) := by decide +kernel
theorem dX12_split_38 : decode cX12_split 38 = .ok (.bipush 32, 2) := by decide +kernel
theorem dX12_split_40 : decode cX12_split 40 = .ok (.if_icmp .ne 23, 3) := by decide +kernel
theorem dX12_split_43 : decode cX12_split 43 = .ok (.aload_n 0, 1) := by decide +kernel
theorem dX12_split_44 : decode cX12_split 44 = .ok (.getfield 13, 3) := by decide +kernel
theorem dX12_split_47 : decode cX12_split 47 = .ok (.aload_n 0, 1) := by decide +kernel
theorem dX12_split_48 : decode cX12_split 48 = .ok (.getfield 69, 3) := by decide +kernel
theorem dX12_split_51 : decode cX12_split 51 = .ok (.iload_n 1, 1) := by decide +kernel
theorem dX12_split_52 : decode cX12_split 52 = .ok (.iastore, 1) := by decide +kernel
theorem dX12_split_53 : decode cX12_split 53 = .ok (.aload_n 0, 1) := by decide +kernel
theorem dX12_split_54 : decode cX12_split 54 = .ok (.aload_n 0, 1) := by decide +kernel
theorem dX12_split_55 : decode cX12_split 55 = .ok (.getfield 69, 3) := by decide +kernel
theorem dX12_split_58 : decode cX12_split 58 = .ok (.iconst 1, 1) := by decide +kernel
theorem dX12_split_59 : decode cX12_split 59 = .ok (.iadd, 1) := by decide +kernel
theorem dX12_split_60 : decode cX12_split 60 = .ok (.putfield 69, 3) := by decide +kernel
theorem dX12_split_63 : decode cX12_split 63 = .ok (.aload_n 0, 1) := by decide +kernel
theorem dX12_split_64 : decode cX12_split 64 = .ok (.getfield 16, 3) := by decide +kernel
theorem dX12_split_67 : decode cX12_split 67 = .ok (.aload_n 0, 1) := by decide +kernel
theorem dX12_split_68 : decode cX12_split 68 = .ok (.getfield 69, 3) := by decide +kernel
theorem dX12_split_71 : decode cX12_split 71 = .ok (.iconst 1, 1) := by decide +kernel
theorem dX12_split_72 : decode cX12_split 72 = .ok (.isub, 1) := by decide +kernel
theorem dX12_split_73 : decode cX12_split 73 = .ok (.iload_n 1, 1) := by decide +kernel
theorem dX12_split_74 : decode cX12_split 74 = .ok (.iconst 1, 1) := by decide +kernel
theorem dX12_split_75 : decode cX12_split 75 = .ok (.iadd, 1) := by decide +kernel
theorem dX12_split_76 : decode cX12_split 76 = .ok (.iastore, 1) := by decide +kernel
theorem dX12_split_77 : decode cX12_split 77 = .ok (.iinc 1 1, 3) := by decide +kernel
theorem dX12_split_80 : decode cX12_split 80 = .ok (.goto (-73), 3) := by decide +kernel
theorem dX12_split_83 : decode cX12_split 83 = .ok (.return_, 1) := by decide +kernel
theorem dX12_digit_0 : decode cX12_digit 0 = .ok (.iload_n 0, 1) := by decide +kernel
theorem dX12_digit_1 : decode cX12_digit 1 = .ok (.bipush 48, 2) := by decide +kernel
theorem dX12_digit_3 : decode cX12_digit 3 = .ok (.if_icmp .lt 13, 3) := by decide +kernel
theorem dX12_digit_6 : decode cX12_digit 6 = .ok (.iload_n 0, 1) := by decide +kernel
theorem dX12_digit_7 : decode cX12_digit 7 = .ok (.bipush 57, 2) := by decide +kernel
theorem dX12_digit_9 : decode cX12_digit 9 = .ok (.if_icmp .gt 7, 3) := by decide +kernel
theorem dX12_digit_12 : decode cX12_digit 12 = .ok (.iconst 1, 1) := by decide +kernel
theorem dX12_digit_13 : decode cX12_digit 13 = .ok (.goto 4, 3) := by decide +kernel
theorem dX12_digit_16 : decode cX12_digit 16 = .ok (.iconst 0, 1) := by decide +kernel
theorem dX12_digit_17 : decode cX12_digit 17 = .ok (.ireturn, 1) := by decide +kernel
theorem dX12_spelled_0 : decode cX12_spelled 0 = .ok (.aload_n 0, 1) := by decide +kernel
theorem dX12_spelled_1 : decode cX12_spelled 1 = .ok (.getfield 16, 3) := by decide +kernel
theorem dX12_spelled_4 : decode cX12_spelled 4 = .ok (.iload_n 1, 1) := by decide +kernel
theorem dX12_spelled_5 : decode cX12_spelled 5 = .ok (.iaload, 1) := by decide +kernel
theorem dX12_spelled_6 : decode cX12_spelled 6 = .ok (.aload_n 0, 1) := by decide +kernel
theorem dX12_spelled_7 : decode cX12_spelled 7 = .ok (.getfield 13, 3) := by decide +kernel
theorem dX12_spelled_10 : decode cX12_spelled 10 = .ok (.iload_n 1, 1) := by decide +kernel
theorem dX12_spelled_11 : decode cX12_spelled 11 = .ok (.iaload, 1) := by decide +kernel
theorem dX12_spelled_12 : decode cX12_spelled 12 = .ok (.isub, 1) := by decide +kernel
theorem dX12_spelled_13 : decode cX12_spelled 13 = .ok (.bipush 9, 2) := by decide +kernel
theorem dX12_spelled_15 : decode cX12_spelled 15 = .ok (.if_icmp .le 7, 3) := by decide +kernel
theorem dX12_spelled_18 : decode cX12_spelled 18 = .ok (.ldc2_w 72, 3) := by decide +kernel
theorem dX12_spelled_21 : decode cX12_spelled 21 = .ok (.lreturn, 1) := by decide +kernel
theorem dX12_spelled_22 : decode cX12_spelled 22 = .ok (.lconst 0, 1) := by decide +kernel
theorem dX12_spelled_23 : decode cX12_spelled 23 = .ok (.lstore_n 2, 1) := by decide +kernel
theorem dX12_spelled_24 : decode cX12_spelled 24 = .ok (.aload_n 0, 1) := by decide +kernel
theorem dX12_spelled_25 : decode cX12_spelled 25 = .ok (.getfield 13, 3) := by decide +kernel
theorem dX12_spelled_28 : decode cX12_spelled 28 = .ok (.iload_n 1, 1) := by decide +kernel
theorem dX12_spelled_29 : decode cX12_spelled 29 = .ok (.iaload, 1) := by decide +kernel
theorem dX12_spelled_30 : decode cX12_spelled 30 = .ok (.istore 4, 2) := by decide +kernel
theorem dX12_spelled_32 : decode cX12_spelled 32 = .ok (.iload 4, 2) := by decide +kernel
theorem dX12_spelled_34 : decode cX12_spelled 34 = .ok (.aload_n 0, 1) := by decide +kernel
theorem dX12_spelled_35 : decode cX12_spelled 35 = .ok (.getfield 16, 3) := by decide +kernel
theorem dX12_spelled_38 : decode cX12_spelled 38 = .ok (.iload_n 1, 1) := by decide +kernel
theorem dX12_spelled_39 : decode cX12_spelled 39 = .ok (.iaload, 1) := by decide +kernel
theorem dX12_spelled_40 : decode cX12_spelled 40 = .ok (.if_icmp .ge 24, 3) := by decide +kernel
theorem dX12_spelled_43 : decode cX12_spelled 43 = .ok (.lload_n 2, 1) := by decide +kernel
theorem dX12_spelled_44 : decode cX12_spelled 44 = .ok (.ldc2_w 74, 3) := by decide +kernel
theorem dX12_spelled_47 : decode cX12_spelled 47 = .ok (.lmul, 1) := by decide +kernel
theorem dX12_spelled_48 : decode cX12_spelled 48 = .ok (.aload_n 0, 1) := by decide +kernel
theorem dX12_spelled_49 : decode cX12_spelled 49 = .ok (.getfield 7, 3) := by decide +kernel
theorem dX12_spelled_52 : decode cX12_spelled 52 = .ok (.iload 4, 2) := by decide +kernel
theorem dX12_spelled_54 : decode cX12_spelled 54 = .ok (.iaload, 1) := by decide +kernel
theorem dX12_spelled_55 : decode cX12_spelled 55 = .ok (.i2l, 1) := by decide +kernel
theorem dX12_spelled_56 : decode cX12_spelled 56 = .ok (.ladd, 1) := by decide +kernel
theorem dX12_spelled_57 : decode cX12_spelled 57 = .ok (.lstore_n 2, 1) := by decide +kernel
theorem dX12_spelled_58 : decode cX12_spelled 58 = .ok (.iinc 4 1, 3) := by decide +kernel
theorem dX12_spelled_61 : decode cX12_spelled 61 = .ok (.goto (-29), 3) := by decide +kernel
theorem dX12_spelled_64 : decode cX12_spelled 64 = .ok (.lload_n 2, 1) := by decide +kernel
theorem dX12_spelled_65 : decode cX12_spelled 65 = .ok (.lreturn, 1) := by decide +kernel
theorem dX12_isNumber_0 : decode cX12_isNumber 0 = .ok (.aload_n 0, 1) := by decide +kernel
theorem dX12_isNumber_1 : decode cX12_isNumber 1 = .ok (.getfield 7, 3) := by decide +kernel
theorem dX12_isNumber_4 : decode cX12_isNumber 4 = .ok (.aload_n 0, 1) := by decide +kernel
theorem dX12_isNumber_5 : decode cX12_isNumber 5 = .ok (.getfield 13, 3) := by decide +kernel
theorem dX12_isNumber_8 : decode cX12_isNumber 8 = .ok (.iload_n 1, 1) := by decide +kernel
theorem dX12_isNumber_9 : decode cX12_isNumber 9 = .ok (.iaload, 1) := by decide +kernel
theorem dX12_isNumber_10 : decode cX12_isNumber 10 = .ok (.iaload, 1) := by decide +kernel
theorem dX12_isNumber_11 : decode cX12_isNumber 11 = .ok (.bipush 45, 2) := by decide +kernel
theorem dX12_isNumber_13 : decode cX12_isNumber 13 = .ok (.if_icmp .ne 14, 3) := by decide +kernel
theorem dX12_isNumber_16 : decode cX12_isNumber 16 = .ok (.aload_n 0, 1) := by decide +kernel
theorem dX12_isNumber_17 : decode cX12_isNumber 17 = .ok (.getfield 13, 3) := by decide +kernel
theorem dX12_isNumber_20 : decode cX12_isNumber 20 = .ok (.iload_n 1, 1) := by decide +kernel
theorem dX12_isNumber_21 : decode cX12_isNumber 21 = .ok (.iaload, 1) := by decide +kernel
theorem dX12_isNumber_22 : decode cX12_isNumber 22 = .ok (.iconst 1, 1) := by decide +kernel
theorem dX12_isNumber_23 : decode cX12_isNumber 23 = .ok (.iadd, 1) := by decide +kernel
theorem dX12_isNumber_24 : decode cX12_isNumber 24 = .ok (.goto 9, 3) := by decide +kernel
theorem dX12_isNumber_27 : decode cX12_isNumber 27 = .ok (.aload_n 0, 1) := by decide +kernel
theorem dX12_isNumber_28 : decode cX12_isNumber 28 = .ok (.getfield 13, 3) := by decide +kernel
theorem dX12_isNumber_31 : decode cX12_isNumber 31 = .ok (.iload_n 1, 1) := by decide +kernel
theorem dX12_isNumber_32 : decode cX12_isNumber 32 = .ok (.iaload, 1) := by decide +kernel
theorem dX12_isNumber_33 : decode cX12_isNumber 33 = .ok (.istore_n 2, 1) := by decide +kernel
theorem dX12_isNumber_34 : decode cX12_isNumber 34 = .ok (.aload_n 0, 1) := by decide +kernel
theorem dX12_isNumber_35 : decode cX12_isNumber 35 = .ok (.getfield 16, 3) := by decide +kernel
theorem dX12_isNumber_38 : decode cX12_isNumber 38 = .ok (.iload_n 1, 1) := by decide +kernel
theorem dX12_isNumber_39 : decode cX12_isNumber 39 = .ok (.iaload, 1) := by decide +kernel
theorem dX12_isNumber_40 : decode cX12_isNumber 40 = .ok (.iload_n 2, 1) := by decide +kernel
theorem dX12_isNumber_41 : decode cX12_isNumber 41 = .ok (.isub, 1) := by decide +kernel
theorem dX12_isNumber_42 : decode cX12_isNumber 42 = .ok (.iconst 1, 1) := by decide +kernel
theorem dX12_isNumber_43 : decode cX12_isNumber 43 = .ok (.if_icmp .lt 16, 3) := by decide +kernel
theorem dX12_isNumber_46 : decode cX12_isNumber 46 = .ok (.aload_n 0, 1) := by decide +kernel
theorem dX12_isNumber_47 : decode cX12_isNumber 47 = .ok (.getfield 16, 3) := by decide +kernel
theorem dX12_isNumber_50 : decode cX12_isNumber 50 = .ok (.iload_n 1, 1) := by decide +kernel
theorem dX12_isNumber_51 : decode cX12_isNumber 51 = .ok (.iaload, 1) := by decide +kernel
theorem dX12_isNumber_52 : decode cX12_isNumber 52 = .ok (.iload_n 2, 1) := by decide +kernel
theorem dX12_isNumber_53 : decode cX12_isNumber 53 = .ok (.isub, 1) := by decide +kernel
theorem dX12_isNumber_54 : decode cX12_isNumber 54 = .ok (.bipush 9, 2) := by decide +kernel
theorem dX12_isNumber_56 : decode cX12_isNumber 56 = .ok (.if_icmp .le 5, 3) := by decide +kernel
theorem dX12_isNumber_59 : decode cX12_isNumber 59 = .ok (.iconst 0, 1) := by decide +kernel
theorem dX12_isNumber_60 : decode cX12_isNumber 60 = .ok (.ireturn, 1) := by decide +kernel
theorem dX12_isNumber_61 : decode cX12_isNumber 61 = .ok (.iload_n 2, 1) := by decide +kernel
theorem dX12_isNumber_62 : decode cX12_isNumber 62 = .ok (.istore_n 3, 1) := by decide +kernel
theorem dX12_isNumber_63 : decode cX12_isNumber 63 = .ok (.iload_n 3, 1) := by decide +kernel
theorem dX12_isNumber_64 : decode cX12_isNumber 64 = .ok (.aload_n 0, 1) := by decide +kernel
theorem dX12_isNumber_65 : decode cX12_isNumber 65 = .ok (.getfield 16, 3) := by decide +kernel
theorem dX12_isNumber_68 : decode cX12_isNumber 68 = .ok (.iload_n 1, 1) := by decide +kernel
theorem dX12_isNumber_69 : decode cX12_isNumber 69 = .ok (.iaload, 1) := by decide +kernel
theorem dX12_isNumber_70 : decode cX12_isNumber 70 = .ok (.if_icmp .ge 23, 3) := by decide +kernel
theorem dX12_isNumber_73 : decode cX12_isNumber 73 = .ok (.aload_n 0, 1) := by decide +kernel
theorem dX12_isNumber_74 : decode cX12_isNumber 74 = .ok (.getfield 7, 3) := by decide +kernel
theorem dX12_isNumber_77 : decode cX12_isNumber 77 = .ok (.iload_n 3, 1) := by decide +kernel
theorem dX12_isNumber_78 : decode cX12_isNumber 78 = .ok (.iaload, 1) := by decide +kernel
theorem dX12_isNumber_79 : decode cX12_isNumber 79 = .ok (.invokestatic 76, 3) := by decide +kernel
theorem dX12_isNumber_82 : decode cX12_isNumber 82 = .ok (.ifCond .ne 5, 3) := by decide +kernel
theorem dX12_isNumber_85 : decode cX12_isNumber 85 = .ok (.iconst 0, 1) := by decide +kernel
theorem dX12_isNumber_86 : decode cX12_isNumber 86 = .ok (.ireturn, 1) := by decide +kernel
theorem dX12_isNumber_87 : decode cX12_isNumber 87 = .ok (.iinc 3 1, 3) := by decide +kernel
theorem dX12_isNumber_90 : decode cX12_isNumber 90 = .ok (.goto (-27), 3) := by decide +kernel
theorem dX12_isNumber_93 : decode cX12_isNumber 93 = .ok (.iconst 1, 1) := by decide +kernel
theorem dX12_isNumber_94 : decode cX12_isNumber 94 = .ok (.ireturn, 1) := by decide +kernel
theorem dX12_number_0 : decode cX12_number 0 = .ok (.aload_n 0, 1) := by decide +kernel
theorem dX12_number_1 : decode cX12_number 1 = .ok (.getfield 7, 3) := by decide +kernel
theorem dX12_number_4 : decode cX12_number 4 = .ok (.aload_n 0, 1) := by decide +kernel
theorem dX12_number_5 : decode cX12_number 5 = .ok (.getfield 13, 3) := by decide +kernel
theorem dX12_number_8 : decode cX12_number 8 = .ok (.iload_n 1, 1) := by decide +kernel
theorem dX12_number_9 : decode cX12_number 9 = .ok (.iaload, 1) := by decide +kernel
theorem dX12_number_10 : decode cX12_number 10 = .ok (.iaload, 1) := by decide +kernel
theorem dX12_number_11 : decode cX12_number 11 = .ok (.bipush 45, 2) := by decide +kernel
theorem dX12_number_13 : decode cX12_number 13 = .ok (.if_icmp .ne 7, 3) := by decide +kernel
theorem dX12_number_16 : decode cX12_number 16 = .ok (.iconst 1, 1) := by decide +kernel
theorem dX12_number_17 : decode cX12_number 17 = .ok (.goto 4, 3) := by decide +kernel
theorem dX12_number_20 : decode cX12_number 20 = .ok (.iconst 0, 1) := by decide +kernel
theorem dX12_number_21 : decode cX12_number 21 = .ok (.istore_n 2, 1) := by decide +kernel
theorem dX12_number_22 : decode cX12_number 22 = .ok (.iconst 0, 1) := by decide +kernel
theorem dX12_number_23 : decode cX12_number 23 = .ok (.istore_n 3, 1) := by decide +kernel
theorem dX12_number_24 : decode cX12_number 24 = .ok (.iload_n 2, 1) := by decide +kernel
theorem dX12_number_25 : decode cX12_number 25 = .ok (.ifCond .eq 14, 3) := by decide +kernel
theorem dX12_number_28 : decode cX12_number 28 = .ok (.aload_n 0, 1) := by decide +kernel
theorem dX12_number_29 : decode cX12_number 29 = .ok (.getfield 13, 3) := by decide +kernel
theorem dX12_number_32 : decode cX12_number 32 = .ok (.iload_n 1, 1) := by decide +kernel
theorem dX12_number_33 : decode cX12_number 33 = .ok (.iaload, 1) := by decide +kernel
theorem dX12_number_34 : decode cX12_number 34 = .ok (.iconst 1, 1) := by decide +kernel
theorem dX12_number_35 : decode cX12_number 35 = .ok (.iadd, 1) := by decide +kernel
theorem dX12_number_36 : decode cX12_number 36 = .ok (.goto 9, 3) := by decide +kernel
theorem dX12_number_39 : decode cX12_number 39 = .ok (.aload_n 0, 1) := by decide +kernel
theorem dX12_number_40 : decode cX12_number 40 = .ok (.getfield 13, 3) := by decide +kernel
theorem dX12_number_43 : decode cX12_number 43 = .ok (.iload_n 1, 1) := by decide +kernel
theorem dX12_number_44 : decode cX12_number 44 = .ok (.iaload, 1) := by decide +kernel
theorem dX12_number_45 : decode cX12_number 45 = .ok (.istore 4, 2) := by decide +kernel
theorem dX12_number_47 : decode cX12_number 47 = .ok (.iload 4, 2) := by decide +kernel
theorem dX12_number_49 : decode cX12_number 49 = .ok (.aload_n 0, 1) := by decide +kernel
theorem dX12_number_50 : decode cX12_number 50 = .ok (.getfield 16, 3) := by decide +kernel
theorem dX12_number_53 : decode cX12_number 53 = .ok (.iload_n 1, 1) := by decide +kernel
theorem dX12_number_54 : decode cX12_number 54 = .ok (.iaload, 1) := by decide +kernel
theorem dX12_number_55 : decode cX12_number 55 = .ok (.if_icmp .ge 25, 3) := by decide +kernel
theorem dX12_number_58 : decode cX12_number 58 = .ok (.bipush 10, 2) := by decide +kernel
theorem dX12_number_60 : decode cX12_number 60 = .ok (.iload_n 3, 1) := by decide +kernel
theorem dX12_number_61 : decode cX12_number 61 = .ok (.imul, 1) := by decide +kernel
theorem dX12_number_62 : decode cX12_number 62 = .ok (.aload_n 0, 1) := by decide +kernel
theorem dX12_number_63 : decode cX12_number 63 = .ok (.getfield 7, 3) := by decide +kernel
theorem dX12_number_66 : decode cX12_number 66 = .ok (.iload 4, 2) := by decide +kernel
theorem dX12_number_68 : decode cX12_number 68 = .ok (.iaload, 1) := by decide +kernel
theorem dX12_number_69 : decode cX12_number 69 = .ok (.iadd, 1) := by decide +kernel
theorem dX12_number_70 : decode cX12_number 70 = .ok (.bipush 48, 2) := by decide +kernel
theorem dX12_number_72 : decode cX12_number 72 = .ok (.isub, 1) := by decide +kernel
theorem dX12_number_73 : decode cX12_number 73 = .ok (.istore_n 3, 1) := by decide +kernel
theorem dX12_number_74 : decode cX12_number 74 = .ok (.iinc 4 1, 3) := by decide +kernel
theorem dX12_number_77 : decode cX12_number 77 = .ok (.goto (-30), 3) := by decide +kernel
theorem dX12_number_80 : decode cX12_number 80 = .ok (.iload_n 2, 1) := by decide +kernel
theorem dX12_number_81 : decode cX12_number 81 = .ok (.ifCond .eq 8, 3) := by decide +kernel
theorem dX12_number_84 : decode cX12_number 84 = .ok (.iload_n 3, 1) := by decide +kernel
theorem dX12_number_85 : decode cX12_number 85 = .ok (.ineg, 1) := by decide +kernel
theorem dX12_number_86 : decode cX12_number 86 = .ok (.goto 4, 3) := by decide +kernel
theorem dX12_number_89 : decode cX12_number 89 = .ok (.iload_n 3, 1) := by decide +kernel
theorem dX12_number_90 : decode cX12_number 90 = .ok (.ireturn, 1) := by decide +kernel
theorem dX12_plain_0 : decode cX12_plain 0 = .ok (.lload_n 0, 1) := by decide +kernel
theorem dX12_plain_1 : decode cX12_plain 1 = .ok (.ldc2_w 80, 3) := by decide +kernel
theorem dX12_plain_4 : decode cX12_plain 4 = .ok (.lcmp, 1) := by decide +kernel
theorem dX12_plain_5 : decode cX12_plain 5 = .ok (.ifCond .ne 5, 3) := by decide +kernel
theorem dX12_plain_8 : decode cX12_plain 8 = .ok (.iconst 0, 1) := by decide +kernel
theorem dX12_plain_9 : decode cX12_plain 9 = .ok (.ireturn, 1) := by decide +kernel
theorem dX12_plain_10 : decode cX12_plain 10 = .ok (.lload_n 0, 1) := by decide +kernel
theorem dX12_plain_11 : decode cX12_plain 11 = .ok (.ldc2_w 82, 3) := by decide +kernel
theorem dX12_plain_14 : decode cX12_plain 14 = .ok (.lcmp, 1) := by decide +kernel
theorem dX12_plain_15 : decode cX12_plain 15 = .ok (.ifCond .ne 5, 3) := by decide +kernel
theorem dX12_plain_18 : decode cX12_plain 18 = .ok (.iconst 1, 1) := by decide +kernel
theorem dX12_plain_19 : decode cX12_plain 19 = .ok (.ireturn, 1) := by decide +kernel
theorem dX12_plain_20 : decode cX12_plain 20 = .ok (.lload_n 0, 1) := by decide +kernel
theorem dX12_plain_21 : decode cX12_plain 21 = .ok (.ldc2_w 84, 3) := by decide +kernel
theorem dX12_plain_24 : decode cX12_plain 24 = .ok (.lcmp, 1) := by decide +kernel
theorem dX12_plain_25 : decode cX12_plain 25 = .ok (.ifCond .ne 5, 3) := by decide +kernel
theorem dX12_plain_28 : decode cX12_plain 28 = .ok (.iconst 2, 1) := by decide +kernel
theorem dX12_plain_29 : decode cX12_plain 29 = .ok (.ireturn, 1) := by decide +kernel
theorem dX12_plain_30 : decode cX12_plain 30 = .ok (.lload_n 0, 1) := by decide +kernel
theorem dX12_plain_31 : decode cX12_plain 31 = .ok (.ldc2_w 86, 3) := by decide +kernel
theorem dX12_plain_34 : decode cX12_plain 34 = .ok (.lcmp, 1) := by decide +kernel
theorem dX12_plain_35 : decode cX12_plain 35 = .ok (.ifCond .ne 5, 3) := by decide +kernel
theorem dX12_plain_38 : decode cX12_plain 38 = .ok (.iconst 3, 1) := by decide +kernel
theorem dX12_plain_39 : decode cX12_plain 39 = .ok (.ireturn, 1) := by decide +kernel
theorem dX12_plain_40 : decode cX12_plain 40 = .ok (.lload_n 0, 1) := by decide +kernel
theorem dX12_plain_41 : decode cX12_plain 41 = .ok (.ldc2_w 88, 3) := by decide +kernel
theorem dX12_plain_44 : decode cX12_plain 44 = .ok (.lcmp, 1) := by decide +kernel
theorem dX12_plain_45 : decode cX12_plain 45 = .ok (.ifCond .ne 5, 3) := by decide +kernel
theorem dX12_plain_48 : decode cX12_plain 48 = .ok (.iconst 4, 1) := by decide +kernel
theorem dX12_plain_49 : decode cX12_plain 49 = .ok (.ireturn, 1) := by decide +kernel
theorem dX12_plain_50 : decode cX12_plain 50 = .ok (.lload_n 0, 1) := by decide +kernel
theorem dX12_plain_51 : decode cX12_plain 51 = .ok (.ldc2_w 90, 3) := by decide +kernel
theorem dX12_plain_54 : decode cX12_plain 54 = .ok (.lcmp, 1) := by decide +kernel
theorem dX12_plain_55 : decode cX12_plain 55 = .ok (.ifCond .ne 5, 3) := by decide +kernel
theorem dX12_plain_58 : decode cX12_plain 58 = .ok (.iconst 5, 1) := by decide +kernel
theorem dX12_plain_59 : decode cX12_plain 59 = .ok (.ireturn, 1) := by decide +kernel
theorem dX12_plain_60 : decode cX12_plain 60 = .ok (.lload_n 0, 1) := by decide +kernel
theorem dX12_plain_61 : decode cX12_plain 61 = .ok (.ldc2_w 92, 3) := by decide +kernel
theorem dX12_plain_64 : decode cX12_plain 64 = .ok (.lcmp, 1) := by decide +kernel
theorem dX12_plain_65 : decode cX12_plain 65 = .ok (.ifCond .ne 6, 3) := by decide +kernel
theorem dX12_plain_68 : decode cX12_plain 68 = .ok (.bipush 6, 2) := by decide +kernel
theorem dX12_plain_70 : decode cX12_plain 70 = .ok (.ireturn, 1) := by decide +kernel
theorem dX12_plain_71 : decode cX12_plain 71 = .ok (.lload_n 0, 1) := by decide +kernel
theorem dX12_plain_72 : decode cX12_plain 72 = .ok (.ldc2_w 94, 3) := by decide +kernel
theorem dX12_plain_75 : decode cX12_plain 75 = .ok (.lcmp, 1) := by decide +kernel
theorem dX12_plain_76 : decode cX12_plain 76 = .ok (.ifCond .ne 6, 3) := by decide +kernel
theorem dX12_plain_79 : decode cX12_plain 79 = .ok (.bipush 7, 2) := by decide +kernel
theorem dX12_plain_81 : decode cX12_plain 81 = .ok (.ireturn, 1) := by decide +kernel
theorem dX12_plain_82 : decode cX12_plain 82 = .ok (.lload_n 0, 1) := by decide +kernel
theorem dX12_plain_83 : decode cX12_plain 83 = .ok (.ldc2_w 96, 3) := by decide +kernel
theorem dX12_plain_86 : decode cX12_plain 86 = .ok (.lcmp, 1) := by decide +kernel
theorem dX12_plain_87 : decode cX12_plain 87 = .ok (.ifCond .ne 6, 3) := by decide +kernel
theorem dX12_plain_90 : decode cX12_plain 90 = .ok (.bipush 8, 2) := by decide +kernel
theorem dX12_plain_92 : decode cX12_plain 92 = .ok (.ireturn, 1) := by decide +kernel
theorem dX12_plain_93 : decode cX12_plain 93 = .ok (.lload_n 0, 1) := by decide +kernel
theorem dX12_plain_94 : decode cX12_plain 94 = .ok (.ldc2_w 98, 3) := by decide +kernel
theorem dX12_plain_97 : decode cX12_plain 97 = .ok (.lcmp, 1) := by decide +kernel
theorem dX12_plain_98 : decode cX12_plain 98 = .ok (.ifCond .ne 6, 3) := by decide +kernel
theorem dX12_plain_101 : decode cX12_plain 101 = .ok (.bipush 9, 2) := by decide +kernel
theorem dX12_plain_103 : decode cX12_plain 103 = .ok (.ireturn, 1) := by decide +kernel
theorem dX12_plain_104 : decode cX12_plain 104 = .ok (.lload_n 0, 1) := by decide +kernel
theorem dX12_plain_105 : decode cX12_plain 105 = .ok (.ldc2_w 100, 3) := by decide +kernel
theorem dX12_plain_108 : decode cX12_plain 108 = .ok (.lcmp, 1) := by decide +kernel
theorem dX12_plain_109 : decode cX12_plain 109 = .ok (.ifCond .ne 6, 3) := by decide +kernel
theorem dX12_plain_112 : decode cX12_plain 112 = .ok (.bipush 10, 2) := by decide +kernel
theorem dX12_plain_114 : decode cX12_plain 114 = .ok (.ireturn, 1) := by decide +kernel
theorem dX12_plain_115 : decode cX12_plain 115 = .ok (.lload_n 0, 1) := by decide +kernel
theorem dX12_plain_116 : decode cX12_plain 116 = .ok (.ldc2_w 102, 3) := by decide +kernel
theorem dX12_plain_119 : decode cX12_plain 119 = .ok (.lcmp, 1) := by decide +kernel
theorem dX12_plain_120 : decode cX12_plain 120 = .ok (.ifCond .ne 6, 3) := by decide +kernel
theorem dX12_plain_123 : decode cX12_plain 123 = .ok (.bipush 11, 2) := by decide +kernel
theorem dX12_plain_125 : decode cX12_plain 125 = .ok (.ireturn, 1) := by decide +kernel
theorem dX12_plain_126 : decode cX12_plain 126 = .ok (.lload_n 0, 1) := by decide +kernel
theorem dX12_plain_127 : decode cX12_plain 127 = .ok (.ldc2_w 104, 3) := by decide +kernel
theorem dX12_plain_130 : decode cX12_plain 130 = .ok (.lcmp, 1) := by decide +kernel
theorem dX12_plain_131 : decode cX12_plain 131 = .ok (.ifCond .ne 6, 3) := by decide +kernel
theorem dX12_plain_134 : decode cX12_plain 134 = .ok (.bipush 12, 2) := by decide +kernel
theorem dX12_plain_136 : decode cX12_plain 136 = .ok (.ireturn, 1) := by decide +kernel
theorem dX12_plain_137 : decode cX12_plain 137 = .ok (.lload_n 0, 1) := by decide +kernel
theorem dX12_plain_138 : decode cX12_plain 138 = .ok (.ldc2_w 106, 3) := by decide +kernel
theorem dX12_plain_141 : decode cX12_plain 141 = .ok (.lcmp, 1) := by decide +kernel
theorem dX12_plain_142 : decode cX12_plain 142 = .ok (.ifCond .ne 6, 3) := by decide +kernel
theorem dX12_plain_145 : decode cX12_plain 145 = .ok (.bipush 13, 2) := by decide +kernel
theorem dX12_plain_147 : decode cX12_plain 147 = .ok (.ireturn, 1) := by decide +kernel
theorem dX12_plain_148 : decode cX12_plain 148 = .ok (.lload_n 0, 1) := by decide +kernel
theorem dX12_plain_149 : decode cX12_plain 149 = .ok (.ldc2_w 108, 3) := by decide +kernel
theorem dX12_plain_152 : decode cX12_plain 152 = .ok (.lcmp, 1) := by decide +kernel
theorem dX12_plain_153 : decode cX12_plain 153 = .ok (.ifCond .ne 6, 3) := by decide +kernel
theorem dX12_plain_156 : decode cX12_plain 156 = .ok (.bipush 14, 2) := by decide +kernel
theorem dX12_plain_158 : decode cX12_plain 158 = .ok (.ireturn, 1) := by decide +kernel
theorem dX12_plain_159 : decode cX12_plain 159 = .ok (.lload_n 0, 1) := by decide +kernel
theorem dX12_plain_160 : decode cX12_plain 160 = .ok (.ldc2_w 110, 3) := by decide +kernel
theorem dX12_plain_163 : decode cX12_plain 163 = .ok (.lcmp, 1) := by decide +kernel
theorem dX12_plain_164 : decode cX12_plain 164 = .ok (.ifCond .ne 6, 3) := by decide +kernel
theorem dX12_plain_167 : decode cX12_plain 167 = .ok (.bipush 15, 2) := by decide +kernel
theorem dX12_plain_169 : decode cX12_plain 169 = .ok (.ireturn, 1) := by decide +kernel
theorem dX12_plain_170 : decode cX12_plain 170 = .ok (.lload_n 0, 1) := by decide +kernel
theorem dX12_plain_171 : decode cX12_plain 171 = .ok (.ldc2_w 112, 3) := by decide +kernel
theorem dX12_plain_174 : decode cX12_plain 174 = .ok (.lcmp, 1) := by decide +kernel
theorem dX12_plain_175 : decode cX12_plain 175 = .ok (.ifCond .ne 6, 3) := by decide +kernel
theorem dX12_plain_178 : decode cX12_plain 178 = .ok (.bipush 16, 2) := by decide +kernel
theorem dX12_plain_180 : decode cX12_plain 180 = .ok (.ireturn, 1) := by decide +kernel
theorem dX12_plain_181 : decode cX12_plain 181 = .ok (.lload_n 0, 1) := by decide +kernel
theorem dX12_plain_182 : decode cX12_plain 182 = .ok (.ldc2_w 114, 3) := by decide +kernel
theorem dX12_plain_185 : decode cX12_plain 185 = .ok (.lcmp, 1) := by decide +kernel
theorem dX12_plain_186 : decode cX12_plain 186 = .ok (.ifCond .ne 6, 3) := by decide +kernel
theorem dX12_plain_189 : decode cX12_plain 189 = .ok (.bipush 17, 2) := by decide +kernel
theorem dX12_plain_191 : decode cX12_plain 191 = .ok (.ireturn, 1) := by decide +kernel
theorem dX12_plain_192 : decode cX12_plain 192 = .ok (.lload_n 0, 1) := by decide +kernel
theorem dX12_plain_193 : decode cX12_plain 193 = .ok (.ldc2_w 116, 3) := by decide +kernel
theorem dX12_plain_196 : decode cX12_plain 196 = .ok (.lcmp, 1) := by decide +kernel
theorem dX12_plain_197 : decode cX12_plain 197 = .ok (.ifCond .ne 6, 3) := by decide +kernel
theorem dX12_plain_200 : decode cX12_plain 200 = .ok (.bipush 18, 2) := by decide +kernel
theorem dX12_plain_202 : decode cX12_plain 202 = .ok (.ireturn, 1) := by decide +kernel
theorem dX12_plain_203 : decode cX12_plain 203 = .ok (.lload_n 0, 1) := by decide +kernel
theorem dX12_plain_204 : decode cX12_plain 204 = .ok (.ldc2_w 118, 3) := by decide +kernel
theorem dX12_plain_207 : decode cX12_plain 207 = .ok (.lcmp, 1) := by decide +kernel
theorem dX12_plain_208 : decode cX12_plain 208 = .ok (.ifCond .ne 6, 3) := by decide +kernel
theorem dX12_plain_211 : decode cX12_plain 211 = .ok (.bipush 19, 2) := by decide +kernel
theorem dX12_plain_213 : decode cX12_plain 213 = .ok (.ireturn, 1) := by decide +kernel
theorem dX12_plain_214 : decode cX12_plain 214 = .ok (.lload_n 0, 1) := by decide +kernel
theorem dX12_plain_215 : decode cX12_plain 215 = .ok (.ldc2_w 120, 3) := by decide +kernel
theorem dX12_plain_218 : decode cX12_plain 218 = .ok (.lcmp, 1) := by decide +kernel
theorem dX12_plain_219 : decode cX12_plain 219 = .ok (.ifCond .ne 6, 3) := by decide +kernel
theorem dX12_plain_222 : decode cX12_plain 222 = .ok (.bipush 20, 2) := by decide +kernel
theorem dX12_plain_224 : decode cX12_plain 224 = .ok (.ireturn, 1) := by decide +kernel
theorem dX12_plain_225 : decode cX12_plain 225 = .ok (.lload_n 0, 1) := by decide +kernel
theorem dX12_plain_226 : decode cX12_plain 226 = .ok (.ldc2_w 122, 3) := by decide +kernel
theorem dX12_plain_229 : decode cX12_plain 229 = .ok (.lcmp, 1) := by decide +kernel
theorem dX12_plain_230 : decode cX12_plain 230 = .ok (.ifCond .ne 6, 3) := by decide +kernel
theorem dX12_plain_233 : decode cX12_plain 233 = .ok (.bipush 21, 2) := by decide +kernel
theorem dX12_plain_235 : decode cX12_plain 235 = .ok (.ireturn, 1) := by decide +kernel
theorem dX12_plain_236 : decode cX12_plain 236 = .ok (.lload_n 0, 1) := by decide +kernel
theorem dX12_plain_237 : decode cX12_plain 237 = .ok (.ldc2_w 124, 3) := by decide +kernel
theorem dX12_plain_240 : decode cX12_plain 240 = .ok (.lcmp, 1) := by decide +kernel
theorem dX12_plain_241 : decode cX12_plain 241 = .ok (.ifCond .ne 6, 3) := by decide +kernel
theorem dX12_plain_244 : decode cX12_plain 244 = .ok (.bipush 22, 2) := by decide +kernel
theorem dX12_plain_246 : decode cX12_plain 246 = .ok (.ireturn, 1) := by decide +kernel
theorem dX12_plain_247 : decode cX12_plain 247 = .ok (.lload_n 0, 1) := by decide +kernel
theorem dX12_plain_248 : decode cX12_plain 248 = .ok (.ldc2_w 126, 3) := by decide +kernel
theorem dX12_plain_251 : decode cX12_plain 251 = .ok (.lcmp, 1) := by decide +kernel
theorem dX12_plain_252 : decode cX12_plain 252 = .ok (.ifCond .ne 6, 3) := by decide +kernel
theorem dX12_plain_255 : decode cX12_plain 255 = .ok (.bipush 23, 2) := by decide +kernel
theorem dX12_plain_257 : decode cX12_plain 257 = .ok (.ireturn, 1) := by decide +kernel
theorem dX12_plain_258 : decode cX12_plain 258 = .ok (.lload_n 0, 1) := by decide +kernel
theorem dX12_plain_259 : decode cX12_plain 259 = .ok (.ldc2_w 128, 3) := by decide +kernel
theorem dX12_plain_262 : decode cX12_plain 262 = .ok (.lcmp, 1) := by decide +kernel
theorem dX12_plain_263 : decode cX12_plain 263 = .ok (.ifCond .ne 6, 3) := by decide +kernel
theorem dX12_plain_266 : decode cX12_plain 266 = .ok (.bipush 24, 2) := by decide +kernel
theorem dX12_plain_268 : decode cX12_plain 268 = .ok (.ireturn, 1) := by decide +kernel
theorem dX12_plain_269 : decode cX12_plain 269 = .ok (.lload_n 0, 1) := by decide +kernel
theorem dX12_plain_270 : decode cX12_plain 270 = .ok (.ldc2_w 130, 3) := by decide +kernel
theorem dX12_plain_273 : decode cX12_plain 273 = .ok (.lcmp, 1) := by decide +kernel
theorem dX12_plain_274 : decode cX12_plain 274 = .ok (.ifCond .ne 6, 3) := by decide +kernel
theorem dX12_plain_277 : decode cX12_plain 277 = .ok (.bipush 25, 2) := by decide +kernel
theorem dX12_plain_279 : decode cX12_plain 279 = .ok (.ireturn, 1) := by decide +kernel
theorem dX12_plain_280 : decode cX12_plain 280 = .ok (.lload_n 0, 1) := by decide +kernel
theorem dX12_plain_281 : decode cX12_plain 281 = .ok (.ldc2_w 132, 3) := by decide +kernel
theorem dX12_plain_284 : decode cX12_plain 284 = .ok (.lcmp, 1) := by decide +kernel
theorem dX12_plain_285 : decode cX12_plain 285 = .ok (.ifCond .ne 6, 3) := by decide +kernel
theorem dX12_plain_288 : decode cX12_plain 288 = .ok (.bipush 26, 2) := by decide +kernel
theorem dX12_plain_290 : decode cX12_plain 290 = .ok (.ireturn, 1) := by decide +kernel
theorem dX12_plain_291 : decode cX12_plain 291 = .ok (.lload_n 0, 1) := by decide +kernel
theorem dX12_plain_292 : decode cX12_plain 292 = .ok (.ldc2_w 134, 3) := by decide +kernel
theorem dX12_plain_295 : decode cX12_plain 295 = .ok (.lcmp, 1) := by decide +kernel
theorem dX12_plain_296 : decode cX12_plain 296 = .ok (.ifCond .ne 6, 3) := by decide +kernel
theorem dX12_plain_299 : decode cX12_plain 299 = .ok (.bipush 27, 2) := by decide +kernel
theorem dX12_plain_301 : decode cX12_plain 301 = .ok (.ireturn, 1) := by decide +kernel
theorem dX12_plain_302 : decode cX12_plain 302 = .ok (.lload_n 0, 1) := by decide +kernel
theorem dX12_plain_303 : decode cX12_plain 303 = .ok (.ldc2_w 136, 3) := by decide +kernel
theorem dX12_plain_306 : decode cX12_plain 306 = .ok (.lcmp, 1) := by decide +kernel
theorem dX12_plain_307 : decode cX12_plain 307 = .ok (.ifCond .ne 6, 3) := by decide +kernel
theorem dX12_plain_310 : decode cX12_plain 310 = .ok (.bipush 28, 2) := by decide +kernel
theorem dX12_plain_312 : decode cX12_plain 312 = .ok (.ireturn, 1) := by decide +kernel
theorem dX12_plain_313 : decode cX12_plain 313 = .ok (.lload_n 0, 1) := by decide +kernel
theorem dX12_plain_314 : decode cX12_plain 314 = .ok (.ldc2_w 138, 3) := by decide +kernel
theorem dX12_plain_317 : decode cX12_plain 317 = .ok (.lcmp, 1) := by decide +kernel
theorem dX12_plain_318 : decode cX12_plain 318 = .ok (.ifCond .ne 6, 3) := by decide +kernel
theorem dX12_plain_321 : decode cX12_plain 321 = .ok (.bipush 29, 2) := by decide +kernel
theorem dX12_plain_323 : decode cX12_plain 323 = .ok (.ireturn, 1) := by decide +kernel
theorem dX12_plain_324 : decode cX12_plain 324 = .ok (.lload_n 0, 1) := by decide +kernel
theorem dX12_plain_325 : decode cX12_plain 325 = .ok (.ldc2_w 140, 3) := by decide +kernel
theorem dX12_plain_328 : decode cX12_plain 328 = .ok (.lcmp, 1) := by decide +kernel
theorem dX12_plain_329 : decode cX12_plain 329 = .ok (.ifCond .ne 6, 3) := by decide +kernel
theorem dX12_plain_332 : decode cX12_plain 332 = .ok (.bipush 30, 2) := by decide +kernel
theorem dX12_plain_334 : decode cX12_plain 334 = .ok (.ireturn, 1) := by decide +kernel
theorem dX12_plain_335 : decode cX12_plain 335 = .ok (.lload_n 0, 1) := by decide +kernel
theorem dX12_plain_336 : decode cX12_plain 336 = .ok (.ldc2_w 142, 3) := by decide +kernel
theorem dX12_plain_339 : decode cX12_plain 339 = .ok (.lcmp, 1) := by decide +kernel
theorem dX12_plain_340 : decode cX12_plain 340 = .ok (.ifCond .ne 6, 3) := by decide +kernel
theorem dX12_plain_343 : decode cX12_plain 343 = .ok (.bipush 31, 2) := by decide +kernel
theorem dX12_plain_345 : decode cX12_plain 345 = .ok (.ireturn, 1) := by decide +kernel
theorem dX12_plain_346 : decode cX12_plain 346 = .ok (.lload_n 0, 1) := by decide +kernel
theorem dX12_plain_347 : decode cX12_plain 347 = .ok (.ldc2_w 144, 3) := by decide +kernel
theorem dX12_plain_350 : decode cX12_plain 350 = .ok (.lcmp, 1) := by decide +kernel
theorem dX12_plain_351 : decode cX12_plain 351 = .ok (.ifCond .ne 6, 3) := by decide +kernel
theorem dX12_plain_354 : decode cX12_plain 354 = .ok (.bipush 32, 2) := by decide +kernel
theorem dX12_plain_356 : decode cX12_plain 356 = .ok (.ireturn, 1) := by decide +kernel
theorem dX12_plain_357 : decode cX12_plain 357 = .ok (.iconst (-1), 1) := by decide +kernel
theorem dX12_plain_358 : decode cX12_plain 358 = .ok (.ireturn, 1) := by decide +kernel
theorem dX12_control_0 : decode cX12_control 0 = .ok (.lload_n 0, 1) := by decide +kernel
theorem dX12_control_1 : decode cX12_control 1 = .ok (.ldc2_w 146, 3) := by decide +kernel
theorem dX12_control_4 : decode cX12_control 4 = .ok (.lcmp, 1) := by decide +kernel
theorem dX12_control_5 : decode cX12_control 5 = .ok (.ifCond .ne 5, 3) := by decide +kernel
theorem dX12_control_8 : decode cX12_control 8 = .ok (.iconst 0, 1) := by decide +kernel
theorem dX12_control_9 : decode cX12_control 9 = .ok (.ireturn, 1) := by decide +kernel
theorem dX12_control_10 : decode cX12_control 10 = .ok (.lload_n 0, 1) := by decide +kernel
theorem dX12_control_11 : decode cX12_control 11 = .ok (.ldc2_w 148, 3) := by decide +kernel
theorem dX12_control_14 : decode cX12_control 14 = .ok (.lcmp, 1) := by decide +kernel
theorem dX12_control_15 : decode cX12_control 15 = .ok (.ifCond .ne 5, 3) := by decide +kernel
theorem dX12_control_18 : decode cX12_control 18 = .ok (.iconst 1, 1) := by decide +kernel
theorem dX12_control_19 : decode cX12_control 19 = .ok (.ireturn, 1) := by decide +kernel
theorem dX12_control_20 : decode cX12_control 20 = .ok (.lload_n 0, 1) := by decide +kernel
theorem dX12_control_21 : decode cX12_control 21 = .ok (.ldc2_w 150, 3) := by decide +kernel
theorem dX12_control_24 : decode cX12_control 24 = .ok (.lcmp, 1) := by decide +kernel
theorem dX12_control_25 : decode cX12_control 25 = .ok (.ifCond .ne 5, 3) := by decide +kernel
theorem dX12_control_28 : decode cX12_control 28 = .ok (.iconst 2, 1) := by decide +kernel
theorem dX12_control_29 : decode cX12_control 29 = .ok (.ireturn, 1) := by decide +kernel
theorem dX12_control_30 : decode cX12_control 30 = .ok (.lload_n 0, 1) := by decide +kernel
theorem dX12_control_31 : decode cX12_control 31 = .ok (.ldc2_w 152, 3) := by decide +kernel
theorem dX12_control_34 : decode cX12_control 34 = .ok (.lcmp, 1) := by decide +kernel
theorem dX12_control_35 : decode cX12_control 35 = .ok (.ifCond .ne 5, 3) := by decide +kernel
theorem dX12_control_38 : decode cX12_control 38 = .ok (.iconst 3, 1) := by decide +kernel
theorem dX12_control_39 : decode cX12_control 39 = .ok (.ireturn, 1) := by decide +kernel
theorem dX12_control_40 : decode cX12_control 40 = .ok (.lload_n 0, 1) := by decide +kernel
theorem dX12_control_41 : decode cX12_control 41 = .ok (.ldc2_w 154, 3) := by decide +kernel
theorem dX12_control_44 : decode cX12_control 44 = .ok (.lcmp, 1) := by decide +kernel
theorem dX12_control_45 : decode cX12_control 45 = .ok (.ifCond .ne 5, 3) := by decide +kernel
theorem dX12_control_48 : decode cX12_control 48 = .ok (.iconst 4, 1) := by decide +kernel
theorem dX12_control_49 : decode cX12_control 49 = .ok (.ireturn, 1) := by decide +kernel
theorem dX12_control_50 : decode cX12_control 50 = .ok (.lload_n 0, 1) := by decide +kernel
theorem dX12_control_51 : decode cX12_control 51 = .ok (.ldc2_w 156, 3) := by decide +kernel
theorem dX12_control_54 : decode cX12_control 54 = .ok (.lcmp, 1) := by decide +kernel
theorem dX12_control_55 : decode cX12_control 55 = .ok (.ifCond .ne 5, 3) := by decide +kernel
theorem dX12_control_58 : decode cX12_control 58 = .ok (.iconst 5, 1) := by decide +kernel
theorem dX12_control_59 : decode cX12_control 59 = .ok (.ireturn, 1) := by decide +kernel
theorem dX12_control_60 : decode cX12_control 60 = .ok (.lload_n 0, 1) := by decide +kernel
theorem dX12_control_61 : decode cX12_control 61 = .ok (.ldc2_w 158, 3) := by decide +kernel
theorem dX12_control_64 : decode cX12_control 64 = .ok (.lcmp, 1) := by decide +kernel
theorem dX12_control_65 : decode cX12_control 65 = .ok (.ifCond .ne 6, 3) := by decide +kernel
theorem dX12_control_68 : decode cX12_control 68 = .ok (.bipush 6, 2) := by decide +kernel
theorem dX12_control_70 : decode cX12_control 70 = .ok (.ireturn, 1) := by decide +kernel
theorem dX12_control_71 : decode cX12_control 71 = .ok (.lload_n 0, 1) := by decide +kernel
theorem dX12_control_72 : decode cX12_control 72 = .ok (.ldc2_w 160, 3) := by decide +kernel
theorem dX12_control_75 : decode cX12_control 75 = .ok (.lcmp, 1) := by decide +kernel
theorem dX12_control_76 : decode cX12_control 76 = .ok (.ifCond .ne 6, 3) := by decide +kernel
theorem dX12_control_79 : decode cX12_control 79 = .ok (.bipush 7, 2) := by decide +kernel
theorem dX12_control_81 : decode cX12_control 81 = .ok (.ireturn, 1) := by decide +kernel
theorem dX12_control_82 : decode cX12_control 82 = .ok (.lload_n 0, 1) := by decide +kernel
theorem dX12_control_83 : decode cX12_control 83 = .ok (.ldc2_w 162, 3) := by decide +kernel
theorem dX12_control_86 : decode cX12_control 86 = .ok (.lcmp, 1) := by decide +kernel
theorem dX12_control_87 : decode cX12_control 87 = .ok (.ifCond .ne 6, 3) := by decide +kernel
theorem dX12_control_90 : decode cX12_control 90 = .ok (.bipush 8, 2) := by decide +kernel
theorem dX12_control_92 : decode cX12_control 92 = .ok (.ireturn, 1) := by decide +kernel
theorem dX12_control_93 : decode cX12_control 93 = .ok (.lload_n 0, 1) := by decide +kernel
theorem dX12_control_94 : decode cX12_control 94 = .ok (.ldc2_w 164, 3) := by decide +kernel
theorem dX12_control_97 : decode cX12_control 97 = .ok (.lcmp, 1) := by decide +kernel
theorem dX12_control_98 : decode cX12_control 98 = .ok (.ifCond .ne 6, 3) := by decide +kernel
theorem dX12_control_101 : decode cX12_control 101 = .ok (.bipush 9, 2) := by decide +kernel
theorem dX12_control_103 : decode cX12_control 103 = .ok (.ireturn, 1) := by decide +kernel
theorem dX12_control_104 : decode cX12_control 104 = .ok (.lload_n 0, 1) := by decide +kernel
theorem dX12_control_105 : decode cX12_control 105 = .ok (.ldc2_w 166, 3) := by decide +kernel
theorem dX12_control_108 : decode cX12_control 108 = .ok (.lcmp, 1) := by decide +kernel
theorem dX12_control_109 : decode cX12_control 109 = .ok (.ifCond .ne 6, 3) := by decide +kernel
theorem dX12_control_112 : decode cX12_control 112 = .ok (.bipush 10, 2) := by decide +kernel
theorem dX12_control_114 : decode cX12_control 114 = .ok (.ireturn, 1) := by decide +kernel
theorem dX12_control_115 : decode cX12_control 115 = .ok (.lload_n 0, 1) := by decide +kernel
theorem dX12_control_116 : decode cX12_control 116 = .ok (.ldc2_w 168, 3) := by decide +kernel
theorem dX12_control_119 : decode cX12_control 119 = .ok (.lcmp, 1) := by decide +kernel
theorem dX12_control_120 : decode cX12_control 120 = .ok (.ifCond .ne 6, 3) := by decide +kernel
theorem dX12_control_123 : decode cX12_control 123 = .ok (.bipush 11, 2) := by decide +kernel
theorem dX12_control_125 : decode cX12_control 125 = .ok (.ireturn, 1) := by decide +kernel
theorem dX12_control_126 : decode cX12_control 126 = .ok (.lload_n 0, 1) := by decide +kernel
theorem dX12_control_127 : decode cX12_control 127 = .ok (.ldc2_w 170, 3) := by decide +kernel
theorem dX12_control_130 : decode cX12_control 130 = .ok (.lcmp, 1) := by decide +kernel
theorem dX12_control_131 : decode cX12_control 131 = .ok (.ifCond .ne 6, 3) := by decide +kernel
theorem dX12_control_134 : decode cX12_control 134 = .ok (.bipush 12, 2) := by decide +kernel
theorem dX12_control_136 : decode cX12_control 136 = .ok (.ireturn, 1) := by decide +kernel
theorem dX12_control_137 : decode cX12_control 137 = .ok (.iconst (-1), 1) := by decide +kernel
theorem dX12_control_138 : decode cX12_control 138 = .ok (.ireturn, 1) := by decide +kernel
theorem dX12_meant_0 : decode cX12_meant 0 = .ok (.aload_n 0, 1) := by decide +kernel
theorem dX12_meant_1 : decode cX12_meant 1 = .ok (.getfield 172, 3) := by decide +kernel
theorem dX12_meant_4 : decode cX12_meant 4 = .ok (.iconst 1, 1) := by decide +kernel
theorem dX12_meant_5 : decode cX12_meant 5 = .ok (.isub, 1) := by decide +kernel
theorem dX12_meant_6 : decode cX12_meant 6 = .ok (.istore_n 3, 1) := by decide +kernel
theorem dX12_meant_7 : decode cX12_meant 7 = .ok (.iload_n 3, 1) := by decide +kernel
theorem dX12_meant_8 : decode cX12_meant 8 = .ok (.ifCond .lt 22, 3) := by decide +kernel
theorem dX12_meant_11 : decode cX12_meant 11 = .ok (.aload_n 0, 1) := by decide +kernel
theorem dX12_meant_12 : decode cX12_meant 12 = .ok (.getfield 28, 3) := by decide +kernel
theorem dX12_meant_15 : decode cX12_meant 15 = .ok (.iload_n 3, 1) := by decide +kernel
theorem dX12_meant_16 : decode cX12_meant 16 = .ok (.laload, 1) := by decide +kernel
theorem dX12_meant_17 : decode cX12_meant 17 = .ok (.lload_n 1, 1) := by decide +kernel
theorem dX12_meant_18 : decode cX12_meant 18 = .ok (.lcmp, 1) := by decide +kernel
theorem dX12_meant_19 : decode cX12_meant 19 = .ok (.ifCond .ne 5, 3) := by decide +kernel
theorem dX12_meant_22 : decode cX12_meant 22 = .ok (.iload_n 3, 1) := by decide +kernel
theorem dX12_meant_23 : decode cX12_meant 23 = .ok (.ireturn, 1) := by decide +kernel
theorem dX12_meant_24 : decode cX12_meant 24 = .ok (.iinc 3 (-1), 3) := by decide +kernel
theorem dX12_meant_27 : decode cX12_meant 27 = .ok (.goto (-20), 3) := by decide +kernel
theorem dX12_meant_30 : decode cX12_meant 30 = .ok (.iconst (-1), 1) := by decide +kernel
theorem dX12_meant_31 : decode cX12_meant 31 = .ok (.ireturn, 1) := by decide +kernel
theorem dX12_stop_0 : decode cX12_stop 0 = .ok (.aload_n 0, 1) := by decide +kernel
theorem dX12_stop_1 : decode cX12_stop 1 = .ok (.iload_n 1, 1) := by decide +kernel
theorem dX12_stop_2 : decode cX12_stop 2 = .ok (.putfield 175, 3) := by decide +kernel
theorem dX12_stop_5 : decode cX12_stop 5 = .ok (.iconst 0, 1) := by decide +kernel
theorem dX12_stop_6 : decode cX12_stop 6 = .ok (.ireturn, 1) := by decide +kernel
theorem dX12_put_0 : decode cX12_put 0 = .ok (.aload_n 0, 1) := by decide +kernel
theorem dX12_put_1 : decode cX12_put 1 = .ok (.getfield 19, 3) := by decide +kernel
theorem dX12_put_4 : decode cX12_put 4 = .ok (.aload_n 0, 1) := by decide +kernel
theorem dX12_put_5 : decode cX12_put 5 = .ok (.getfield 178, 3) := by decide +kernel
theorem dX12_put_8 : decode cX12_put 8 = .ok (.lload_n 1, 1) := by decide +kernel
theorem dX12_put_9 : decode cX12_put 9 = .ok (.l2i, 1) := by decide +kernel
theorem dX12_put_10 : decode cX12_put 10 = .ok (.iastore, 1) := by decide +kernel
theorem dX12_put_11 : decode cX12_put 11 = .ok (.aload_n 0, 1) := by decide +kernel
theorem dX12_put_12 : decode cX12_put 12 = .ok (.aload_n 0, 1) := by decide +kernel
theorem dX12_put_13 : decode cX12_put 13 = .ok (.getfield 178, 3) := by decide +kernel
theorem dX12_put_16 : decode cX12_put 16 = .ok (.iconst 1, 1) := by decide +kernel
theorem dX12_put_17 : decode cX12_put 17 = .ok (.iadd, 1) := by decide +kernel
theorem dX12_put_18 : decode cX12_put 18 = .ok (.putfield 178, 3) := by decide +kernel
theorem dX12_put_21 : decode cX12_put 21 = .ok (.return_, 1) := by decide +kernel
theorem dX12_takes_0 : decode cX12_takes 0 = .ok (.iload_n 0, 1) := by decide +kernel
theorem dX12_takes_1 : decode cX12_takes 1 = .ok (.bipush 8, 2) := by decide +kernel
theorem dX12_takes_3 : decode cX12_takes 3 = .ok (.if_icmp .ne 5, 3) := by decide +kernel
theorem dX12_takes_6 : decode cX12_takes 6 = .ok (.iconst 0, 1) := by decide +kernel
theorem dX12_takes_7 : decode cX12_takes 7 = .ok (.ireturn, 1) := by decide +kernel
theorem dX12_takes_8 : decode cX12_takes 8 = .ok (.iload_n 0, 1) := by decide +kernel
theorem dX12_takes_9 : decode cX12_takes 9 = .ok (.iconst 4, 1) := by decide +kernel
theorem dX12_takes_10 : decode cX12_takes 10 = .ok (.if_icmp .ne 5, 3) := by decide +kernel
theorem dX12_takes_13 : decode cX12_takes 13 = .ok (.iconst 3, 1) := by decide +kernel
theorem dX12_takes_14 : decode cX12_takes 14 = .ok (.ireturn, 1) := by decide +kernel
theorem dX12_takes_15 : decode cX12_takes 15 = .ok (.iload_n 0, 1) := by decide +kernel
theorem dX12_takes_16 : decode cX12_takes 16 = .ok (.ifCond .eq 56, 3) := by decide +kernel
theorem dX12_takes_19 : decode cX12_takes 19 = .ok (.iload_n 0, 1) := by decide +kernel
theorem dX12_takes_20 : decode cX12_takes 20 = .ok (.iconst 1, 1) := by decide +kernel
theorem dX12_takes_21 : decode cX12_takes 21 = .ok (.if_icmp .eq 51, 3) := by decide +kernel
theorem dX12_takes_24 : decode cX12_takes 24 = .ok (.iload_n 0, 1) := by decide +kernel
theorem dX12_takes_25 : decode cX12_takes 25 = .ok (.bipush 7, 2) := by decide +kernel
theorem dX12_takes_27 : decode cX12_takes 27 = .ok (.if_icmp .eq 45, 3) := by decide +kernel
theorem dX12_takes_30 : decode cX12_takes 30 = .ok (.iload_n 0, 1) := by decide +kernel
theorem dX12_takes_31 : decode cX12_takes 31 = .ok (.bipush 14, 2) := by decide +kernel
theorem dX12_takes_33 : decode cX12_takes 33 = .ok (.if_icmp .eq 39, 3) := by decide +kernel
theorem dX12_takes_36 : decode cX12_takes 36 = .ok (.iload_n 0, 1) := by decide +kernel
theorem dX12_takes_37 : decode cX12_takes 37 = .ok (.bipush 15, 2) := by decide +kernel
theorem dX12_takes_39 : decode cX12_takes 39 = .ok (.if_icmp .eq 33, 3) := by decide +kernel
theorem dX12_takes_42 : decode cX12_takes 42 = .ok (.iload_n 0, 1) := by decide +kernel
theorem dX12_takes_43 : decode cX12_takes 43 = .ok (.bipush 21, 2) := by decide +kernel
theorem dX12_takes_45 : decode cX12_takes 45 = .ok (.if_icmp .eq 27, 3) := by decide +kernel
theorem dX12_takes_48 : decode cX12_takes 48 = .ok (.iload_n 0, 1) := by decide +kernel
theorem dX12_takes_49 : decode cX12_takes 49 = .ok (.bipush 27, 2) := by decide +kernel
theorem dX12_takes_51 : decode cX12_takes 51 = .ok (.if_icmp .eq 21, 3) := by decide +kernel
theorem dX12_takes_54 : decode cX12_takes 54 = .ok (.iload_n 0, 1) := by decide +kernel
theorem dX12_takes_55 : decode cX12_takes 55 = .ok (.bipush 28, 2) := by decide +kernel
theorem dX12_takes_57 : decode cX12_takes 57 = .ok (.if_icmp .eq 15, 3) := by decide +kernel
theorem dX12_takes_60 : decode cX12_takes 60 = .ok (.iload_n 0, 1) := by decide +kernel
theorem dX12_takes_61 : decode cX12_takes 61 = .ok (.bipush 29, 2) := by decide +kernel
theorem dX12_takes_63 : decode cX12_takes 63 = .ok (.if_icmp .eq 9, 3) := by decide +kernel
theorem dX12_takes_66 : decode cX12_takes 66 = .ok (.iload_n 0, 1) := by decide +kernel
theorem dX12_takes_67 : decode cX12_takes 67 = .ok (.bipush 32, 2) := by decide +kernel
theorem dX12_takes_69 : decode cX12_takes 69 = .ok (.if_icmp .ne 7, 3) := by decide +kernel
theorem dX12_takes_72 : decode cX12_takes 72 = .ok (.iconst 1, 1) := by decide +kernel
theorem dX12_takes_73 : decode cX12_takes 73 = .ok (.goto 4, 3) := by decide +kernel
theorem dX12_takes_76 : decode cX12_takes 76 = .ok (.iconst 2, 1) := by decide +kernel
theorem dX12_takes_77 : decode cX12_takes 77 = .ok (.ireturn, 1) := by decide +kernel
theorem dX12_grows_0 : decode cX12_grows 0 = .ok (.iload_n 1, 1) := by decide +kernel
theorem dX12_grows_1 : decode cX12_grows 1 = .ok (.ifCond .eq 40, 3) := by decide +kernel
theorem dX12_grows_4 : decode cX12_grows 4 = .ok (.iload_n 1, 1) := by decide +kernel
theorem dX12_grows_5 : decode cX12_grows 5 = .ok (.iconst 3, 1) := by decide +kernel
theorem dX12_grows_6 : decode cX12_grows 6 = .ok (.if_icmp .eq 35, 3) := by decide +kernel
theorem dX12_grows_9 : decode cX12_grows 9 = .ok (.iload_n 1, 1) := by decide +kernel
theorem dX12_grows_10 : decode cX12_grows 10 = .ok (.bipush 6, 2) := by decide +kernel
theorem dX12_grows_12 : decode cX12_grows 12 = .ok (.if_icmp .eq 29, 3) := by decide +kernel
theorem dX12_grows_15 : decode cX12_grows 15 = .ok (.iload_n 1, 1) := by decide +kernel
theorem dX12_grows_16 : decode cX12_grows 16 = .ok (.bipush 8, 2) := by decide +kernel
theorem dX12_grows_18 : decode cX12_grows 18 = .ok (.if_icmp .eq 23, 3) := by decide +kernel
theorem dX12_grows_21 : decode cX12_grows 21 = .ok (.iload_n 1, 1) := by decide +kernel
theorem dX12_grows_22 : decode cX12_grows 22 = .ok (.bipush 7, 2) := by decide +kernel
theorem dX12_grows_24 : decode cX12_grows 24 = .ok (.if_icmp .ne 21, 3) := by decide +kernel
theorem dX12_grows_27 : decode cX12_grows 27 = .ok (.aload_n 0, 1) := by decide +kernel
theorem dX12_grows_28 : decode cX12_grows 28 = .ok (.getfield 19, 3) := by decide +kernel
theorem dX12_grows_31 : decode cX12_grows 31 = .ok (.aload_n 0, 1) := by decide +kernel
theorem dX12_grows_32 : decode cX12_grows 32 = .ok (.getfield 178, 3) := by decide +kernel
theorem dX12_grows_35 : decode cX12_grows 35 = .ok (.iconst 1, 1) := by decide +kernel
theorem dX12_grows_36 : decode cX12_grows 36 = .ok (.isub, 1) := by decide +kernel
theorem dX12_grows_37 : decode cX12_grows 37 = .ok (.iaload, 1) := by decide +kernel
theorem dX12_grows_38 : decode cX12_grows 38 = .ok (.ifCond .eq 7, 3) := by decide +kernel
theorem dX12_grows_41 : decode cX12_grows 41 = .ok (.iconst 1, 1) := by decide +kernel
theorem dX12_grows_42 : decode cX12_grows 42 = .ok (.goto 4, 3) := by decide +kernel
theorem dX12_grows_45 : decode cX12_grows 45 = .ok (.iconst 0, 1) := by decide +kernel
theorem dX12_grows_46 : decode cX12_grows 46 = .ok (.ireturn, 1) := by decide +kernel
theorem dX12_floor_0 : decode cX12_floor 0 = .ok (.lload_n 0, 1) := by decide +kernel
theorem dX12_floor_1 : decode cX12_floor 1 = .ok (.lload_n 2, 1) := by decide +kernel
theorem dX12_floor_2 : decode cX12_floor 2 = .ok (.ldiv, 1) := by decide +kernel
theorem dX12_floor_3 : decode cX12_floor 3 = .ok (.lstore 4, 2) := by decide +kernel
theorem dX12_floor_5 : decode cX12_floor 5 = .ok (.lload_n 0, 1) := by decide +kernel
theorem dX12_floor_6 : decode cX12_floor 6 = .ok (.lload_n 2, 1) := by decide +kernel
theorem dX12_floor_7 : decode cX12_floor 7 = .ok (.lrem, 1) := by decide +kernel
theorem dX12_floor_8 : decode cX12_floor 8 = .ok (.lconst 0, 1) := by decide +kernel
theorem dX12_floor_9 : decode cX12_floor 9 = .ok (.lcmp, 1) := by decide +kernel
theorem dX12_floor_10 : decode cX12_floor 10 = .ok (.ifCond .eq 35, 3) := by decide +kernel
theorem dX12_floor_13 : decode cX12_floor 13 = .ok (.lload_n 0, 1) := by decide +kernel
theorem dX12_floor_14 : decode cX12_floor 14 = .ok (.lconst 0, 1) := by decide +kernel
theorem dX12_floor_15 : decode cX12_floor 15 = .ok (.lcmp, 1) := by decide +kernel
theorem dX12_floor_16 : decode cX12_floor 16 = .ok (.ifCond .ge 7, 3) := by decide +kernel
theorem dX12_floor_19 : decode cX12_floor 19 = .ok (.iconst 1, 1) := by decide +kernel
theorem dX12_floor_20 : decode cX12_floor 20 = .ok (.goto 4, 3) := by decide +kernel
theorem dX12_floor_23 : decode cX12_floor 23 = .ok (.iconst 0, 1) := by decide +kernel
theorem dX12_floor_24 : decode cX12_floor 24 = .ok (.lload_n 2, 1) := by decide +kernel
theorem dX12_floor_25 : decode cX12_floor 25 = .ok (.lconst 0, 1) := by decide +kernel
theorem dX12_floor_26 : decode cX12_floor 26 = .ok (.lcmp, 1) := by decide +kernel
theorem dX12_floor_27 : decode cX12_floor 27 = .ok (.ifCond .ge 7, 3) := by decide +kernel
theorem dX12_floor_30 : decode cX12_floor 30 = .ok (.iconst 1, 1) := by decide +kernel
theorem dX12_floor_31 : decode cX12_floor 31 = .ok (.goto 4, 3) := by decide +kernel
theorem dX12_floor_34 : decode cX12_floor 34 = .ok (.iconst 0, 1) := by decide +kernel
theorem dX12_floor_35 : decode cX12_floor 35 = .ok (.if_icmp .eq 10, 3) := by decide +kernel
theorem dX12_floor_38 : decode cX12_floor 38 = .ok (.lload 4, 2) := by decide +kernel
theorem dX12_floor_40 : decode cX12_floor 40 = .ok (.lconst 1, 1) := by decide +kernel
theorem dX12_floor_41 : decode cX12_floor 41 = .ok (.lsub, 1) := by decide +kernel
theorem dX12_floor_42 : decode cX12_floor 42 = .ok (.goto 5, 3) := by decide +kernel
theorem dX12_floor_45 : decode cX12_floor 45 = .ok (.lload 4, 2) := by decide +kernel
theorem dX12_floor_47 : decode cX12_floor 47 = .ok (.lreturn, 1) := by decide +kernel
theorem dX12_plainStep_0 : decode cX12_plainStep 0 = .ok (.iload_n 1, 1) := by decide +kernel
theorem dX12_plainStep_1 : decode cX12_plainStep 1 = .ok (.invokestatic 181, 3) := by decide +kernel
theorem dX12_plainStep_4 : decode cX12_plainStep 4 = .ok (.istore_n 2, 1) := by decide +kernel
theorem dX12_plainStep_5 : decode cX12_plainStep 5 = .ok (.aload_n 0, 1) := by decide +kernel
theorem dX12_plainStep_6 : decode cX12_plainStep 6 = .ok (.getfield 185, 3) := by decide +kernel
theorem dX12_plainStep_9 : decode cX12_plainStep 9 = .ok (.sipush 1000, 3) := by decide +kernel
theorem dX12_plainStep_12 : decode cX12_plainStep 12 = .ok (.if_icmp .ne 10, 3) := by decide +kernel
theorem dX12_plainStep_15 : decode cX12_plainStep 15 = .ok (.aload_n 0, 1) := by decide +kernel
theorem dX12_plainStep_16 : decode cX12_plainStep 16 = .ok (.bipush 8, 2) := by decide +kernel
theorem dX12_plainStep_18 : decode cX12_plainStep 18 = .ok (.invokevirtual 188, 3) := by decide +kernel
theorem dX12_plainStep_21 : decode cX12_plainStep 21 = .ok (.ireturn, 1) := by decide +kernel
theorem dX12_plainStep_22 : decode cX12_plainStep 22 = .ok (.aload_n 0, 1) := by decide +kernel
theorem dX12_plainStep_23 : decode cX12_plainStep 23 = .ok (.getfield 178, 3) := by decide +kernel
theorem dX12_plainStep_26 : decode cX12_plainStep 26 = .ok (.iload_n 2, 1) := by decide +kernel
theorem dX12_plainStep_27 : decode cX12_plainStep 27 = .ok (.if_icmp .ge 9, 3) := by decide +kernel
theorem dX12_plainStep_30 : decode cX12_plainStep 30 = .ok (.aload_n 0, 1) := by decide +kernel
theorem dX12_plainStep_31 : decode cX12_plainStep 31 = .ok (.iconst 3, 1) := by decide +kernel
theorem dX12_plainStep_32 : decode cX12_plainStep 32 = .ok (.invokevirtual 188, 3) := by decide +kernel
theorem dX12_plainStep_35 : decode cX12_plainStep 35 = .ok (.ireturn, 1) := by decide +kernel
theorem dX12_plainStep_36 : decode cX12_plainStep 36 = .ok (.aload_n 0, 1) := by decide +kernel
theorem dX12_plainStep_37 : decode cX12_plainStep 37 = .ok (.getfield 178, 3) := by decide +kernel
theorem dX12_plainStep_40 : decode cX12_plainStep 40 = .ok (.ifCond .le 17, 3) := by decide +kernel
theorem dX12_plainStep_43 : decode cX12_plainStep 43 = .ok (.aload_n 0, 1) := by decide +kernel
theorem dX12_plainStep_44 : decode cX12_plainStep 44 = .ok (.getfield 19, 3) := by decide +kernel
theorem dX12_plainStep_47 : decode cX12_plainStep 47 = .ok (.aload_n 0, 1) := by decide +kernel
theorem dX12_plainStep_48 : decode cX12_plainStep 48 = .ok (.getfield 178, 3) := by decide +kernel
theorem dX12_plainStep_51 : decode cX12_plainStep 51 = .ok (.iconst 1, 1) := by decide +kernel
theorem dX12_plainStep_52 : decode cX12_plainStep 52 = .ok (.isub, 1) := by decide +kernel
theorem dX12_plainStep_53 : decode cX12_plainStep 53 = .ok (.iaload, 1) := by decide +kernel
theorem dX12_plainStep_54 : decode cX12_plainStep 54 = .ok (.goto 4, 3) := by decide +kernel
theorem dX12_plainStep_57 : decode cX12_plainStep 57 = .ok (.iconst 0, 1) := by decide +kernel
theorem dX12_plainStep_58 : decode cX12_plainStep 58 = .ok (.istore_n 3, 1) := by decide +kernel
theorem dX12_plainStep_59 : decode cX12_plainStep 59 = .ok (.aload_n 0, 1) := by decide +kernel
theorem dX12_plainStep_60 : decode cX12_plainStep 60 = .ok (.getfield 178, 3) := by decide +kernel
theorem dX12_plainStep_63 : decode cX12_plainStep 63 = .ok (.iconst 1, 1) := by decide +kernel
theorem dX12_plainStep_64 : decode cX12_plainStep 64 = .ok (.if_icmp .le 17, 3) := by decide +kernel
theorem dX12_plainStep_67 : decode cX12_plainStep 67 = .ok (.aload_n 0, 1) := by decide +kernel
theorem dX12_plainStep_68 : decode cX12_plainStep 68 = .ok (.getfield 19, 3) := by decide +kernel
theorem dX12_plainStep_71 : decode cX12_plainStep 71 = .ok (.aload_n 0, 1) := by decide +kernel
theorem dX12_plainStep_72 : decode cX12_plainStep 72 = .ok (.getfield 178, 3) := by decide +kernel
theorem dX12_plainStep_75 : decode cX12_plainStep 75 = .ok (.iconst 2, 1) := by decide +kernel
theorem dX12_plainStep_76 : decode cX12_plainStep 76 = .ok (.isub, 1) := by decide +kernel
theorem dX12_plainStep_77 : decode cX12_plainStep 77 = .ok (.iaload, 1) := by decide +kernel
theorem dX12_plainStep_78 : decode cX12_plainStep 78 = .ok (.goto 4, 3) := by decide +kernel
theorem dX12_plainStep_81 : decode cX12_plainStep 81 = .ok (.iconst 0, 1) := by decide +kernel
theorem dX12_plainStep_82 : decode cX12_plainStep 82 = .ok (.istore 4, 2) := by decide +kernel
theorem dX12_plainStep_84 : decode cX12_plainStep 84 = .ok (.aload_n 0, 1) := by decide +kernel
theorem dX12_plainStep_85 : decode cX12_plainStep 85 = .ok (.getfield 178, 3) := by decide +kernel
theorem dX12_plainStep_88 : decode cX12_plainStep 88 = .ok (.iconst 2, 1) := by decide +kernel
theorem dX12_plainStep_89 : decode cX12_plainStep 89 = .ok (.if_icmp .le 17, 3) := by decide +kernel
theorem dX12_plainStep_92 : decode cX12_plainStep 92 = .ok (.aload_n 0, 1) := by decide +kernel
theorem dX12_plainStep_93 : decode cX12_plainStep 93 = .ok (.getfield 19, 3) := by decide +kernel
theorem dX12_plainStep_96 : decode cX12_plainStep 96 = .ok (.aload_n 0, 1) := by decide +kernel
theorem dX12_plainStep_97 : decode cX12_plainStep 97 = .ok (.getfield 178, 3) := by decide +kernel
theorem dX12_plainStep_100 : decode cX12_plainStep 100 = .ok (.iconst 3, 1) := by decide +kernel
theorem dX12_plainStep_101 : decode cX12_plainStep 101 = .ok (.isub, 1) := by decide +kernel
theorem dX12_plainStep_102 : decode cX12_plainStep 102 = .ok (.iaload, 1) := by decide +kernel
theorem dX12_plainStep_103 : decode cX12_plainStep 103 = .ok (.goto 4, 3) := by decide +kernel
theorem dX12_plainStep_106 : decode cX12_plainStep 106 = .ok (.iconst 0, 1) := by decide +kernel
theorem dX12_plainStep_107 : decode cX12_plainStep 107 = .ok (.istore 5, 2) := by decide +kernel
theorem dX12_plainStep_109 : decode cX12_plainStep 109 = .ok (.iload_n 1, 1) := by decide +kernel
theorem dX12_plainStep_110 : decode cX12_plainStep 110 = .ok (.bipush 29, 2) := by decide +kernel
theorem dX12_plainStep_112 : decode cX12_plainStep 112 = .ok (.if_icmp .lt 26, 3) := by decide +kernel
theorem dX12_plainStep_115 : decode cX12_plainStep 115 = .ok (.iload_n 1, 1) := by decide +kernel
theorem dX12_plainStep_116 : decode cX12_plainStep 116 = .ok (.bipush 31, 2) := by decide +kernel
theorem dX12_plainStep_118 : decode cX12_plainStep 118 = .ok (.if_icmp .gt 20, 3) := by decide +kernel
theorem dX12_plainStep_121 : decode cX12_plainStep 121 = .ok (.iload_n 3, 1) := by decide +kernel
theorem dX12_plainStep_122 : decode cX12_plainStep 122 = .ok (.ifCond .lt 9, 3) := by decide +kernel
theorem dX12_plainStep_125 : decode cX12_plainStep 125 = .ok (.iload_n 3, 1) := by decide +kernel
theorem dX12_plainStep_126 : decode cX12_plainStep 126 = .ok (.bipush 15, 2) := by decide +kernel
theorem dX12_plainStep_128 : decode cX12_plainStep 128 = .ok (.if_icmp .le 10, 3) := by decide +kernel
theorem dX12_plainStep_131 : decode cX12_plainStep 131 = .ok (.aload_n 0, 1) := by decide +kernel
theorem dX12_plainStep_132 : decode cX12_plainStep 132 = .ok (.bipush 6, 2) := by decide +kernel
theorem dX12_plainStep_134 : decode cX12_plainStep 134 = .ok (.invokevirtual 188, 3) := by decide +kernel
theorem dX12_plainStep_137 : decode cX12_plainStep 137 = .ok (.ireturn, 1) := by decide +kernel
theorem dX12_plainStep_138 : decode cX12_plainStep 138 = .ok (.iload_n 1, 1) := by decide +kernel
theorem dX12_plainStep_139 : decode cX12_plainStep 139 = .ok (.bipush 12, 2) := by decide +kernel
theorem dX12_plainStep_141 : decode cX12_plainStep 141 = .ok (.if_icmp .eq 9, 3) := by decide +kernel
theorem dX12_plainStep_144 : decode cX12_plainStep 144 = .ok (.iload_n 1, 1) := by decide +kernel
theorem dX12_plainStep_145 : decode cX12_plainStep 145 = .ok (.bipush 13, 2) := by decide +kernel
theorem dX12_plainStep_147 : decode cX12_plainStep 147 = .ok (.if_icmp .ne 13, 3) := by decide +kernel
theorem dX12_plainStep_150 : decode cX12_plainStep 150 = .ok (.iload_n 3, 1) := by decide +kernel
theorem dX12_plainStep_151 : decode cX12_plainStep 151 = .ok (.ifCond .ne 9, 3) := by decide +kernel
theorem dX12_plainStep_154 : decode cX12_plainStep 154 = .ok (.aload_n 0, 1) := by decide +kernel
theorem dX12_plainStep_155 : decode cX12_plainStep 155 = .ok (.iconst 5, 1) := by decide +kernel
theorem dX12_plainStep_156 : decode cX12_plainStep 156 = .ok (.invokevirtual 188, 3) := by decide +kernel
theorem dX12_plainStep_159 : decode cX12_plainStep 159 = .ok (.ireturn, 1) := by decide +kernel
theorem dX12_plainStep_160 : decode cX12_plainStep 160 = .ok (.aload_n 0, 1) := by decide +kernel
theorem dX12_plainStep_161 : decode cX12_plainStep 161 = .ok (.iload_n 1, 1) := by decide +kernel
theorem dX12_plainStep_162 : decode cX12_plainStep 162 = .ok (.invokevirtual 191, 3) := by decide +kernel
theorem dX12_plainStep_165 : decode cX12_plainStep 165 = .ok (.ifCond .eq 18, 3) := by decide +kernel
theorem dX12_plainStep_168 : decode cX12_plainStep 168 = .ok (.aload_n 0, 1) := by decide +kernel
theorem dX12_plainStep_169 : decode cX12_plainStep 169 = .ok (.getfield 178, 3) := by decide +kernel
theorem dX12_plainStep_172 : decode cX12_plainStep 172 = .ok (.bipush 32, 2) := by decide +kernel
theorem dX12_plainStep_174 : decode cX12_plainStep 174 = .ok (.if_icmp .ne 9, 3) := by decide +kernel
theorem dX12_plainStep_177 : decode cX12_plainStep 177 = .ok (.aload_n 0, 1) := by decide +kernel
theorem dX12_plainStep_178 : decode cX12_plainStep 178 = .ok (.iconst 4, 1) := by decide +kernel
theorem dX12_plainStep_179 : decode cX12_plainStep 179 = .ok (.invokevirtual 188, 3) := by decide +kernel
theorem dX12_plainStep_182 : decode cX12_plainStep 182 = .ok (.ireturn, 1) := by decide +kernel
theorem dX12_plainStep_183 : decode cX12_plainStep 183 = .ok (.aload_n 0, 1) := by decide +kernel
theorem dX12_plainStep_184 : decode cX12_plainStep 184 = .ok (.aload_n 0, 1) := by decide +kernel
theorem dX12_plainStep_185 : decode cX12_plainStep 185 = .ok (.getfield 185, 3) := by decide +kernel
theorem dX12_plainStep_188 : decode cX12_plainStep 188 = .ok (.iconst 1, 1) := by decide +kernel
theorem dX12_plainStep_189 : decode cX12_plainStep 189 = .ok (.iadd, 1) := by decide +kernel
theorem dX12_plainStep_190 : decode cX12_plainStep 190 = .ok (.putfield 185, 3) := by decide +kernel
theorem dX12_plainStep_193 : decode cX12_plainStep 193 = .ok (.aload_n 0, 1) := by decide +kernel
theorem dX12_plainStep_194 : decode cX12_plainStep 194 = .ok (.getfield 178, 3) := by decide +kernel
theorem dX12_plainStep_197 : decode cX12_plainStep 197 = .ok (.istore 6, 2) := by decide +kernel
theorem dX12_plainStep_199 : decode cX12_plainStep 199 = .ok (.aload_n 0, 1) := by decide +kernel
theorem dX12_plainStep_200 : decode cX12_plainStep 200 = .ok (.aload_n 0, 1) := by decide +kernel
theorem dX12_plainStep_201 : decode cX12_plainStep 201 = .ok (.getfield 178, 3) := by decide +kernel
theorem dX12_plainStep_204 : decode cX12_plainStep 204 = .ok (.iload_n 2, 1) := by decide +kernel
theorem dX12_plainStep_205 : decode cX12_plainStep 205 = .ok (.isub, 1) := by decide +kernel
theorem dX12_plainStep_206 : decode cX12_plainStep 206 = .ok (.putfield 178, 3) := by decide +kernel
theorem dX12_plainStep_209 : decode cX12_plainStep 209 = .ok (.iload_n 1, 1) := by decide +kernel
theorem dX12_plainStep_210 : decode cX12_plainStep 210 = .ok (.tableswitch 366 0 32 #[146, 161, 164, 180, 203, 226, 235, 257, 276, 366, 366, 366, 366, 366, 366, 366, 366, 366, 366, 366, 366, 366, 366, 366, 366, 366, 366, 366, 366, 366, 286, 297, 315], 146) := by decide +kernel
theorem dX12_plainStep_356 : decode cX12_plainStep 356 = .ok (.aload_n 0, 1) := by decide +kernel
theorem dX12_plainStep_357 : decode cX12_plainStep 357 = .ok (.iload_n 3, 1) := by decide +kernel
theorem dX12_plainStep_358 : decode cX12_plainStep 358 = .ok (.i2l, 1) := by decide +kernel
theorem dX12_plainStep_359 : decode cX12_plainStep 359 = .ok (.invokevirtual 194, 3) := by decide +kernel
theorem dX12_plainStep_362 : decode cX12_plainStep 362 = .ok (.aload_n 0, 1) := by decide +kernel
theorem dX12_plainStep_363 : decode cX12_plainStep 363 = .ok (.iload_n 3, 1) := by decide +kernel
theorem dX12_plainStep_364 : decode cX12_plainStep 364 = .ok (.i2l, 1) := by decide +kernel
theorem dX12_plainStep_365 : decode cX12_plainStep 365 = .ok (.invokevirtual 194, 3) := by decide +kernel
theorem dX12_plainStep_368 : decode cX12_plainStep 368 = .ok (.goto 220, 3) := by decide +kernel
theorem dX12_plainStep_371 : decode cX12_plainStep 371 = .ok (.goto 217, 3) := by decide +kernel
theorem dX12_plainStep_374 : decode cX12_plainStep 374 = .ok (.aload_n 0, 1) := by decide +kernel
theorem dX12_plainStep_375 : decode cX12_plainStep 375 = .ok (.iload_n 3, 1) := by decide +kernel
theorem dX12_plainStep_376 : decode cX12_plainStep 376 = .ok (.i2l, 1) := by decide +kernel
theorem dX12_plainStep_377 : decode cX12_plainStep 377 = .ok (.invokevirtual 194, 3) := by decide +kernel
theorem dX12_plainStep_380 : decode cX12_plainStep 380 = .ok (.aload_n 0, 1) := by decide +kernel
theorem dX12_plainStep_381 : decode cX12_plainStep 381 = .ok (.iload 4, 2) := by decide +kernel
theorem dX12_plainStep_383 : decode cX12_plainStep 383 = .ok (.i2l, 1) := by decide +kernel
theorem dX12_plainStep_384 : decode cX12_plainStep 384 = .ok (.invokevirtual 194, 3) := by decide +kernel
theorem dX12_plainStep_387 : decode cX12_plainStep 387 = .ok (.goto 201, 3) := by decide +kernel
theorem dX12_plainStep_390 : decode cX12_plainStep 390 = .ok (.aload_n 0, 1) := by decide +kernel
theorem dX12_plainStep_391 : decode cX12_plainStep 391 = .ok (.iload 4, 2) := by decide +kernel
theorem dX12_plainStep_393 : decode cX12_plainStep 393 = .ok (.i2l, 1) := by decide +kernel
theorem dX12_plainStep_394 : decode cX12_plainStep 394 = .ok (.invokevirtual 194, 3) := by decide +kernel
theorem dX12_plainStep_397 : decode cX12_plainStep 397 = .ok (.aload_n 0, 1) := by decide +kernel
theorem dX12_plainStep_398 : decode cX12_plainStep 398 = .ok (.iload_n 3, 1) := by decide +kernel
theorem dX12_plainStep_399 : decode cX12_plainStep 399 = .ok (.i2l, 1) := by decide +kernel
theorem dX12_plainStep_400 : decode cX12_plainStep 400 = .ok (.invokevirtual 194, 3) := by decide +kernel
theorem dX12_plainStep_403 : decode cX12_plainStep 403 = .ok (.aload_n 0, 1) := by decide +kernel
theorem dX12_plainStep_404 : decode cX12_plainStep 404 = .ok (.iload 4, 2) := by decide +kernel
theorem dX12_plainStep_406 : decode cX12_plainStep 406 = .ok (.i2l, 1) := by decide +kernel
theorem dX12_plainStep_407 : decode cX12_plainStep 407 = .ok (.invokevirtual 194, 3) := by decide +kernel
theorem dX12_plainStep_410 : decode cX12_plainStep 410 = .ok (.goto 178, 3) := by decide +kernel
theorem dX12_plainStep_413 : decode cX12_plainStep 413 = .ok (.aload_n 0, 1) := by decide +kernel
theorem dX12_plainStep_414 : decode cX12_plainStep 414 = .ok (.iload 4, 2) := by decide +kernel
theorem dX12_plainStep_416 : decode cX12_plainStep 416 = .ok (.i2l, 1) := by decide +kernel
theorem dX12_plainStep_417 : decode cX12_plainStep 417 = .ok (.invokevirtual 194, 3) := by decide +kernel
theorem dX12_plainStep_420 : decode cX12_plainStep 420 = .ok (.aload_n 0, 1) := by decide +kernel
theorem dX12_plainStep_421 : decode cX12_plainStep 421 = .ok (.iload_n 3, 1) := by decide +kernel
theorem dX12_plainStep_422 : decode cX12_plainStep 422 = .ok (.i2l, 1) := by decide +kernel
theorem dX12_plainStep_423 : decode cX12_plainStep 423 = .ok (.invokevirtual 194, 3) := by decide +kernel
theorem dX12_plainStep_426 : decode cX12_plainStep 426 = .ok (.aload_n 0, 1) := by decide +kernel
theorem dX12_plainStep_427 : decode cX12_plainStep 427 = .ok (.iload 5, 2) := by decide +kernel
theorem dX12_plainStep_429 : decode cX12_plainStep 429 = .ok (.i2l, 1) := by decide +kernel
theorem dX12_plainStep_430 : decode cX12_plainStep 430 = .ok (.invokevirtual 194, 3) := by decide +kernel
theorem dX12_plainStep_433 : decode cX12_plainStep 433 = .ok (.goto 155, 3) := by decide +kernel
theorem dX12_plainStep_436 : decode cX12_plainStep 436 = .ok (.aload_n 0, 1) := by decide +kernel
theorem dX12_plainStep_437 : decode cX12_plainStep 437 = .ok (.iload_n 3, 1) := by decide +kernel
theorem dX12_plainStep_438 : decode cX12_plainStep 438 = .ok (.i2l, 1) := by decide +kernel
theorem dX12_plainStep_439 : decode cX12_plainStep 439 = .ok (.invokevirtual 194, 3) := by decide +kernel
theorem dX12_plainStep_442 : decode cX12_plainStep 442 = .ok (.goto 146, 3) := by decide +kernel
theorem dX12_plainStep_445 : decode cX12_plainStep 445 = .ok (.aload_n 0, 1) := by decide +kernel
theorem dX12_plainStep_446 : decode cX12_plainStep 446 = .ok (.iload_n 3, 1) := by decide +kernel
theorem dX12_plainStep_447 : decode cX12_plainStep 447 = .ok (.i2l, 1) := by decide +kernel
theorem dX12_plainStep_448 : decode cX12_plainStep 448 = .ok (.invokevirtual 194, 3) := by decide +kernel
theorem dX12_plainStep_451 : decode cX12_plainStep 451 = .ok (.aload_n 0, 1) := by decide +kernel
theorem dX12_plainStep_452 : decode cX12_plainStep 452 = .ok (.iload 4, 2) := by decide +kernel
theorem dX12_plainStep_454 : decode cX12_plainStep 454 = .ok (.i2l, 1) := by decide +kernel
theorem dX12_plainStep_455 : decode cX12_plainStep 455 = .ok (.invokevirtual 194, 3) := by decide +kernel
theorem dX12_plainStep_458 : decode cX12_plainStep 458 = .ok (.aload_n 0, 1) := by decide +kernel
theorem dX12_plainStep_459 : decode cX12_plainStep 459 = .ok (.iload_n 3, 1) := by decide +kernel
theorem dX12_plainStep_460 : decode cX12_plainStep 460 = .ok (.i2l, 1) := by decide +kernel
theorem dX12_plainStep_461 : decode cX12_plainStep 461 = .ok (.invokevirtual 194, 3) := by decide +kernel
theorem dX12_plainStep_464 : decode cX12_plainStep 464 = .ok (.goto 124, 3) := by decide +kernel
theorem dX12_plainStep_467 : decode cX12_plainStep 467 = .ok (.aload_n 0, 1) := by decide +kernel
theorem dX12_plainStep_468 : decode cX12_plainStep 468 = .ok (.iload_n 3, 1) := by decide +kernel
theorem dX12_plainStep_469 : decode cX12_plainStep 469 = .ok (.i2l, 1) := by decide +kernel
theorem dX12_plainStep_470 : decode cX12_plainStep 470 = .ok (.invokevirtual 194, 3) := by decide +kernel
theorem dX12_plainStep_473 : decode cX12_plainStep 473 = .ok (.iload_n 3, 1) := by decide +kernel
theorem dX12_plainStep_474 : decode cX12_plainStep 474 = .ok (.ifCond .eq 114, 3) := by decide +kernel
theorem dX12_plainStep_477 : decode cX12_plainStep 477 = .ok (.aload_n 0, 1) := by decide +kernel
theorem dX12_plainStep_478 : decode cX12_plainStep 478 = .ok (.iload_n 3, 1) := by decide +kernel
theorem dX12_plainStep_479 : decode cX12_plainStep 479 = .ok (.i2l, 1) := by decide +kernel
theorem dX12_plainStep_480 : decode cX12_plainStep 480 = .ok (.invokevirtual 194, 3) := by decide +kernel
theorem dX12_plainStep_483 : decode cX12_plainStep 483 = .ok (.goto 105, 3) := by decide +kernel
theorem dX12_plainStep_486 : decode cX12_plainStep 486 = .ok (.aload_n 0, 1) := by decide +kernel
theorem dX12_plainStep_487 : decode cX12_plainStep 487 = .ok (.iload 6, 2) := by decide +kernel
theorem dX12_plainStep_489 : decode cX12_plainStep 489 = .ok (.i2l, 1) := by decide +kernel
theorem dX12_plainStep_490 : decode cX12_plainStep 490 = .ok (.invokevirtual 194, 3) := by decide +kernel
theorem dX12_plainStep_493 : decode cX12_plainStep 493 = .ok (.goto 95, 3) := by decide +kernel
theorem dX12_plainStep_496 : decode cX12_plainStep 496 = .ok (.aload_n 0, 1) := by decide +kernel
theorem dX12_plainStep_497 : decode cX12_plainStep 497 = .ok (.getfield 22, 3) := by decide +kernel
theorem dX12_plainStep_500 : decode cX12_plainStep 500 = .ok (.iload_n 3, 1) := by decide +kernel
theorem dX12_plainStep_501 : decode cX12_plainStep 501 = .ok (.iload 4, 2) := by decide +kernel
theorem dX12_plainStep_503 : decode cX12_plainStep 503 = .ok (.iastore, 1) := by decide +kernel
theorem dX12_plainStep_504 : decode cX12_plainStep 504 = .ok (.goto 84, 3) := by decide +kernel
theorem dX12_plainStep_507 : decode cX12_plainStep 507 = .ok (.aload_n 0, 1) := by decide +kernel
theorem dX12_plainStep_508 : decode cX12_plainStep 508 = .ok (.getfield 22, 3) := by decide +kernel
theorem dX12_plainStep_511 : decode cX12_plainStep 511 = .ok (.iload_n 3, 1) := by decide +kernel
theorem dX12_plainStep_512 : decode cX12_plainStep 512 = .ok (.aload_n 0, 1) := by decide +kernel
theorem dX12_plainStep_513 : decode cX12_plainStep 513 = .ok (.getfield 22, 3) := by decide +kernel
theorem dX12_plainStep_516 : decode cX12_plainStep 516 = .ok (.iload_n 3, 1) := by decide +kernel
theorem dX12_plainStep_517 : decode cX12_plainStep 517 = .ok (.iaload, 1) := by decide +kernel
theorem dX12_plainStep_518 : decode cX12_plainStep 518 = .ok (.iload 4, 2) := by decide +kernel
theorem dX12_plainStep_520 : decode cX12_plainStep 520 = .ok (.iadd, 1) := by decide +kernel
theorem dX12_plainStep_521 : decode cX12_plainStep 521 = .ok (.iastore, 1) := by decide +kernel
theorem dX12_plainStep_522 : decode cX12_plainStep 522 = .ok (.goto 66, 3) := by decide +kernel
theorem dX12_plainStep_525 : decode cX12_plainStep 525 = .ok (.bipush 15, 2) := by decide +kernel
theorem dX12_plainStep_527 : decode cX12_plainStep 527 = .ok (.istore 7, 2) := by decide +kernel
theorem dX12_plainStep_529 : decode cX12_plainStep 529 = .ok (.iload 7, 2) := by decide +kernel
theorem dX12_plainStep_531 : decode cX12_plainStep 531 = .ok (.ifCond .le 25, 3) := by decide +kernel
theorem dX12_plainStep_534 : decode cX12_plainStep 534 = .ok (.aload_n 0, 1) := by decide +kernel
theorem dX12_plainStep_535 : decode cX12_plainStep 535 = .ok (.getfield 25, 3) := by decide +kernel
theorem dX12_plainStep_538 : decode cX12_plainStep 538 = .ok (.iload 7, 2) := by decide +kernel
theorem dX12_plainStep_540 : decode cX12_plainStep 540 = .ok (.aload_n 0, 1) := by decide +kernel
theorem dX12_plainStep_541 : decode cX12_plainStep 541 = .ok (.getfield 25, 3) := by decide +kernel
theorem dX12_plainStep_544 : decode cX12_plainStep 544 = .ok (.iload 7, 2) := by decide +kernel
theorem dX12_plainStep_546 : decode cX12_plainStep 546 = .ok (.iconst 1, 1) := by decide +kernel
theorem dX12_plainStep_547 : decode cX12_plainStep 547 = .ok (.isub, 1) := by decide +kernel
theorem dX12_plainStep_548 : decode cX12_plainStep 548 = .ok (.iaload, 1) := by decide +kernel
theorem dX12_plainStep_549 : decode cX12_plainStep 549 = .ok (.iastore, 1) := by decide +kernel
theorem dX12_plainStep_550 : decode cX12_plainStep 550 = .ok (.iinc 7 (-1), 3) := by decide +kernel
theorem dX12_plainStep_553 : decode cX12_plainStep 553 = .ok (.goto (-24), 3) := by decide +kernel
theorem dX12_plainStep_556 : decode cX12_plainStep 556 = .ok (.aload_n 0, 1) := by decide +kernel
theorem dX12_plainStep_557 : decode cX12_plainStep 557 = .ok (.getfield 25, 3) := by decide +kernel
theorem dX12_plainStep_560 : decode cX12_plainStep 560 = .ok (.iconst 0, 1) := by decide +kernel
theorem dX12_plainStep_561 : decode cX12_plainStep 561 = .ok (.iload_n 3, 1) := by decide +kernel
theorem dX12_plainStep_562 : decode cX12_plainStep 562 = .ok (.iastore, 1) := by decide +kernel
theorem dX12_plainStep_563 : decode cX12_plainStep 563 = .ok (.aload_n 0, 1) := by decide +kernel
theorem dX12_plainStep_564 : decode cX12_plainStep 564 = .ok (.aload_n 0, 1) := by decide +kernel
theorem dX12_plainStep_565 : decode cX12_plainStep 565 = .ok (.getfield 198, 3) := by decide +kernel
theorem dX12_plainStep_568 : decode cX12_plainStep 568 = .ok (.iconst 1, 1) := by decide +kernel
theorem dX12_plainStep_569 : decode cX12_plainStep 569 = .ok (.iadd, 1) := by decide +kernel
theorem dX12_plainStep_570 : decode cX12_plainStep 570 = .ok (.putfield 198, 3) := by decide +kernel
theorem dX12_plainStep_573 : decode cX12_plainStep 573 = .ok (.goto 15, 3) := by decide +kernel
theorem dX12_plainStep_576 : decode cX12_plainStep 576 = .ok (.aload_n 0, 1) := by decide +kernel
theorem dX12_plainStep_577 : decode cX12_plainStep 577 = .ok (.aload_n 0, 1) := by decide +kernel
theorem dX12_plainStep_578 : decode cX12_plainStep 578 = .ok (.iload_n 1, 1) := by decide +kernel
theorem dX12_plainStep_579 : decode cX12_plainStep 579 = .ok (.iload 4, 2) := by decide +kernel
theorem dX12_plainStep_581 : decode cX12_plainStep 581 = .ok (.iload_n 3, 1) := by decide +kernel
theorem dX12_plainStep_582 : decode cX12_plainStep 582 = .ok (.invokevirtual 201, 3) := by decide +kernel
theorem dX12_plainStep_585 : decode cX12_plainStep 585 = .ok (.invokevirtual 194, 3) := by decide +kernel
theorem dX12_plainStep_588 : decode cX12_plainStep 588 = .ok (.iconst 1, 1) := by decide +kernel
theorem dX12_plainStep_589 : decode cX12_plainStep 589 = .ok (.ireturn, 1) := by decide +kernel
theorem dX12_made_0 : decode cX12_made 0 = .ok (.iload_n 1, 1) := by decide +kernel
theorem dX12_made_1 : decode cX12_made 1 = .ok (.tableswitch 277 9 28 #[95, 101, 107, 113, 121, 135, 139, 152, 165, 178, 183, 188, 193, 198, 206, 214, 227, 240, 253, 265], 95) := by decide +kernel
theorem dX12_made_96 : decode cX12_made 96 = .ok (.iload_n 2, 1) := by decide +kernel
theorem dX12_made_97 : decode cX12_made 97 = .ok (.i2l, 1) := by decide +kernel
theorem dX12_made_98 : decode cX12_made 98 = .ok (.iload_n 3, 1) := by decide +kernel
theorem dX12_made_99 : decode cX12_made 99 = .ok (.i2l, 1) := by decide +kernel
theorem dX12_made_100 : decode cX12_made 100 = .ok (.ladd, 1) := by decide +kernel
theorem dX12_made_101 : decode cX12_made 101 = .ok (.lreturn, 1) := by decide +kernel
theorem dX12_made_102 : decode cX12_made 102 = .ok (.iload_n 2, 1) := by decide +kernel
theorem dX12_made_103 : decode cX12_made 103 = .ok (.i2l, 1) := by decide +kernel
theorem dX12_made_104 : decode cX12_made 104 = .ok (.iload_n 3, 1) := by decide +kernel
theorem dX12_made_105 : decode cX12_made 105 = .ok (.i2l, 1) := by decide +kernel
theorem dX12_made_106 : decode cX12_made 106 = .ok (.lsub, 1) := by decide +kernel
theorem dX12_made_107 : decode cX12_made 107 = .ok (.lreturn, 1) := by decide +kernel
theorem dX12_made_108 : decode cX12_made 108 = .ok (.iload_n 2, 1) := by decide +kernel
theorem dX12_made_109 : decode cX12_made 109 = .ok (.i2l, 1) := by decide +kernel
theorem dX12_made_110 : decode cX12_made 110 = .ok (.iload_n 3, 1) := by decide +kernel
theorem dX12_made_111 : decode cX12_made 111 = .ok (.i2l, 1) := by decide +kernel
theorem dX12_made_112 : decode cX12_made 112 = .ok (.lmul, 1) := by decide +kernel
theorem dX12_made_113 : decode cX12_made 113 = .ok (.lreturn, 1) := by decide +kernel
theorem dX12_made_114 : decode cX12_made 114 = .ok (.iload_n 2, 1) := by decide +kernel
theorem dX12_made_115 : decode cX12_made 115 = .ok (.i2l, 1) := by decide +kernel
theorem dX12_made_116 : decode cX12_made 116 = .ok (.iload_n 3, 1) := by decide +kernel
theorem dX12_made_117 : decode cX12_made 117 = .ok (.i2l, 1) := by decide +kernel
theorem dX12_made_118 : decode cX12_made 118 = .ok (.invokestatic 205, 3) := by decide +kernel
theorem dX12_made_121 : decode cX12_made 121 = .ok (.lreturn, 1) := by decide +kernel
theorem dX12_made_122 : decode cX12_made 122 = .ok (.iload_n 2, 1) := by decide +kernel
theorem dX12_made_123 : decode cX12_made 123 = .ok (.i2l, 1) := by decide +kernel
theorem dX12_made_124 : decode cX12_made 124 = .ok (.iload_n 3, 1) := by decide +kernel
theorem dX12_made_125 : decode cX12_made 125 = .ok (.i2l, 1) := by decide +kernel
theorem dX12_made_126 : decode cX12_made 126 = .ok (.iload_n 2, 1) := by decide +kernel
theorem dX12_made_127 : decode cX12_made 127 = .ok (.i2l, 1) := by decide +kernel
theorem dX12_made_128 : decode cX12_made 128 = .ok (.iload_n 3, 1) := by decide +kernel
theorem dX12_made_129 : decode cX12_made 129 = .ok (.i2l, 1) := by decide +kernel
theorem dX12_made_130 : decode cX12_made 130 = .ok (.invokestatic 205, 3) := by decide +kernel
theorem dX12_made_133 : decode cX12_made 133 = .ok (.lmul, 1) := by decide +kernel
theorem dX12_made_134 : decode cX12_made 134 = .ok (.lsub, 1) := by decide +kernel
theorem dX12_made_135 : decode cX12_made 135 = .ok (.lreturn, 1) := by decide +kernel
theorem dX12_made_136 : decode cX12_made 136 = .ok (.iload_n 3, 1) := by decide +kernel
theorem dX12_made_137 : decode cX12_made 137 = .ok (.i2l, 1) := by decide +kernel
theorem dX12_made_138 : decode cX12_made 138 = .ok (.lneg, 1) := by decide +kernel
theorem dX12_made_139 : decode cX12_made 139 = .ok (.lreturn, 1) := by decide +kernel
theorem dX12_made_140 : decode cX12_made 140 = .ok (.iload_n 3, 1) := by decide +kernel
theorem dX12_made_141 : decode cX12_made 141 = .ok (.ifCond .ge 9, 3) := by decide +kernel
theorem dX12_made_144 : decode cX12_made 144 = .ok (.iload_n 3, 1) := by decide +kernel
theorem dX12_made_145 : decode cX12_made 145 = .ok (.i2l, 1) := by decide +kernel
theorem dX12_made_146 : decode cX12_made 146 = .ok (.lneg, 1) := by decide +kernel
theorem dX12_made_147 : decode cX12_made 147 = .ok (.goto 5, 3) := by decide +kernel
theorem dX12_made_150 : decode cX12_made 150 = .ok (.iload_n 3, 1) := by decide +kernel
theorem dX12_made_151 : decode cX12_made 151 = .ok (.i2l, 1) := by decide +kernel
theorem dX12_made_152 : decode cX12_made 152 = .ok (.lreturn, 1) := by decide +kernel
theorem dX12_made_153 : decode cX12_made 153 = .ok (.iload_n 2, 1) := by decide +kernel
theorem dX12_made_154 : decode cX12_made 154 = .ok (.iload_n 3, 1) := by decide +kernel
theorem dX12_made_155 : decode cX12_made 155 = .ok (.if_icmp .ge 8, 3) := by decide +kernel
theorem dX12_made_158 : decode cX12_made 158 = .ok (.iload_n 2, 1) := by decide +kernel
theorem dX12_made_159 : decode cX12_made 159 = .ok (.i2l, 1) := by decide +kernel
theorem dX12_made_160 : decode cX12_made 160 = .ok (.goto 5, 3) := by decide +kernel
theorem dX12_made_163 : decode cX12_made 163 = .ok (.iload_n 3, 1) := by decide +kernel
theorem dX12_made_164 : decode cX12_made 164 = .ok (.i2l, 1) := by decide +kernel
theorem dX12_made_165 : decode cX12_made 165 = .ok (.lreturn, 1) := by decide +kernel
theorem dX12_made_166 : decode cX12_made 166 = .ok (.iload_n 2, 1) := by decide +kernel
theorem dX12_made_167 : decode cX12_made 167 = .ok (.iload_n 3, 1) := by decide +kernel
theorem dX12_made_168 : decode cX12_made 168 = .ok (.if_icmp .le 8, 3) := by decide +kernel
theorem dX12_made_171 : decode cX12_made 171 = .ok (.iload_n 2, 1) := by decide +kernel
theorem dX12_made_172 : decode cX12_made 172 = .ok (.i2l, 1) := by decide +kernel
theorem dX12_made_173 : decode cX12_made 173 = .ok (.goto 5, 3) := by decide +kernel
theorem dX12_made_176 : decode cX12_made 176 = .ok (.iload_n 3, 1) := by decide +kernel
theorem dX12_made_177 : decode cX12_made 177 = .ok (.i2l, 1) := by decide +kernel
theorem dX12_made_178 : decode cX12_made 178 = .ok (.lreturn, 1) := by decide +kernel
theorem dX12_made_179 : decode cX12_made 179 = .ok (.iload_n 2, 1) := by decide +kernel
theorem dX12_made_180 : decode cX12_made 180 = .ok (.iload_n 3, 1) := by decide +kernel
theorem dX12_made_181 : decode cX12_made 181 = .ok (.iand, 1) := by decide +kernel
theorem dX12_made_182 : decode cX12_made 182 = .ok (.i2l, 1) := by decide +kernel
theorem dX12_made_183 : decode cX12_made 183 = .ok (.lreturn, 1) := by decide +kernel
theorem dX12_made_184 : decode cX12_made 184 = .ok (.iload_n 2, 1) := by decide +kernel
theorem dX12_made_185 : decode cX12_made 185 = .ok (.iload_n 3, 1) := by decide +kernel
theorem dX12_made_186 : decode cX12_made 186 = .ok (.ior, 1) := by decide +kernel
theorem dX12_made_187 : decode cX12_made 187 = .ok (.i2l, 1) := by decide +kernel
theorem dX12_made_188 : decode cX12_made 188 = .ok (.lreturn, 1) := by decide +kernel
theorem dX12_made_189 : decode cX12_made 189 = .ok (.iload_n 2, 1) := by decide +kernel
theorem dX12_made_190 : decode cX12_made 190 = .ok (.iload_n 3, 1) := by decide +kernel
theorem dX12_made_191 : decode cX12_made 191 = .ok (.ixor, 1) := by decide +kernel
theorem dX12_made_192 : decode cX12_made 192 = .ok (.i2l, 1) := by decide +kernel
theorem dX12_made_193 : decode cX12_made 193 = .ok (.lreturn, 1) := by decide +kernel
theorem dX12_made_194 : decode cX12_made 194 = .ok (.iload_n 3, 1) := by decide +kernel
theorem dX12_made_195 : decode cX12_made 195 = .ok (.iconst (-1), 1) := by decide +kernel
theorem dX12_made_196 : decode cX12_made 196 = .ok (.ixor, 1) := by decide +kernel
theorem dX12_made_197 : decode cX12_made 197 = .ok (.i2l, 1) := by decide +kernel
theorem dX12_made_198 : decode cX12_made 198 = .ok (.lreturn, 1) := by decide +kernel
theorem dX12_made_199 : decode cX12_made 199 = .ok (.iload_n 2, 1) := by decide +kernel
theorem dX12_made_200 : decode cX12_made 200 = .ok (.iload_n 3, 1) := by decide +kernel
theorem dX12_made_201 : decode cX12_made 201 = .ok (.bipush 31, 2) := by decide +kernel
theorem dX12_made_203 : decode cX12_made 203 = .ok (.iand, 1) := by decide +kernel
theorem dX12_made_204 : decode cX12_made 204 = .ok (.ishl, 1) := by decide +kernel
theorem dX12_made_205 : decode cX12_made 205 = .ok (.i2l, 1) := by decide +kernel
theorem dX12_made_206 : decode cX12_made 206 = .ok (.lreturn, 1) := by decide +kernel
theorem dX12_made_207 : decode cX12_made 207 = .ok (.iload_n 2, 1) := by decide +kernel
theorem dX12_made_208 : decode cX12_made 208 = .ok (.iload_n 3, 1) := by decide +kernel
theorem dX12_made_209 : decode cX12_made 209 = .ok (.bipush 31, 2) := by decide +kernel
theorem dX12_made_211 : decode cX12_made 211 = .ok (.iand, 1) := by decide +kernel
theorem dX12_made_212 : decode cX12_made 212 = .ok (.iushr, 1) := by decide +kernel
theorem dX12_made_213 : decode cX12_made 213 = .ok (.i2l, 1) := by decide +kernel
theorem dX12_made_214 : decode cX12_made 214 = .ok (.lreturn, 1) := by decide +kernel
theorem dX12_made_215 : decode cX12_made 215 = .ok (.iload_n 2, 1) := by decide +kernel
theorem dX12_made_216 : decode cX12_made 216 = .ok (.iload_n 3, 1) := by decide +kernel
theorem dX12_made_217 : decode cX12_made 217 = .ok (.if_icmp .ne 9, 3) := by decide +kernel
theorem dX12_made_220 : decode cX12_made 220 = .ok (.ldc2_w 72, 3) := by decide +kernel
theorem dX12_made_223 : decode cX12_made 223 = .ok (.goto 4, 3) := by decide +kernel
theorem dX12_made_226 : decode cX12_made 226 = .ok (.lconst 0, 1) := by decide +kernel
theorem dX12_made_227 : decode cX12_made 227 = .ok (.lreturn, 1) := by decide +kernel
theorem dX12_made_228 : decode cX12_made 228 = .ok (.iload_n 2, 1) := by decide +kernel
theorem dX12_made_229 : decode cX12_made 229 = .ok (.iload_n 3, 1) := by decide +kernel
theorem dX12_made_230 : decode cX12_made 230 = .ok (.if_icmp .ge 9, 3) := by decide +kernel
theorem dX12_made_233 : decode cX12_made 233 = .ok (.ldc2_w 72, 3) := by decide +kernel
theorem dX12_made_236 : decode cX12_made 236 = .ok (.goto 4, 3) := by decide +kernel
theorem dX12_made_239 : decode cX12_made 239 = .ok (.lconst 0, 1) := by decide +kernel
theorem dX12_made_240 : decode cX12_made 240 = .ok (.lreturn, 1) := by decide +kernel
theorem dX12_made_241 : decode cX12_made 241 = .ok (.iload_n 2, 1) := by decide +kernel
theorem dX12_made_242 : decode cX12_made 242 = .ok (.iload_n 3, 1) := by decide +kernel
theorem dX12_made_243 : decode cX12_made 243 = .ok (.if_icmp .le 9, 3) := by decide +kernel
theorem dX12_made_246 : decode cX12_made 246 = .ok (.ldc2_w 72, 3) := by decide +kernel
theorem dX12_made_249 : decode cX12_made 249 = .ok (.goto 4, 3) := by decide +kernel
theorem dX12_made_252 : decode cX12_made 252 = .ok (.lconst 0, 1) := by decide +kernel
theorem dX12_made_253 : decode cX12_made 253 = .ok (.lreturn, 1) := by decide +kernel
theorem dX12_made_254 : decode cX12_made 254 = .ok (.iload_n 3, 1) := by decide +kernel
theorem dX12_made_255 : decode cX12_made 255 = .ok (.ifCond .ne 9, 3) := by decide +kernel
theorem dX12_made_258 : decode cX12_made 258 = .ok (.ldc2_w 72, 3) := by decide +kernel
theorem dX12_made_261 : decode cX12_made 261 = .ok (.goto 4, 3) := by decide +kernel
theorem dX12_made_264 : decode cX12_made 264 = .ok (.lconst 0, 1) := by decide +kernel
theorem dX12_made_265 : decode cX12_made 265 = .ok (.lreturn, 1) := by decide +kernel
theorem dX12_made_266 : decode cX12_made 266 = .ok (.iload_n 3, 1) := by decide +kernel
theorem dX12_made_267 : decode cX12_made 267 = .ok (.ifCond .ge 9, 3) := by decide +kernel
theorem dX12_made_270 : decode cX12_made 270 = .ok (.ldc2_w 72, 3) := by decide +kernel
theorem dX12_made_273 : decode cX12_made 273 = .ok (.goto 4, 3) := by decide +kernel
theorem dX12_made_276 : decode cX12_made 276 = .ok (.lconst 0, 1) := by decide +kernel
theorem dX12_made_277 : decode cX12_made 277 = .ok (.lreturn, 1) := by decide +kernel
theorem dX12_made_278 : decode cX12_made 278 = .ok (.aload_n 0, 1) := by decide +kernel
theorem dX12_made_279 : decode cX12_made 279 = .ok (.getfield 22, 3) := by decide +kernel
theorem dX12_made_282 : decode cX12_made 282 = .ok (.iload_n 3, 1) := by decide +kernel
theorem dX12_made_283 : decode cX12_made 283 = .ok (.iaload, 1) := by decide +kernel
theorem dX12_made_284 : decode cX12_made 284 = .ok (.i2l, 1) := by decide +kernel
theorem dX12_made_285 : decode cX12_made 285 = .ok (.lreturn, 1) := by decide +kernel
theorem dX12_numberStep_0 : decode cX12_numberStep 0 = .ok (.aload_n 0, 1) := by decide +kernel
theorem dX12_numberStep_1 : decode cX12_numberStep 1 = .ok (.getfield 185, 3) := by decide +kernel
theorem dX12_numberStep_4 : decode cX12_numberStep 4 = .ok (.sipush 1000, 3) := by decide +kernel
theorem dX12_numberStep_7 : decode cX12_numberStep 7 = .ok (.if_icmp .ne 10, 3) := by decide +kernel
theorem dX12_numberStep_10 : decode cX12_numberStep 10 = .ok (.aload_n 0, 1) := by decide +kernel
theorem dX12_numberStep_11 : decode cX12_numberStep 11 = .ok (.bipush 8, 2) := by decide +kernel
theorem dX12_numberStep_13 : decode cX12_numberStep 13 = .ok (.invokevirtual 188, 3) := by decide +kernel
theorem dX12_numberStep_16 : decode cX12_numberStep 16 = .ok (.ireturn, 1) := by decide +kernel
theorem dX12_numberStep_17 : decode cX12_numberStep 17 = .ok (.aload_n 0, 1) := by decide +kernel
theorem dX12_numberStep_18 : decode cX12_numberStep 18 = .ok (.getfield 178, 3) := by decide +kernel
theorem dX12_numberStep_21 : decode cX12_numberStep 21 = .ok (.bipush 32, 2) := by decide +kernel
theorem dX12_numberStep_23 : decode cX12_numberStep 23 = .ok (.if_icmp .ne 9, 3) := by decide +kernel
theorem dX12_numberStep_26 : decode cX12_numberStep 26 = .ok (.aload_n 0, 1) := by decide +kernel
theorem dX12_numberStep_27 : decode cX12_numberStep 27 = .ok (.iconst 4, 1) := by decide +kernel
theorem dX12_numberStep_28 : decode cX12_numberStep 28 = .ok (.invokevirtual 188, 3) := by decide +kernel
theorem dX12_numberStep_31 : decode cX12_numberStep 31 = .ok (.ireturn, 1) := by decide +kernel
theorem dX12_numberStep_32 : decode cX12_numberStep 32 = .ok (.aload_n 0, 1) := by decide +kernel
theorem dX12_numberStep_33 : decode cX12_numberStep 33 = .ok (.aload_n 0, 1) := by decide +kernel
theorem dX12_numberStep_34 : decode cX12_numberStep 34 = .ok (.getfield 185, 3) := by decide +kernel
theorem dX12_numberStep_37 : decode cX12_numberStep 37 = .ok (.iconst 1, 1) := by decide +kernel
theorem dX12_numberStep_38 : decode cX12_numberStep 38 = .ok (.iadd, 1) := by decide +kernel
theorem dX12_numberStep_39 : decode cX12_numberStep 39 = .ok (.putfield 185, 3) := by decide +kernel
theorem dX12_numberStep_42 : decode cX12_numberStep 42 = .ok (.aload_n 0, 1) := by decide +kernel
theorem dX12_numberStep_43 : decode cX12_numberStep 43 = .ok (.iload_n 1, 1) := by decide +kernel
theorem dX12_numberStep_44 : decode cX12_numberStep 44 = .ok (.i2l, 1) := by decide +kernel
theorem dX12_numberStep_45 : decode cX12_numberStep 45 = .ok (.invokevirtual 194, 3) := by decide +kernel
theorem dX12_numberStep_48 : decode cX12_numberStep 48 = .ok (.iconst 1, 1) := by decide +kernel
theorem dX12_numberStep_49 : decode cX12_numberStep 49 = .ok (.ireturn, 1) := by decide +kernel
theorem dX12_call_0 : decode cX12_call 0 = .ok (.aload_n 0, 1) := by decide +kernel
theorem dX12_call_1 : decode cX12_call 1 = .ok (.getfield 185, 3) := by decide +kernel
theorem dX12_call_4 : decode cX12_call 4 = .ok (.sipush 1000, 3) := by decide +kernel
theorem dX12_call_7 : decode cX12_call 7 = .ok (.if_icmp .ne 10, 3) := by decide +kernel
theorem dX12_call_10 : decode cX12_call 10 = .ok (.aload_n 0, 1) := by decide +kernel
theorem dX12_call_11 : decode cX12_call 11 = .ok (.bipush 8, 2) := by decide +kernel
theorem dX12_call_13 : decode cX12_call 13 = .ok (.invokevirtual 188, 3) := by decide +kernel
theorem dX12_call_16 : decode cX12_call 16 = .ok (.ireturn, 1) := by decide +kernel
theorem dX12_call_17 : decode cX12_call 17 = .ok (.aload_n 0, 1) := by decide +kernel
theorem dX12_call_18 : decode cX12_call 18 = .ok (.getfield 209, 3) := by decide +kernel
theorem dX12_call_21 : decode cX12_call 21 = .ok (.bipush 12, 2) := by decide +kernel
theorem dX12_call_23 : decode cX12_call 23 = .ok (.if_icmp .ne 10, 3) := by decide +kernel
theorem dX12_call_26 : decode cX12_call 26 = .ok (.aload_n 0, 1) := by decide +kernel
theorem dX12_call_27 : decode cX12_call 27 = .ok (.bipush 7, 2) := by decide +kernel
theorem dX12_call_29 : decode cX12_call 29 = .ok (.invokevirtual 188, 3) := by decide +kernel
theorem dX12_call_32 : decode cX12_call 32 = .ok (.ireturn, 1) := by decide +kernel
theorem dX12_call_33 : decode cX12_call 33 = .ok (.aload_n 0, 1) := by decide +kernel
theorem dX12_call_34 : decode cX12_call 34 = .ok (.aload_n 0, 1) := by decide +kernel
theorem dX12_call_35 : decode cX12_call 35 = .ok (.getfield 185, 3) := by decide +kernel
theorem dX12_call_38 : decode cX12_call 38 = .ok (.iconst 1, 1) := by decide +kernel
theorem dX12_call_39 : decode cX12_call 39 = .ok (.iadd, 1) := by decide +kernel
