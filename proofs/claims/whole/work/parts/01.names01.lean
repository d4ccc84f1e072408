theorem dX0_init_0 : decode cX0_init 0 = .ok (.aload_n 0, 1) := by decide +kernel
theorem dX0_init_1 : decode cX0_init 1 = .ok (.invokespecial 1, 3) := by decide +kernel
theorem dX0_init_4 : decode cX0_init 4 = .ok (.aload_n 0, 1) := by decide +kernel
theorem dX0_init_5 : decode cX0_init 5 = .ok (.sipush 200, 3) := by decide +kernel
theorem dX0_init_8 : decode cX0_init 8 = .ok (.newarray .int, 2) := by decide +kernel
theorem dX0_init_10 : decode cX0_init 10 = .ok (.putfield 9, 3) := by decide +kernel
theorem dX0_init_13 : decode cX0_init 13 = .ok (.aload_n 0, 1) := by decide +kernel
theorem dX0_init_14 : decode cX0_init 14 = .ok (.sipush 200, 3) := by decide +kernel
theorem dX0_init_17 : decode cX0_init 17 = .ok (.newarray .int, 2) := by decide +kernel
theorem dX0_init_19 : decode cX0_init 19 = .ok (.putfield 13, 3) := by decide +kernel
theorem dX0_init_22 : decode cX0_init 22 = .ok (.return_, 1) := by decide +kernel
theorem dX0_opAt_0 : decode cX0_opAt 0 = .ok (.iload_n 1, 1) := by decide +kernel
theorem dX0_opAt_1 : decode cX0_opAt 1 = .ok (.ifCond .lt 19, 3) := by decide +kernel
theorem dX0_opAt_4 : decode cX0_opAt 4 = .ok (.iload_n 1, 1) := by decide +kernel
theorem dX0_opAt_5 : decode cX0_opAt 5 = .ok (.sipush 200, 3) := by decide +kernel
theorem dX0_opAt_8 : decode cX0_opAt 8 = .ok (.if_icmp .ge 12, 3) := by decide +kernel
theorem dX0_opAt_11 : decode cX0_opAt 11 = .ok (.aload_n 0, 1) := by decide +kernel
theorem dX0_opAt_12 : decode cX0_opAt 12 = .ok (.getfield 9, 3) := by decide +kernel
theorem dX0_opAt_15 : decode cX0_opAt 15 = .ok (.iload_n 1, 1) := by decide +kernel
theorem dX0_opAt_16 : decode cX0_opAt 16 = .ok (.iaload, 1) := by decide +kernel
theorem dX0_opAt_17 : decode cX0_opAt 17 = .ok (.goto 5, 3) := by decide +kernel
theorem dX0_opAt_20 : decode cX0_opAt 20 = .ok (.bipush 52, 2) := by decide +kernel
theorem dX0_opAt_22 : decode cX0_opAt 22 = .ok (.ireturn, 1) := by decide +kernel
theorem dX0_argAt_0 : decode cX0_argAt 0 = .ok (.iload_n 1, 1) := by decide +kernel
theorem dX0_argAt_1 : decode cX0_argAt 1 = .ok (.ifCond .lt 19, 3) := by decide +kernel
theorem dX0_argAt_4 : decode cX0_argAt 4 = .ok (.iload_n 1, 1) := by decide +kernel
theorem dX0_argAt_5 : decode cX0_argAt 5 = .ok (.sipush 200, 3) := by decide +kernel
theorem dX0_argAt_8 : decode cX0_argAt 8 = .ok (.if_icmp .ge 12, 3) := by decide +kernel
theorem dX0_argAt_11 : decode cX0_argAt 11 = .ok (.aload_n 0, 1) := by decide +kernel
theorem dX0_argAt_12 : decode cX0_argAt 12 = .ok (.getfield 13, 3) := by decide +kernel
theorem dX0_argAt_15 : decode cX0_argAt 15 = .ok (.iload_n 1, 1) := by decide +kernel
theorem dX0_argAt_16 : decode cX0_argAt 16 = .ok (.iaload, 1) := by decide +kernel
theorem dX0_argAt_17 : decode cX0_argAt 17 = .ok (.goto 4, 3) := by decide +kernel
theorem dX0_argAt_20 : decode cX0_argAt 20 = .ok (.iconst 0, 1) := by decide +kernel
theorem dX0_argAt_21 : decode cX0_argAt 21 = .ok (.ireturn, 1) := by decide +kernel
theorem dX0_set_0 : decode cX0_set 0 = .ok (.iload_n 1, 1) := by decide +kernel
theorem dX0_set_1 : decode cX0_set 1 = .ok (.ifCond .lt 24, 3) := by decide +kernel
theorem dX0_set_4 : decode cX0_set 4 = .ok (.iload_n 1, 1) := by decide +kernel
theorem dX0_set_5 : decode cX0_set 5 = .ok (.sipush 200, 3) := by decide +kernel
theorem dX0_set_8 : decode cX0_set 8 = .ok (.if_icmp .ge 17, 3) := by decide +kernel
theorem dX0_set_11 : decode cX0_set 11 = .ok (.aload_n 0, 1) := by decide +kernel
theorem dX0_set_12 : decode cX0_set 12 = .ok (.getfield 9, 3) := by decide +kernel
theorem dX0_set_15 : decode cX0_set 15 = .ok (.iload_n 1, 1) := by decide +kernel
theorem dX0_set_16 : decode cX0_set 16 = .ok (.iload_n 2, 1) := by decide +kernel
theorem dX0_set_17 : decode cX0_set 17 = .ok (.iastore, 1) := by decide +kernel
theorem dX0_set_18 : decode cX0_set 18 = .ok (.aload_n 0, 1) := by decide +kernel
theorem dX0_set_19 : decode cX0_set 19 = .ok (.getfield 13, 3) := by decide +kernel
theorem dX0_set_22 : decode cX0_set 22 = .ok (.iload_n 1, 1) := by decide +kernel
theorem dX0_set_23 : decode cX0_set 23 = .ok (.iload_n 3, 1) := by decide +kernel
theorem dX0_set_24 : decode cX0_set 24 = .ok (.iastore, 1) := by decide +kernel
theorem dX0_set_25 : decode cX0_set 25 = .ok (.return_, 1) := by decide +kernel
theorem dX0_lead_0 : decode cX0_lead 0 = .ok (.iload_n 1, 1) := by decide +kernel
theorem dX0_lead_1 : decode cX0_lead 1 = .ok (.ifCond .lt 17, 3) := by decide +kernel
theorem dX0_lead_4 : decode cX0_lead 4 = .ok (.iload_n 1, 1) := by decide +kernel
theorem dX0_lead_5 : decode cX0_lead 5 = .ok (.sipush 200, 3) := by decide +kernel
theorem dX0_lead_8 : decode cX0_lead 8 = .ok (.if_icmp .ge 10, 3) := by decide +kernel
theorem dX0_lead_11 : decode cX0_lead 11 = .ok (.aload_n 0, 1) := by decide +kernel
theorem dX0_lead_12 : decode cX0_lead 12 = .ok (.getfield 13, 3) := by decide +kernel
theorem dX0_lead_15 : decode cX0_lead 15 = .ok (.iload_n 1, 1) := by decide +kernel
theorem dX0_lead_16 : decode cX0_lead 16 = .ok (.iload_n 2, 1) := by decide +kernel
theorem dX0_lead_17 : decode cX0_lead 17 = .ok (.iastore, 1) := by decide +kernel
theorem dX0_lead_18 : decode cX0_lead 18 = .ok (.return_, 1) := by decide +kernel
theorem dX1_init_0 : decode cX1_init 0 = .ok (.aload_n 0, 1) := by decide +kernel
theorem dX1_init_1 : decode cX1_init 1 = .ok (.invokespecial 3, 3) := by decide +kernel
theorem dX1_init_4 : decode cX1_init 4 = .ok (.aload_n 0, 1) := by decide +kernel
theorem dX1_init_5 : decode cX1_init 5 = .ok (.bipush 20, 2) := by decide +kernel
theorem dX1_init_7 : decode cX1_init 7 = .ok (.newarray .long, 2) := by decide +kernel
theorem dX1_init_9 : decode cX1_init 9 = .ok (.putfield 11, 3) := by decide +kernel
theorem dX1_init_12 : decode cX1_init 12 = .ok (.aload_n 0, 1) := by decide +kernel
theorem dX1_init_13 : decode cX1_init 13 = .ok (.bipush 21, 2) := by decide +kernel
theorem dX1_init_15 : decode cX1_init 15 = .ok (.newarray .int, 2) := by decide +kernel
theorem dX1_init_17 : decode cX1_init 17 = .ok (.putfield 15, 3) := by decide +kernel
theorem dX1_init_20 : decode cX1_init 20 = .ok (.aload_n 0, 1) := by decide +kernel
theorem dX1_init_21 : decode cX1_init 21 = .ok (.new 19, 3) := by decide +kernel
theorem dX1_init_24 : decode cX1_init 24 = .ok (.dup, 1) := by decide +kernel
theorem dX1_init_25 : decode cX1_init 25 = .ok (.invokespecial 21, 3) := by decide +kernel
theorem dX1_init_28 : decode cX1_init 28 = .ok (.putfield 22, 3) := by decide +kernel
theorem dX1_init_31 : decode cX1_init 31 = .ok (.aload_n 0, 1) := by decide +kernel
theorem dX1_init_32 : decode cX1_init 32 = .ok (.new 26, 3) := by decide +kernel
theorem dX1_init_35 : decode cX1_init 35 = .ok (.dup, 1) := by decide +kernel
theorem dX1_init_36 : decode cX1_init 36 = .ok (.aload_n 0, 1) := by decide +kernel
theorem dX1_init_37 : decode cX1_init 37 = .ok (.getfield 22, 3) := by decide +kernel
theorem dX1_init_40 : decode cX1_init 40 = .ok (.invokespecial 28, 3) := by decide +kernel
theorem dX1_init_43 : decode cX1_init 43 = .ok (.putfield 31, 3) := by decide +kernel
theorem dX1_init_46 : decode cX1_init 46 = .ok (.return_, 1) := by decide +kernel
theorem dX1_size_0 : decode cX1_size 0 = .ok (.aload_n 0, 1) := by decide +kernel
theorem dX1_size_1 : decode cX1_size 1 = .ok (.getfield 35, 3) := by decide +kernel
theorem dX1_size_4 : decode cX1_size 4 = .ok (.ireturn, 1) := by decide +kernel
theorem dX1_code_0 : decode cX1_code 0 = .ok (.aload_n 0, 1) := by decide +kernel
theorem dX1_code_1 : decode cX1_code 1 = .ok (.getfield 22, 3) := by decide +kernel
theorem dX1_code_4 : decode cX1_code 4 = .ok (.areturn, 1) := by decide +kernel
theorem dX1_has_0 : decode cX1_has 0 = .ok (.iload_n 1, 1) := by decide +kernel
theorem dX1_has_1 : decode cX1_has 1 = .ok (.ifCond .lt 15, 3) := by decide +kernel
theorem dX1_has_4 : decode cX1_has 4 = .ok (.iload_n 1, 1) := by decide +kernel
theorem dX1_has_5 : decode cX1_has 5 = .ok (.aload_n 0, 1) := by decide +kernel
theorem dX1_has_6 : decode cX1_has 6 = .ok (.getfield 35, 3) := by decide +kernel
theorem dX1_has_9 : decode cX1_has 9 = .ok (.if_icmp .ge 7, 3) := by decide +kernel
theorem dX1_has_12 : decode cX1_has 12 = .ok (.iconst 1, 1) := by decide +kernel
theorem dX1_has_13 : decode cX1_has 13 = .ok (.goto 4, 3) := by decide +kernel
theorem dX1_has_16 : decode cX1_has 16 = .ok (.iconst 0, 1) := by decide +kernel
theorem dX1_has_17 : decode cX1_has 17 = .ok (.ireturn, 1) := by decide +kernel
theorem dX1_keyOf_0 : decode cX1_keyOf 0 = .ok (.iload_n 1, 1) := by decide +kernel
theorem dX1_keyOf_1 : decode cX1_keyOf 1 = .ok (.ifCond .lt 21, 3) := by decide +kernel
theorem dX1_keyOf_4 : decode cX1_keyOf 4 = .ok (.iload_n 1, 1) := by decide +kernel
theorem dX1_keyOf_5 : decode cX1_keyOf 5 = .ok (.aload_n 0, 1) := by decide +kernel
theorem dX1_keyOf_6 : decode cX1_keyOf 6 = .ok (.getfield 11, 3) := by decide +kernel
theorem dX1_keyOf_9 : decode cX1_keyOf 9 = .ok (.arraylength, 1) := by decide +kernel
theorem dX1_keyOf_10 : decode cX1_keyOf 10 = .ok (.if_icmp .ge 12, 3) := by decide +kernel
theorem dX1_keyOf_13 : decode cX1_keyOf 13 = .ok (.aload_n 0, 1) := by decide +kernel
theorem dX1_keyOf_14 : decode cX1_keyOf 14 = .ok (.getfield 11, 3) := by decide +kernel
theorem dX1_keyOf_17 : decode cX1_keyOf 17 = .ok (.iload_n 1, 1) := by decide +kernel
theorem dX1_keyOf_18 : decode cX1_keyOf 18 = .ok (.laload, 1) := by decide +kernel
theorem dX1_keyOf_19 : decode cX1_keyOf 19 = .ok (.goto 4, 3) := by decide +kernel
theorem dX1_keyOf_22 : decode cX1_keyOf 22 = .ok (.lconst 0, 1) := by decide +kernel
theorem dX1_keyOf_23 : decode cX1_keyOf 23 = .ok (.lreturn, 1) := by decide +kernel
theorem dX1_startOf_0 : decode cX1_startOf 0 = .ok (.iload_n 1, 1) := by decide +kernel
theorem dX1_startOf_1 : decode cX1_startOf 1 = .ok (.ifCond .lt 21, 3) := by decide +kernel
theorem dX1_startOf_4 : decode cX1_startOf 4 = .ok (.iload_n 1, 1) := by decide +kernel
theorem dX1_startOf_5 : decode cX1_startOf 5 = .ok (.aload_n 0, 1) := by decide +kernel
theorem dX1_startOf_6 : decode cX1_startOf 6 = .ok (.getfield 15, 3) := by decide +kernel
theorem dX1_startOf_9 : decode cX1_startOf 9 = .ok (.arraylength, 1) := by decide +kernel
theorem dX1_startOf_10 : decode cX1_startOf 10 = .ok (.if_icmp .ge 12, 3) := by decide +kernel
theorem dX1_startOf_13 : decode cX1_startOf 13 = .ok (.aload_n 0, 1) := by decide +kernel
theorem dX1_startOf_14 : decode cX1_startOf 14 = .ok (.getfield 15, 3) := by decide +kernel
theorem dX1_startOf_17 : decode cX1_startOf 17 = .ok (.iload_n 1, 1) := by decide +kernel
theorem dX1_startOf_18 : decode cX1_startOf 18 = .ok (.iaload, 1) := by decide +kernel
theorem dX1_startOf_19 : decode cX1_startOf 19 = .ok (.goto 4, 3) := by decide +kernel
theorem dX1_startOf_22 : decode cX1_startOf 22 = .ok (.iconst 0, 1) := by decide +kernel
theorem dX1_startOf_23 : decode cX1_startOf 23 = .ok (.ireturn, 1) := by decide +kernel
theorem dX1_endOf_0 : decode cX1_endOf 0 = .ok (.iload_n 1, 1) := by decide +kernel
theorem dX1_endOf_1 : decode cX1_endOf 1 = .ok (.ifCond .lt 25, 3) := by decide +kernel
theorem dX1_endOf_4 : decode cX1_endOf 4 = .ok (.iload_n 1, 1) := by decide +kernel
theorem dX1_endOf_5 : decode cX1_endOf 5 = .ok (.aload_n 0, 1) := by decide +kernel
theorem dX1_endOf_6 : decode cX1_endOf 6 = .ok (.getfield 15, 3) := by decide +kernel
theorem dX1_endOf_9 : decode cX1_endOf 9 = .ok (.arraylength, 1) := by decide +kernel
theorem dX1_endOf_10 : decode cX1_endOf 10 = .ok (.iconst 1, 1) := by decide +kernel
theorem dX1_endOf_11 : decode cX1_endOf 11 = .ok (.isub, 1) := by decide +kernel
theorem dX1_endOf_12 : decode cX1_endOf 12 = .ok (.if_icmp .ge 14, 3) := by decide +kernel
theorem dX1_endOf_15 : decode cX1_endOf 15 = .ok (.aload_n 0, 1) := by decide +kernel
theorem dX1_endOf_16 : decode cX1_endOf 16 = .ok (.getfield 15, 3) := by decide +kernel
theorem dX1_endOf_19 : decode cX1_endOf 19 = .ok (.iload_n 1, 1) := by decide +kernel
theorem dX1_endOf_20 : decode cX1_endOf 20 = .ok (.iconst 1, 1) := by decide +kernel
theorem dX1_endOf_21 : decode cX1_endOf 21 = .ok (.iadd, 1) := by decide +kernel
theorem dX1_endOf_22 : decode cX1_endOf 22 = .ok (.iaload, 1) := by decide +kernel
theorem dX1_endOf_23 : decode cX1_endOf 23 = .ok (.goto 4, 3) := by decide +kernel
theorem dX1_endOf_26 : decode cX1_endOf 26 = .ok (.iconst 0, 1) := by decide +kernel
theorem dX1_endOf_27 : decode cX1_endOf 27 = .ok (.ireturn, 1) := by decide +kernel
theorem dX1_find_0 : decode cX1_find 0 = .ok (.aload_n 0, 1) := by decide +kernel
theorem dX1_find_1 : decode cX1_find 1 = .ok (.getfield 35, 3) := by decide +kernel
theorem dX1_find_4 : decode cX1_find 4 = .ok (.iconst 1, 1) := by decide +kernel
theorem dX1_find_5 : decode cX1_find 5 = .ok (.isub, 1) := by decide +kernel
theorem dX1_find_6 : decode cX1_find 6 = .ok (.istore_n 3, 1) := by decide +kernel
theorem dX1_find_7 : decode cX1_find 7 = .ok (.iload_n 3, 1) := by decide +kernel
theorem dX1_find_8 : decode cX1_find 8 = .ok (.ifCond .lt 21, 3) := by decide +kernel
theorem dX1_find_11 : decode cX1_find 11 = .ok (.aload_n 0, 1) := by decide +kernel
theorem dX1_find_12 : decode cX1_find 12 = .ok (.iload_n 3, 1) := by decide +kernel
theorem dX1_find_13 : decode cX1_find 13 = .ok (.invokevirtual 39, 3) := by decide +kernel
theorem dX1_find_16 : decode cX1_find 16 = .ok (.lload_n 1, 1) := by decide +kernel
theorem dX1_find_17 : decode cX1_find 17 = .ok (.lcmp, 1) := by decide +kernel
theorem dX1_find_18 : decode cX1_find 18 = .ok (.ifCond .ne 5, 3) := by decide +kernel
theorem dX1_find_21 : decode cX1_find 21 = .ok (.iload_n 3, 1) := by decide +kernel
theorem dX1_find_22 : decode cX1_find 22 = .ok (.ireturn, 1) := by decide +kernel
theorem dX1_find_23 : decode cX1_find 23 = .ok (.iinc 3 (-1), 3) := by decide +kernel
theorem dX1_find_26 : decode cX1_find 26 = .ok (.goto (-19), 3) := by decide +kernel
theorem dX1_find_29 : decode cX1_find 29 = .ok (.iconst (-1), 1) := by decide +kernel
theorem dX1_find_30 : decode cX1_find 30 = .ok (.ireturn, 1) := by decide +kernel
theorem dX1_forgetFrom_0 : decode cX1_forgetFrom 0 = .ok (.iload_n 1, 1) := by decide +kernel
theorem dX1_forgetFrom_1 : decode cX1_forgetFrom 1 = .ok (.ifCond .lt 16, 3) := by decide +kernel
theorem dX1_forgetFrom_4 : decode cX1_forgetFrom 4 = .ok (.iload_n 1, 1) := by decide +kernel
theorem dX1_forgetFrom_5 : decode cX1_forgetFrom 5 = .ok (.aload_n 0, 1) := by decide +kernel
theorem dX1_forgetFrom_6 : decode cX1_forgetFrom 6 = .ok (.getfield 35, 3) := by decide +kernel
theorem dX1_forgetFrom_9 : decode cX1_forgetFrom 9 = .ok (.if_icmp .ge 8, 3) := by decide +kernel
theorem dX1_forgetFrom_12 : decode cX1_forgetFrom 12 = .ok (.aload_n 0, 1) := by decide +kernel
theorem dX1_forgetFrom_13 : decode cX1_forgetFrom 13 = .ok (.iload_n 1, 1) := by decide +kernel
theorem dX1_forgetFrom_14 : decode cX1_forgetFrom 14 = .ok (.putfield 35, 3) := by decide +kernel
theorem dX1_forgetFrom_17 : decode cX1_forgetFrom 17 = .ok (.return_, 1) := by decide +kernel
theorem dX1_openBody_0 : decode cX1_openBody 0 = .ok (.aload_n 0, 1) := by decide +kernel
theorem dX1_openBody_1 : decode cX1_openBody 1 = .ok (.iconst 0, 1) := by decide +kernel
theorem dX1_openBody_2 : decode cX1_openBody 2 = .ok (.putfield 43, 3) := by decide +kernel
theorem dX1_openBody_5 : decode cX1_openBody 5 = .ok (.return_, 1) := by decide +kernel
theorem dX1_addWord_0 : decode cX1_addWord 0 = .ok (.aload_n 0, 1) := by decide +kernel
theorem dX1_addWord_1 : decode cX1_addWord 1 = .ok (.getfield 22, 3) := by decide +kernel
theorem dX1_addWord_4 : decode cX1_addWord 4 = .ok (.aload_n 0, 1) := by decide +kernel
theorem dX1_addWord_5 : decode cX1_addWord 5 = .ok (.aload_n 0, 1) := by decide +kernel
theorem dX1_addWord_6 : decode cX1_addWord 6 = .ok (.getfield 35, 3) := by decide +kernel
theorem dX1_addWord_9 : decode cX1_addWord 9 = .ok (.invokevirtual 46, 3) := by decide +kernel
theorem dX1_addWord_12 : decode cX1_addWord 12 = .ok (.aload_n 0, 1) := by decide +kernel
theorem dX1_addWord_13 : decode cX1_addWord 13 = .ok (.getfield 43, 3) := by decide +kernel
theorem dX1_addWord_16 : decode cX1_addWord 16 = .ok (.iadd, 1) := by decide +kernel
theorem dX1_addWord_17 : decode cX1_addWord 17 = .ok (.iload_n 1, 1) := by decide +kernel
theorem dX1_addWord_18 : decode cX1_addWord 18 = .ok (.iload_n 2, 1) := by decide +kernel
theorem dX1_addWord_19 : decode cX1_addWord 19 = .ok (.invokevirtual 50, 3) := by decide +kernel
theorem dX1_addWord_22 : decode cX1_addWord 22 = .ok (.aload_n 0, 1) := by decide +kernel
theorem dX1_addWord_23 : decode cX1_addWord 23 = .ok (.dup, 1) := by decide +kernel
theorem dX1_addWord_24 : decode cX1_addWord 24 = .ok (.getfield 43, 3) := by decide +kernel
theorem dX1_addWord_27 : decode cX1_addWord 27 = .ok (.iconst 1, 1) := by decide +kernel
theorem dX1_addWord_28 : decode cX1_addWord 28 = .ok (.iadd, 1) := by decide +kernel
theorem dX1_addWord_29 : decode cX1_addWord 29 = .ok (.putfield 43, 3) := by decide +kernel
theorem dX1_addWord_32 : decode cX1_addWord 32 = .ok (.return_, 1) := by decide +kernel
theorem dX1_closeBody_0 : decode cX1_closeBody 0 = .ok (.aload_n 0, 1) := by decide +kernel
theorem dX1_closeBody_1 : decode cX1_closeBody 1 = .ok (.aload_n 0, 1) := by decide +kernel
theorem dX1_closeBody_2 : decode cX1_closeBody 2 = .ok (.getfield 35, 3) := by decide +kernel
theorem dX1_closeBody_5 : decode cX1_closeBody 5 = .ok (.invokevirtual 46, 3) := by decide +kernel
theorem dX1_closeBody_8 : decode cX1_closeBody 8 = .ok (.istore_n 3, 1) := by decide +kernel
theorem dX1_closeBody_9 : decode cX1_closeBody 9 = .ok (.iload_n 3, 1) := by decide +kernel
theorem dX1_closeBody_10 : decode cX1_closeBody 10 = .ok (.aload_n 0, 1) := by decide +kernel
theorem dX1_closeBody_11 : decode cX1_closeBody 11 = .ok (.getfield 43, 3) := by decide +kernel
theorem dX1_closeBody_14 : decode cX1_closeBody 14 = .ok (.iadd, 1) := by decide +kernel
theorem dX1_closeBody_15 : decode cX1_closeBody 15 = .ok (.istore 4, 2) := by decide +kernel
theorem dX1_closeBody_17 : decode cX1_closeBody 17 = .ok (.aload_n 0, 1) := by decide +kernel
theorem dX1_closeBody_18 : decode cX1_closeBody 18 = .ok (.getfield 35, 3) := by decide +kernel
theorem dX1_closeBody_21 : decode cX1_closeBody 21 = .ok (.ifCond .lt 20, 3) := by decide +kernel
theorem dX1_closeBody_24 : decode cX1_closeBody 24 = .ok (.aload_n 0, 1) := by decide +kernel
theorem dX1_closeBody_25 : decode cX1_closeBody 25 = .ok (.getfield 35, 3) := by decide +kernel
theorem dX1_closeBody_28 : decode cX1_closeBody 28 = .ok (.bipush 20, 2) := by decide +kernel
theorem dX1_closeBody_30 : decode cX1_closeBody 30 = .ok (.if_icmp .ge 11, 3) := by decide +kernel
theorem dX1_closeBody_33 : decode cX1_closeBody 33 = .ok (.iload 4, 2) := by decide +kernel
theorem dX1_closeBody_35 : decode cX1_closeBody 35 = .ok (.sipush 200, 3) := by decide +kernel
theorem dX1_closeBody_38 : decode cX1_closeBody 38 = .ok (.if_icmp .le 6, 3) := by decide +kernel
theorem dX1_closeBody_41 : decode cX1_closeBody 41 = .ok (.bipush 9, 2) := by decide +kernel
theorem dX1_closeBody_43 : decode cX1_closeBody 43 = .ok (.ireturn, 1) := by decide +kernel
theorem dX1_closeBody_44 : decode cX1_closeBody 44 = .ok (.aload_n 0, 1) := by decide +kernel
theorem dX1_closeBody_45 : decode cX1_closeBody 45 = .ok (.getfield 31, 3) := by decide +kernel
theorem dX1_closeBody_48 : decode cX1_closeBody 48 = .ok (.iload_n 3, 1) := by decide +kernel
theorem dX1_closeBody_49 : decode cX1_closeBody 49 = .ok (.iload 4, 2) := by decide +kernel
theorem dX1_closeBody_51 : decode cX1_closeBody 51 = .ok (.invokevirtual 54, 3) := by decide +kernel
theorem dX1_closeBody_54 : decode cX1_closeBody 54 = .ok (.ifCond .ne 5, 3) := by decide +kernel
theorem dX1_closeBody_57 : decode cX1_closeBody 57 = .ok (.iconst 2, 1) := by decide +kernel
theorem dX1_closeBody_58 : decode cX1_closeBody 58 = .ok (.ireturn, 1) := by decide +kernel
theorem dX1_closeBody_59 : decode cX1_closeBody 59 = .ok (.aload_n 0, 1) := by decide +kernel
theorem dX1_closeBody_60 : decode cX1_closeBody 60 = .ok (.getfield 11, 3) := by decide +kernel
theorem dX1_closeBody_63 : decode cX1_closeBody 63 = .ok (.aload_n 0, 1) := by decide +kernel
theorem dX1_closeBody_64 : decode cX1_closeBody 64 = .ok (.getfield 35, 3) := by decide +kernel
theorem dX1_closeBody_67 : decode cX1_closeBody 67 = .ok (.lload_n 1, 1) := by decide +kernel
theorem dX1_closeBody_68 : decode cX1_closeBody 68 = .ok (.lastore, 1) := by decide +kernel
theorem dX1_closeBody_69 : decode cX1_closeBody 69 = .ok (.aload_n 0, 1) := by decide +kernel
theorem dX1_closeBody_70 : decode cX1_closeBody 70 = .ok (.dup, 1) := by decide +kernel
theorem dX1_closeBody_71 : decode cX1_closeBody 71 = .ok (.getfield 35, 3) := by decide +kernel
theorem dX1_closeBody_74 : decode cX1_closeBody 74 = .ok (.iconst 1, 1) := by decide +kernel
theorem dX1_closeBody_75 : decode cX1_closeBody 75 = .ok (.iadd, 1) := by decide +kernel
theorem dX1_closeBody_76 : decode cX1_closeBody 76 = .ok (.putfield 35, 3) := by decide +kernel
theorem dX1_closeBody_79 : decode cX1_closeBody 79 = .ok (.aload_n 0, 1) := by decide +kernel
theorem dX1_closeBody_80 : decode cX1_closeBody 80 = .ok (.getfield 15, 3) := by decide +kernel
theorem dX1_closeBody_83 : decode cX1_closeBody 83 = .ok (.aload_n 0, 1) := by decide +kernel
theorem dX1_closeBody_84 : decode cX1_closeBody 84 = .ok (.getfield 35, 3) := by decide +kernel
theorem dX1_closeBody_87 : decode cX1_closeBody 87 = .ok (.iload 4, 2) := by decide +kernel
theorem dX1_closeBody_89 : decode cX1_closeBody 89 = .ok (.iastore, 1) := by decide +kernel
theorem dX1_closeBody_90 : decode cX1_closeBody 90 = .ok (.iconst 0, 1) := by decide +kernel
theorem dX1_closeBody_91 : decode cX1_closeBody 91 = .ok (.ireturn, 1) := by decide +kernel
theorem dX2_init_0 : decode cX2_init 0 = .ok (.aload_n 0, 1) := by decide +kernel
theorem dX2_init_1 : decode cX2_init 1 = .ok (.invokespecial 1, 3) := by decide +kernel
theorem dX2_init_4 : decode cX2_init 4 = .ok (.aload_n 0, 1) := by decide +kernel
theorem dX2_init_5 : decode cX2_init 5 = .ok (.aload_n 1, 1) := by decide +kernel
theorem dX2_init_6 : decode cX2_init 6 = .ok (.putfield 7, 3) := by decide +kernel
theorem dX2_init_9 : decode cX2_init 9 = .ok (.aload_n 0, 1) := by decide +kernel
theorem dX2_init_10 : decode cX2_init 10 = .ok (.bipush 8, 2) := by decide +kernel
theorem dX2_init_12 : decode cX2_init 12 = .ok (.newarray .int, 2) := by decide +kernel
theorem dX2_init_14 : decode cX2_init 14 = .ok (.putfield 13, 3) := by decide +kernel
theorem dX2_init_17 : decode cX2_init 17 = .ok (.return_, 1) := by decide +kernel
theorem dX2_link_0 : decode cX2_link 0 = .ok (.aload_n 0, 1) := by decide +kernel
theorem dX2_link_1 : decode cX2_link 1 = .ok (.iconst 0, 1) := by decide +kernel
theorem dX2_link_2 : decode cX2_link 2 = .ok (.putfield 17, 3) := by decide +kernel
theorem dX2_link_5 : decode cX2_link 5 = .ok (.aload_n 0, 1) := by decide +kernel
theorem dX2_link_6 : decode cX2_link 6 = .ok (.iconst 0, 1) := by decide +kernel
theorem dX2_link_7 : decode cX2_link 7 = .ok (.putfield 21, 3) := by decide +kernel
theorem dX2_link_10 : decode cX2_link 10 = .ok (.iconst 1, 1) := by decide +kernel
theorem dX2_link_11 : decode cX2_link 11 = .ok (.istore_n 3, 1) := by decide +kernel
theorem dX2_link_12 : decode cX2_link 12 = .ok (.iload_n 1, 1) := by decide +kernel
theorem dX2_link_13 : decode cX2_link 13 = .ok (.istore 4, 2) := by decide +kernel
theorem dX2_link_15 : decode cX2_link 15 = .ok (.iload 4, 2) := by decide +kernel
theorem dX2_link_17 : decode cX2_link 17 = .ok (.iload_n 2, 1) := by decide +kernel
theorem dX2_link_18 : decode cX2_link 18 = .ok (.if_icmp .ge 136, 3) := by decide +kernel
theorem dX2_link_21 : decode cX2_link 21 = .ok (.iload_n 3, 1) := by decide +kernel
theorem dX2_link_22 : decode cX2_link 22 = .ok (.ifCond .eq 132, 3) := by decide +kernel
theorem dX2_link_25 : decode cX2_link 25 = .ok (.aload_n 0, 1) := by decide +kernel
theorem dX2_link_26 : decode cX2_link 26 = .ok (.getfield 7, 3) := by decide +kernel
theorem dX2_link_29 : decode cX2_link 29 = .ok (.iload 4, 2) := by decide +kernel
theorem dX2_link_31 : decode cX2_link 31 = .ok (.invokevirtual 24, 3) := by decide +kernel
theorem dX2_link_34 : decode cX2_link 34 = .ok (.istore 5, 2) := by decide +kernel
theorem dX2_link_36 : decode cX2_link 36 = .ok (.iload 5, 2) := by decide +kernel
theorem dX2_link_38 : decode cX2_link 38 = .ok (.tableswitch 110 33 43 #[58, 70, 82, 58, 82, 82, 70, 82, 58, 82, 94], 58) := by decide +kernel
theorem dX2_link_96 : decode cX2_link 96 = .ok (.aload_n 0, 1) := by decide +kernel
theorem dX2_link_97 : decode cX2_link 97 = .ok (.iload 4, 2) := by decide +kernel
theorem dX2_link_99 : decode cX2_link 99 = .ok (.iload 5, 2) := by decide +kernel
theorem dX2_link_101 : decode cX2_link 101 = .ok (.invokevirtual 30, 3) := by decide +kernel
theorem dX2_link_104 : decode cX2_link 104 = .ok (.istore_n 3, 1) := by decide +kernel
theorem dX2_link_105 : decode cX2_link 105 = .ok (.goto 43, 3) := by decide +kernel
theorem dX2_link_108 : decode cX2_link 108 = .ok (.aload_n 0, 1) := by decide +kernel
theorem dX2_link_109 : decode cX2_link 109 = .ok (.iload 4, 2) := by decide +kernel
theorem dX2_link_111 : decode cX2_link 111 = .ok (.iload 5, 2) := by decide +kernel
theorem dX2_link_113 : decode cX2_link 113 = .ok (.invokevirtual 34, 3) := by decide +kernel
theorem dX2_link_116 : decode cX2_link 116 = .ok (.istore_n 3, 1) := by decide +kernel
theorem dX2_link_117 : decode cX2_link 117 = .ok (.goto 31, 3) := by decide +kernel
theorem dX2_link_120 : decode cX2_link 120 = .ok (.aload_n 0, 1) := by decide +kernel
theorem dX2_link_121 : decode cX2_link 121 = .ok (.iload 4, 2) := by decide +kernel
theorem dX2_link_123 : decode cX2_link 123 = .ok (.iload 5, 2) := by decide +kernel
theorem dX2_link_125 : decode cX2_link 125 = .ok (.invokevirtual 37, 3) := by decide +kernel
theorem dX2_link_128 : decode cX2_link 128 = .ok (.istore_n 3, 1) := by decide +kernel
theorem dX2_link_129 : decode cX2_link 129 = .ok (.goto 19, 3) := by decide +kernel
theorem dX2_link_132 : decode cX2_link 132 = .ok (.aload_n 0, 1) := by decide +kernel
theorem dX2_link_133 : decode cX2_link 133 = .ok (.getfield 21, 3) := by decide +kernel
theorem dX2_link_136 : decode cX2_link 136 = .ok (.ifCond .le 7, 3) := by decide +kernel
theorem dX2_link_139 : decode cX2_link 139 = .ok (.iconst 1, 1) := by decide +kernel
theorem dX2_link_140 : decode cX2_link 140 = .ok (.goto 4, 3) := by decide +kernel
theorem dX2_link_143 : decode cX2_link 143 = .ok (.iconst 0, 1) := by decide +kernel
theorem dX2_link_144 : decode cX2_link 144 = .ok (.istore_n 3, 1) := by decide +kernel
theorem dX2_link_145 : decode cX2_link 145 = .ok (.goto 3, 3) := by decide +kernel
theorem dX2_link_148 : decode cX2_link 148 = .ok (.iinc 4 1, 3) := by decide +kernel
theorem dX2_link_151 : decode cX2_link 151 = .ok (.goto (-136), 3) := by decide +kernel
theorem dX2_link_154 : decode cX2_link 154 = .ok (.iload_n 3, 1) := by decide +kernel
theorem dX2_link_155 : decode cX2_link 155 = .ok (.ifCond .eq 14, 3) := by decide +kernel
theorem dX2_link_158 : decode cX2_link 158 = .ok (.aload_n 0, 1) := by decide +kernel
theorem dX2_link_159 : decode cX2_link 159 = .ok (.getfield 17, 3) := by decide +kernel
theorem dX2_link_162 : decode cX2_link 162 = .ok (.ifCond .ne 7, 3) := by decide +kernel
theorem dX2_link_165 : decode cX2_link 165 = .ok (.iconst 1, 1) := by decide +kernel
theorem dX2_link_166 : decode cX2_link 166 = .ok (.goto 4, 3) := by decide +kernel
theorem dX2_link_169 : decode cX2_link 169 = .ok (.iconst 0, 1) := by decide +kernel
theorem dX2_link_170 : decode cX2_link 170 = .ok (.ireturn, 1) := by decide +kernel
theorem dX2_begin_0 : decode cX2_begin 0 = .ok (.aload_n 0, 1) := by decide +kernel
theorem dX2_begin_1 : decode cX2_begin 1 = .ok (.getfield 17, 3) := by decide +kernel
theorem dX2_begin_4 : decode cX2_begin 4 = .ok (.ifCond .lt 15, 3) := by decide +kernel
theorem dX2_begin_7 : decode cX2_begin 7 = .ok (.aload_n 0, 1) := by decide +kernel
theorem dX2_begin_8 : decode cX2_begin 8 = .ok (.getfield 17, 3) := by decide +kernel
theorem dX2_begin_11 : decode cX2_begin 11 = .ok (.aload_n 0, 1) := by decide +kernel
theorem dX2_begin_12 : decode cX2_begin 12 = .ok (.getfield 13, 3) := by decide +kernel
theorem dX2_begin_15 : decode cX2_begin 15 = .ok (.arraylength, 1) := by decide +kernel
theorem dX2_begin_16 : decode cX2_begin 16 = .ok (.if_icmp .lt 5, 3) := by decide +kernel
theorem dX2_begin_19 : decode cX2_begin 19 = .ok (.iconst 0, 1) := by decide +kernel
theorem dX2_begin_20 : decode cX2_begin 20 = .ok (.ireturn, 1) := by decide +kernel
theorem dX2_begin_21 : decode cX2_begin 21 = .ok (.aload_n 0, 1) := by decide +kernel
theorem dX2_begin_22 : decode cX2_begin 22 = .ok (.getfield 13, 3) := by decide +kernel
theorem dX2_begin_25 : decode cX2_begin 25 = .ok (.aload_n 0, 1) := by decide +kernel
theorem dX2_begin_26 : decode cX2_begin 26 = .ok (.getfield 17, 3) := by decide +kernel
theorem dX2_begin_29 : decode cX2_begin 29 = .ok (.iload_n 1, 1) := by decide +kernel
theorem dX2_begin_30 : decode cX2_begin 30 = .ok (.iastore, 1) := by decide +kernel
theorem dX2_begin_31 : decode cX2_begin 31 = .ok (.aload_n 0, 1) := by decide +kernel
theorem dX2_begin_32 : decode cX2_begin 32 = .ok (.dup, 1) := by decide +kernel
theorem dX2_begin_33 : decode cX2_begin 33 = .ok (.getfield 17, 3) := by decide +kernel
theorem dX2_begin_36 : decode cX2_begin 36 = .ok (.iconst 1, 1) := by decide +kernel
theorem dX2_begin_37 : decode cX2_begin 37 = .ok (.iadd, 1) := by decide +kernel
theorem dX2_begin_38 : decode cX2_begin 38 = .ok (.putfield 17, 3) := by decide +kernel
theorem dX2_begin_41 : decode cX2_begin 41 = .ok (.iload_n 2, 1) := by decide +kernel
theorem dX2_begin_42 : decode cX2_begin 42 = .ok (.bipush 41, 2) := by decide +kernel
theorem dX2_begin_44 : decode cX2_begin 44 = .ok (.if_icmp .ne 13, 3) := by decide +kernel
theorem dX2_begin_47 : decode cX2_begin 47 = .ok (.aload_n 0, 1) := by decide +kernel
theorem dX2_begin_48 : decode cX2_begin 48 = .ok (.dup, 1) := by decide +kernel
theorem dX2_begin_49 : decode cX2_begin 49 = .ok (.getfield 21, 3) := by decide +kernel
theorem dX2_begin_52 : decode cX2_begin 52 = .ok (.iconst 1, 1) := by decide +kernel
theorem dX2_begin_53 : decode cX2_begin 53 = .ok (.iadd, 1) := by decide +kernel
theorem dX2_begin_54 : decode cX2_begin 54 = .ok (.putfield 21, 3) := by decide +kernel
theorem dX2_begin_57 : decode cX2_begin 57 = .ok (.iconst 1, 1) := by decide +kernel
theorem dX2_begin_58 : decode cX2_begin 58 = .ok (.ireturn, 1) := by decide +kernel
theorem dX2_divide_0 : decode cX2_divide 0 = .ok (.aload_n 0, 1) := by decide +kernel
theorem dX2_divide_1 : decode cX2_divide 1 = .ok (.getfield 17, 3) := by decide +kernel
theorem dX2_divide_4 : decode cX2_divide 4 = .ok (.ifCond .le 15, 3) := by decide +kernel
theorem dX2_divide_7 : decode cX2_divide 7 = .ok (.aload_n 0, 1) := by decide +kernel
theorem dX2_divide_8 : decode cX2_divide 8 = .ok (.getfield 17, 3) := by decide +kernel
theorem dX2_divide_11 : decode cX2_divide 11 = .ok (.aload_n 0, 1) := by decide +kernel
theorem dX2_divide_12 : decode cX2_divide 12 = .ok (.getfield 13, 3) := by decide +kernel
theorem dX2_divide_15 : decode cX2_divide 15 = .ok (.arraylength, 1) := by decide +kernel
theorem dX2_divide_16 : decode cX2_divide 16 = .ok (.if_icmp .le 5, 3) := by decide +kernel
theorem dX2_divide_19 : decode cX2_divide 19 = .ok (.iconst 0, 1) := by decide +kernel
theorem dX2_divide_20 : decode cX2_divide 20 = .ok (.ireturn, 1) := by decide +kernel
theorem dX2_divide_21 : decode cX2_divide 21 = .ok (.aload_n 0, 1) := by decide +kernel
theorem dX2_divide_22 : decode cX2_divide 22 = .ok (.getfield 13, 3) := by decide +kernel
theorem dX2_divide_25 : decode cX2_divide 25 = .ok (.aload_n 0, 1) := by decide +kernel
theorem dX2_divide_26 : decode cX2_divide 26 = .ok (.getfield 17, 3) := by decide +kernel
theorem dX2_divide_29 : decode cX2_divide 29 = .ok (.iconst 1, 1) := by decide +kernel
theorem dX2_divide_30 : decode cX2_divide 30 = .ok (.isub, 1) := by decide +kernel
theorem dX2_divide_31 : decode cX2_divide 31 = .ok (.iaload, 1) := by decide +kernel
theorem dX2_divide_32 : decode cX2_divide 32 = .ok (.istore_n 3, 1) := by decide +kernel
theorem dX2_divide_33 : decode cX2_divide 33 = .ok (.aload_n 0, 1) := by decide +kernel
theorem dX2_divide_34 : decode cX2_divide 34 = .ok (.getfield 13, 3) := by decide +kernel
theorem dX2_divide_37 : decode cX2_divide 37 = .ok (.aload_n 0, 1) := by decide +kernel
theorem dX2_divide_38 : decode cX2_divide 38 = .ok (.getfield 17, 3) := by decide +kernel
theorem dX2_divide_41 : decode cX2_divide 41 = .ok (.iconst 1, 1) := by decide +kernel
theorem dX2_divide_42 : decode cX2_divide 42 = .ok (.isub, 1) := by decide +kernel
theorem dX2_divide_43 : decode cX2_divide 43 = .ok (.iload_n 1, 1) := by decide +kernel
theorem dX2_divide_44 : decode cX2_divide 44 = .ok (.iastore, 1) := by decide +kernel
theorem dX2_divide_45 : decode cX2_divide 45 = .ok (.iload_n 2, 1) := by decide +kernel
theorem dX2_divide_46 : decode cX2_divide 46 = .ok (.bipush 34, 2) := by decide +kernel
theorem dX2_divide_48 : decode cX2_divide 48 = .ok (.if_icmp .ne 33, 3) := by decide +kernel
theorem dX2_divide_51 : decode cX2_divide 51 = .ok (.aload_n 0, 1) := by decide +kernel
theorem dX2_divide_52 : decode cX2_divide 52 = .ok (.getfield 7, 3) := by decide +kernel
theorem dX2_divide_55 : decode cX2_divide 55 = .ok (.iload_n 3, 1) := by decide +kernel
theorem dX2_divide_56 : decode cX2_divide 56 = .ok (.iload_n 1, 1) := by decide +kernel
theorem dX2_divide_57 : decode cX2_divide 57 = .ok (.iconst 1, 1) := by decide +kernel
theorem dX2_divide_58 : decode cX2_divide 58 = .ok (.iadd, 1) := by decide +kernel
theorem dX2_divide_59 : decode cX2_divide 59 = .ok (.invokevirtual 42, 3) := by decide +kernel
theorem dX2_divide_62 : decode cX2_divide 62 = .ok (.aload_n 0, 1) := by decide +kernel
theorem dX2_divide_63 : decode cX2_divide 63 = .ok (.getfield 7, 3) := by decide +kernel
theorem dX2_divide_66 : decode cX2_divide 66 = .ok (.iload_n 3, 1) := by decide +kernel
theorem dX2_divide_67 : decode cX2_divide 67 = .ok (.invokevirtual 24, 3) := by decide +kernel
theorem dX2_divide_70 : decode cX2_divide 70 = .ok (.bipush 33, 2) := by decide +kernel
theorem dX2_divide_72 : decode cX2_divide 72 = .ok (.if_icmp .ne 7, 3) := by decide +kernel
theorem dX2_divide_75 : decode cX2_divide 75 = .ok (.iconst 1, 1) := by decide +kernel
theorem dX2_divide_76 : decode cX2_divide 76 = .ok (.goto 4, 3) := by decide +kernel
theorem dX2_divide_79 : decode cX2_divide 79 = .ok (.iconst 0, 1) := by decide +kernel
theorem dX2_divide_80 : decode cX2_divide 80 = .ok (.ireturn, 1) := by decide +kernel
theorem dX2_divide_81 : decode cX2_divide 81 = .ok (.aload_n 0, 1) := by decide +kernel
theorem dX2_divide_82 : decode cX2_divide 82 = .ok (.getfield 7, 3) := by decide +kernel
theorem dX2_divide_85 : decode cX2_divide 85 = .ok (.iload_n 1, 1) := by decide +kernel
theorem dX2_divide_86 : decode cX2_divide 86 = .ok (.iload_n 3, 1) := by decide +kernel
theorem dX2_divide_87 : decode cX2_divide 87 = .ok (.iconst 1, 1) := by decide +kernel
theorem dX2_divide_88 : decode cX2_divide 88 = .ok (.iadd, 1) := by decide +kernel
theorem dX2_divide_89 : decode cX2_divide 89 = .ok (.invokevirtual 42, 3) := by decide +kernel
theorem dX2_divide_92 : decode cX2_divide 92 = .ok (.aload_n 0, 1) := by decide +kernel
theorem dX2_divide_93 : decode cX2_divide 93 = .ok (.getfield 7, 3) := by decide +kernel
theorem dX2_divide_96 : decode cX2_divide 96 = .ok (.iload_n 3, 1) := by decide +kernel
theorem dX2_divide_97 : decode cX2_divide 97 = .ok (.invokevirtual 24, 3) := by decide +kernel
theorem dX2_divide_100 : decode cX2_divide 100 = .ok (.bipush 36, 2) := by decide +kernel
theorem dX2_divide_102 : decode cX2_divide 102 = .ok (.if_icmp .ne 7, 3) := by decide +kernel
theorem dX2_divide_105 : decode cX2_divide 105 = .ok (.iconst 1, 1) := by decide +kernel
theorem dX2_divide_106 : decode cX2_divide 106 = .ok (.goto 4, 3) := by decide +kernel
theorem dX2_divide_109 : decode cX2_divide 109 = .ok (.iconst 0, 1) := by decide +kernel
theorem dX2_divide_110 : decode cX2_divide 110 = .ok (.ireturn, 1) := by decide +kernel
theorem dX2_close_0 : decode cX2_close 0 = .ok (.aload_n 0, 1) := by decide +kernel
theorem dX2_close_1 : decode cX2_close 1 = .ok (.getfield 17, 3) := by decide +kernel
theorem dX2_close_4 : decode cX2_close 4 = .ok (.ifCond .le 15, 3) := by decide +kernel
theorem dX2_close_7 : decode cX2_close 7 = .ok (.aload_n 0, 1) := by decide +kernel
theorem dX2_close_8 : decode cX2_close 8 = .ok (.getfield 17, 3) := by decide +kernel
theorem dX2_close_11 : decode cX2_close 11 = .ok (.aload_n 0, 1) := by decide +kernel
theorem dX2_close_12 : decode cX2_close 12 = .ok (.getfield 13, 3) := by decide +kernel
theorem dX2_close_15 : decode cX2_close 15 = .ok (.arraylength, 1) := by decide +kernel
theorem dX2_close_16 : decode cX2_close 16 = .ok (.if_icmp .le 5, 3) := by decide +kernel
theorem dX2_close_19 : decode cX2_close 19 = .ok (.iconst 0, 1) := by decide +kernel
theorem dX2_close_20 : decode cX2_close 20 = .ok (.ireturn, 1) := by decide +kernel
theorem dX2_close_21 : decode cX2_close 21 = .ok (.aload_n 0, 1) := by decide +kernel
theorem dX2_close_22 : decode cX2_close 22 = .ok (.dup, 1) := by decide +kernel
theorem dX2_close_23 : decode cX2_close 23 = .ok (.getfield 17, 3) := by decide +kernel
theorem dX2_close_26 : decode cX2_close 26 = .ok (.iconst 1, 1) := by decide +kernel
theorem dX2_close_27 : decode cX2_close 27 = .ok (.isub, 1) := by decide +kernel
theorem dX2_close_28 : decode cX2_close 28 = .ok (.putfield 17, 3) := by decide +kernel
theorem dX2_close_31 : decode cX2_close 31 = .ok (.aload_n 0, 1) := by decide +kernel
theorem dX2_close_32 : decode cX2_close 32 = .ok (.getfield 13, 3) := by decide +kernel
theorem dX2_close_35 : decode cX2_close 35 = .ok (.aload_n 0, 1) := by decide +kernel
theorem dX2_close_36 : decode cX2_close 36 = .ok (.getfield 17, 3) := by decide +kernel
theorem dX2_close_39 : decode cX2_close 39 = .ok (.iaload, 1) := by decide +kernel
theorem dX2_close_40 : decode cX2_close 40 = .ok (.istore_n 3, 1) := by decide +kernel
theorem dX2_close_41 : decode cX2_close 41 = .ok (.aload_n 0, 1) := by decide +kernel
theorem dX2_close_42 : decode cX2_close 42 = .ok (.getfield 7, 3) := by decide +kernel
theorem dX2_close_45 : decode cX2_close 45 = .ok (.iload_n 3, 1) := by decide +kernel
theorem dX2_close_46 : decode cX2_close 46 = .ok (.invokevirtual 24, 3) := by decide +kernel
theorem dX2_close_49 : decode cX2_close 49 = .ok (.istore 4, 2) := by decide +kernel
theorem dX2_close_51 : decode cX2_close 51 = .ok (.iload_n 2, 1) := by decide +kernel
theorem dX2_close_52 : decode cX2_close 52 = .ok (.lookupswitch 141 #[(35, 36), (40, 67), (42, 107)], 36) := by decide +kernel
theorem dX2_close_88 : decode cX2_close 88 = .ok (.aload_n 0, 1) := by decide +kernel
theorem dX2_close_89 : decode cX2_close 89 = .ok (.getfield 7, 3) := by decide +kernel
theorem dX2_close_92 : decode cX2_close 92 = .ok (.iload_n 3, 1) := by decide +kernel
theorem dX2_close_93 : decode cX2_close 93 = .ok (.iload_n 1, 1) := by decide +kernel
theorem dX2_close_94 : decode cX2_close 94 = .ok (.iconst 1, 1) := by decide +kernel
theorem dX2_close_95 : decode cX2_close 95 = .ok (.iadd, 1) := by decide +kernel
theorem dX2_close_96 : decode cX2_close 96 = .ok (.invokevirtual 42, 3) := by decide +kernel
theorem dX2_close_99 : decode cX2_close 99 = .ok (.iload 4, 2) := by decide +kernel
theorem dX2_close_101 : decode cX2_close 101 = .ok (.bipush 33, 2) := by decide +kernel
theorem dX2_close_103 : decode cX2_close 103 = .ok (.if_icmp .eq 10, 3) := by decide +kernel
theorem dX2_close_106 : decode cX2_close 106 = .ok (.iload 4, 2) := by decide +kernel
theorem dX2_close_108 : decode cX2_close 108 = .ok (.bipush 34, 2) := by decide +kernel
theorem dX2_close_110 : decode cX2_close 110 = .ok (.if_icmp .ne 7, 3) := by decide +kernel
theorem dX2_close_113 : decode cX2_close 113 = .ok (.iconst 1, 1) := by decide +kernel
theorem dX2_close_114 : decode cX2_close 114 = .ok (.goto 4, 3) := by decide +kernel
theorem dX2_close_117 : decode cX2_close 117 = .ok (.iconst 0, 1) := by decide +kernel
theorem dX2_close_118 : decode cX2_close 118 = .ok (.ireturn, 1) := by decide +kernel
theorem dX2_close_119 : decode cX2_close 119 = .ok (.aload_n 0, 1) := by decide +kernel
theorem dX2_close_120 : decode cX2_close 120 = .ok (.getfield 7, 3) := by decide +kernel
theorem dX2_close_123 : decode cX2_close 123 = .ok (.iload_n 1, 1) := by decide +kernel
theorem dX2_close_124 : decode cX2_close 124 = .ok (.aload_n 0, 1) := by decide +kernel
theorem dX2_close_125 : decode cX2_close 125 = .ok (.getfield 7, 3) := by decide +kernel
theorem dX2_close_128 : decode cX2_close 128 = .ok (.iload_n 3, 1) := by decide +kernel
theorem dX2_close_129 : decode cX2_close 129 = .ok (.invokevirtual 46, 3) := by decide +kernel
theorem dX2_close_132 : decode cX2_close 132 = .ok (.invokevirtual 42, 3) := by decide +kernel
theorem dX2_close_135 : decode cX2_close 135 = .ok (.aload_n 0, 1) := by decide +kernel
theorem dX2_close_136 : decode cX2_close 136 = .ok (.getfield 7, 3) := by decide +kernel
theorem dX2_close_139 : decode cX2_close 139 = .ok (.iload_n 3, 1) := by decide +kernel
theorem dX2_close_140 : decode cX2_close 140 = .ok (.iload_n 1, 1) := by decide +kernel
theorem dX2_close_141 : decode cX2_close 141 = .ok (.iconst 1, 1) := by decide +kernel
theorem dX2_close_142 : decode cX2_close 142 = .ok (.iadd, 1) := by decide +kernel
theorem dX2_close_143 : decode cX2_close 143 = .ok (.invokevirtual 42, 3) := by decide +kernel
theorem dX2_close_146 : decode cX2_close 146 = .ok (.iload 4, 2) := by decide +kernel
theorem dX2_close_148 : decode cX2_close 148 = .ok (.bipush 39, 2) := by decide +kernel
theorem dX2_close_150 : decode cX2_close 150 = .ok (.if_icmp .ne 7, 3) := by decide +kernel
theorem dX2_close_153 : decode cX2_close 153 = .ok (.iconst 1, 1) := by decide +kernel
theorem dX2_close_154 : decode cX2_close 154 = .ok (.goto 4, 3) := by decide +kernel
theorem dX2_close_157 : decode cX2_close 157 = .ok (.iconst 0, 1) := by decide +kernel
theorem dX2_close_158 : decode cX2_close 158 = .ok (.ireturn, 1) := by decide +kernel
theorem dX2_close_159 : decode cX2_close 159 = .ok (.aload_n 0, 1) := by decide +kernel
theorem dX2_close_160 : decode cX2_close 160 = .ok (.dup, 1) := by decide +kernel
theorem dX2_close_161 : decode cX2_close 161 = .ok (.getfield 21, 3) := by decide +kernel
theorem dX2_close_164 : decode cX2_close 164 = .ok (.iconst 1, 1) := by decide +kernel
theorem dX2_close_165 : decode cX2_close 165 = .ok (.isub, 1) := by decide +kernel
theorem dX2_close_166 : decode cX2_close 166 = .ok (.putfield 21, 3) := by decide +kernel
theorem dX2_close_169 : decode cX2_close 169 = .ok (.aload_n 0, 1) := by decide +kernel
theorem dX2_close_170 : decode cX2_close 170 = .ok (.getfield 7, 3) := by decide +kernel
theorem dX2_close_173 : decode cX2_close 173 = .ok (.iload_n 1, 1) := by decide +kernel
theorem dX2_close_174 : decode cX2_close 174 = .ok (.iload_n 3, 1) := by decide +kernel
theorem dX2_close_175 : decode cX2_close 175 = .ok (.iconst 1, 1) := by decide +kernel
theorem dX2_close_176 : decode cX2_close 176 = .ok (.iadd, 1) := by decide +kernel
theorem dX2_close_177 : decode cX2_close 177 = .ok (.invokevirtual 42, 3) := by decide +kernel
theorem dX2_close_180 : decode cX2_close 180 = .ok (.iload 4, 2) := by decide +kernel
theorem dX2_close_182 : decode cX2_close 182 = .ok (.bipush 41, 2) := by decide +kernel
theorem dX2_close_184 : decode cX2_close 184 = .ok (.if_icmp .ne 7, 3) := by decide +kernel
theorem dX2_close_187 : decode cX2_close 187 = .ok (.iconst 1, 1) := by decide +kernel
theorem dX2_close_188 : decode cX2_close 188 = .ok (.goto 4, 3) := by decide +kernel
theorem dX2_close_191 : decode cX2_close 191 = .ok (.iconst 0, 1) := by decide +kernel
theorem dX2_close_192 : decode cX2_close 192 = .ok (.ireturn, 1) := by decide +kernel
theorem dX2_close_193 : decode cX2_close 193 = .ok (.aload_n 0, 1) := by decide +kernel
theorem dX2_close_194 : decode cX2_close 194 = .ok (.getfield 7, 3) := by decide +kernel
theorem dX2_close_197 : decode cX2_close 197 = .ok (.iload_n 1, 1) := by decide +kernel
theorem dX2_close_198 : decode cX2_close 198 = .ok (.iload_n 3, 1) := by decide +kernel
theorem dX2_close_199 : decode cX2_close 199 = .ok (.iconst 1, 1) := by decide +kernel
theorem dX2_close_200 : decode cX2_close 200 = .ok (.iadd, 1) := by decide +kernel
theorem dX2_close_201 : decode cX2_close 201 = .ok (.invokevirtual 42, 3) := by decide +kernel
theorem dX2_close_204 : decode cX2_close 204 = .ok (.iload 4, 2) := by decide +kernel
theorem dX2_close_206 : decode cX2_close 206 = .ok (.bipush 36, 2) := by decide +kernel
theorem dX2_close_208 : decode cX2_close 208 = .ok (.if_icmp .ne 7, 3) := by decide +kernel
theorem dX2_close_211 : decode cX2_close 211 = .ok (.iconst 1, 1) := by decide +kernel
theorem dX2_close_212 : decode cX2_close 212 = .ok (.goto 4, 3) := by decide +kernel
theorem dX2_close_215 : decode cX2_close 215 = .ok (.iconst 0, 1) := by decide +kernel
theorem dX2_close_216 : decode cX2_close 216 = .ok (.ireturn, 1) := by decide +kernel
theorem dX3_init_0 : decode cX3_init 0 = .ok (.aload_n 0, 1) := by decide +kernel
theorem dX3_init_1 : decode cX3_init 1 = .ok (.invokespecial 3, 3) := by decide +kernel
theorem dX3_init_4 : decode cX3_init 4 = .ok (.aload_n 0, 1) := by decide +kernel
theorem dX3_init_5 : decode cX3_init 5 = .ok (.aload_n 1, 1) := by decide +kernel
theorem dX3_init_6 : decode cX3_init 6 = .ok (.putfield 9, 3) := by decide +kernel
theorem dX3_init_9 : decode cX3_init 9 = .ok (.aload_n 0, 1) := by decide +kernel
theorem dX3_init_10 : decode cX3_init 10 = .ok (.aload_n 2, 1) := by decide +kernel
theorem dX3_init_11 : decode cX3_init 11 = .ok (.putfield 15, 3) := by decide +kernel
theorem dX3_init_14 : decode cX3_init 14 = .ok (.aload_n 0, 1) := by decide +kernel
theorem dX3_init_15 : decode cX3_init 15 = .ok (.aload_n 3, 1) := by decide +kernel
theorem dX3_init_16 : decode cX3_init 16 = .ok (.putfield 19, 3) := by decide +kernel
theorem dX3_init_19 : decode cX3_init 19 = .ok (.aload_n 0, 1) := by decide +kernel
theorem dX3_init_20 : decode cX3_init 20 = .ok (.new 23, 3) := by decide +kernel
theorem dX3_init_23 : decode cX3_init 23 = .ok (.dup, 1) := by decide +kernel
theorem dX3_init_24 : decode cX3_init 24 = .ok (.invokespecial 25, 3) := by decide +kernel
theorem dX3_init_27 : decode cX3_init 27 = .ok (.putfield 26, 3) := by decide +kernel
theorem dX3_init_30 : decode cX3_init 30 = .ok (.aload_n 0, 1) := by decide +kernel
theorem dX3_init_31 : decode cX3_init 31 = .ok (.iconst (-1), 1) := by decide +kernel
theorem dX3_init_32 : decode cX3_init 32 = .ok (.putfield 30, 3) := by decide +kernel
theorem dX3_init_35 : decode cX3_init 35 = .ok (.return_, 1) := by decide +kernel
theorem dX3_faultPlace_0 : decode cX3_faultPlace 0 = .ok (.aload_n 0, 1) := by decide +kernel
theorem dX3_faultPlace_1 : decode cX3_faultPlace 1 = .ok (.getfield 30, 3) := by decide +kernel
theorem dX3_faultPlace_4 : decode cX3_faultPlace 4 = .ok (.ireturn, 1) := by decide +kernel
theorem dX3_loadText_0 : decode cX3_loadText 0 = .ok (.aload_n 0, 1) := by decide +kernel
theorem dX3_loadText_1 : decode cX3_loadText 1 = .ok (.getfield 19, 3) := by decide +kernel
theorem dX3_loadText_4 : decode cX3_loadText 4 = .ok (.invokevirtual 34, 3) := by decide +kernel
theorem dX3_loadText_7 : decode cX3_loadText 7 = .ok (.aload_n 0, 1) := by decide +kernel
theorem dX3_loadText_8 : decode cX3_loadText 8 = .ok (.getfield 9, 3) := by decide +kernel
theorem dX3_loadText_11 : decode cX3_loadText 11 = .ok (.invokevirtual 39, 3) := by decide +kernel
theorem dX3_loadText_14 : decode cX3_loadText 14 = .ok (.iconst 0, 1) := by decide +kernel
theorem dX3_loadText_15 : decode cX3_loadText 15 = .ok (.istore_n 1, 1) := by decide +kernel
theorem dX3_loadText_16 : decode cX3_loadText 16 = .ok (.iconst 0, 1) := by decide +kernel
theorem dX3_loadText_17 : decode cX3_loadText 17 = .ok (.istore_n 2, 1) := by decide +kernel
theorem dX3_loadText_18 : decode cX3_loadText 18 = .ok (.iload_n 2, 1) := by decide +kernel
theorem dX3_loadText_19 : decode cX3_loadText 19 = .ok (.sipush 300, 3) := by decide +kernel
theorem dX3_loadText_22 : decode cX3_loadText 22 = .ok (.if_icmp .ge 28, 3) := by decide +kernel
theorem dX3_loadText_25 : decode cX3_loadText 25 = .ok (.iload_n 1, 1) := by decide +kernel
theorem dX3_loadText_26 : decode cX3_loadText 26 = .ok (.ifCond .ne 24, 3) := by decide +kernel
theorem dX3_loadText_29 : decode cX3_loadText 29 = .ok (.aload_n 0, 1) := by decide +kernel
theorem dX3_loadText_30 : decode cX3_loadText 30 = .ok (.getfield 9, 3) := by decide +kernel
theorem dX3_loadText_33 : decode cX3_loadText 33 = .ok (.invokevirtual 44, 3) := by decide +kernel
theorem dX3_loadText_36 : decode cX3_loadText 36 = .ok (.ifCond .eq 14, 3) := by decide +kernel
theorem dX3_loadText_39 : decode cX3_loadText 39 = .ok (.aload_n 0, 1) := by decide +kernel
theorem dX3_loadText_40 : decode cX3_loadText 40 = .ok (.invokevirtual 48, 3) := by decide +kernel
theorem dX3_loadText_43 : decode cX3_loadText 43 = .ok (.istore_n 1, 1) := by decide +kernel
theorem dX3_loadText_44 : decode cX3_loadText 44 = .ok (.iinc 2 1, 3) := by decide +kernel
theorem dX3_loadText_47 : decode cX3_loadText 47 = .ok (.goto (-29), 3) := by decide +kernel
theorem dX3_loadText_50 : decode cX3_loadText 50 = .ok (.aload_n 0, 1) := by decide +kernel
theorem dX3_loadText_51 : decode cX3_loadText 51 = .ok (.iload_n 1, 1) := by decide +kernel
theorem dX3_loadText_52 : decode cX3_loadText 52 = .ok (.ifCond .ne 7, 3) := by decide +kernel
theorem dX3_loadText_55 : decode cX3_loadText 55 = .ok (.iconst (-1), 1) := by decide +kernel
theorem dX3_loadText_56 : decode cX3_loadText 56 = .ok (.goto 10, 3) := by decide +kernel
theorem dX3_loadText_59 : decode cX3_loadText 59 = .ok (.aload_n 0, 1) := by decide +kernel
theorem dX3_loadText_60 : decode cX3_loadText 60 = .ok (.getfield 9, 3) := by decide +kernel
theorem dX3_loadText_63 : decode cX3_loadText 63 = .ok (.invokevirtual 52, 3) := by decide +kernel
theorem dX3_loadText_66 : decode cX3_loadText 66 = .ok (.putfield 30, 3) := by decide +kernel
theorem dX3_loadText_69 : decode cX3_loadText 69 = .ok (.iload_n 1, 1) := by decide +kernel
theorem dX3_loadText_70 : decode cX3_loadText 70 = .ok (.ifCond .eq 10, 3) := by decide +kernel
theorem dX3_loadText_73 : decode cX3_loadText 73 = .ok (.aload_n 0, 1) := by decide +kernel
theorem dX3_loadText_74 : decode cX3_loadText 74 = .ok (.getfield 19, 3) := by decide +kernel
theorem dX3_loadText_77 : decode cX3_loadText 77 = .ok (.invokevirtual 55, 3) := by decide +kernel
theorem dX3_loadText_80 : decode cX3_loadText 80 = .ok (.iload_n 1, 1) := by decide +kernel
theorem dX3_loadText_81 : decode cX3_loadText 81 = .ok (.ireturn, 1) := by decide +kernel
theorem dX3_takeWord_0 : decode cX3_takeWord 0 = .ok (.aload_n 0, 1) := by decide +kernel
theorem dX3_takeWord_1 : decode cX3_takeWord 1 = .ok (.invokevirtual 58, 3) := by decide +kernel
theorem dX3_takeWord_4 : decode cX3_takeWord 4 = .ok (.istore_n 1, 1) := by decide +kernel
theorem dX3_takeWord_5 : decode cX3_takeWord 5 = .ok (.iload_n 1, 1) := by decide +kernel
theorem dX3_takeWord_6 : decode cX3_takeWord 6 = .ok (.bipush 46, 2) := by decide +kernel
theorem dX3_takeWord_8 : decode cX3_takeWord 8 = .ok (.if_icmp .ne 8, 3) := by decide +kernel
theorem dX3_takeWord_11 : decode cX3_takeWord 11 = .ok (.aload_n 0, 1) := by decide +kernel
theorem dX3_takeWord_12 : decode cX3_takeWord 12 = .ok (.invokevirtual 63, 3) := by decide +kernel
theorem dX3_takeWord_15 : decode cX3_takeWord 15 = .ok (.ireturn, 1) := by decide +kernel
theorem dX3_takeWord_16 : decode cX3_takeWord 16 = .ok (.iload_n 1, 1) := by decide +kernel
theorem dX3_takeWord_17 : decode cX3_takeWord 17 = .ok (.bipush 48, 2) := by decide +kernel
theorem dX3_takeWord_19 : decode cX3_takeWord 19 = .ok (.if_icmp .ne 8, 3) := by decide +kernel
theorem dX3_takeWord_22 : decode cX3_takeWord 22 = .ok (.aload_n 0, 1) := by decide +kernel
theorem dX3_takeWord_23 : decode cX3_takeWord 23 = .ok (.invokevirtual 66, 3) := by decide +kernel
theorem dX3_takeWord_26 : decode cX3_takeWord 26 = .ok (.ireturn, 1) := by decide +kernel
theorem dX3_takeWord_27 : decode cX3_takeWord 27 = .ok (.iload_n 1, 1) := by decide +kernel
theorem dX3_takeWord_28 : decode cX3_takeWord 28 = .ok (.invokestatic 69, 3) := by decide +kernel
theorem dX3_takeWord_31 : decode cX3_takeWord 31 = .ok (.ifCond .ne 15, 3) := by decide +kernel
theorem dX3_takeWord_34 : decode cX3_takeWord 34 = .ok (.iload_n 1, 1) := by decide +kernel
theorem dX3_takeWord_35 : decode cX3_takeWord 35 = .ok (.bipush 49, 2) := by decide +kernel
theorem dX3_takeWord_37 : decode cX3_takeWord 37 = .ok (.if_icmp .eq 9, 3) := by decide +kernel
theorem dX3_takeWord_40 : decode cX3_takeWord 40 = .ok (.iload_n 1, 1) := by decide +kernel
theorem dX3_takeWord_41 : decode cX3_takeWord 41 = .ok (.bipush 50, 2) := by decide +kernel
theorem dX3_takeWord_43 : decode cX3_takeWord 43 = .ok (.if_icmp .ne 17, 3) := by decide +kernel
theorem dX3_takeWord_46 : decode cX3_takeWord 46 = .ok (.aload_n 0, 1) := by decide +kernel
theorem dX3_takeWord_47 : decode cX3_takeWord 47 = .ok (.getfield 19, 3) := by decide +kernel
theorem dX3_takeWord_50 : decode cX3_takeWord 50 = .ok (.iload_n 1, 1) := by decide +kernel
theorem dX3_takeWord_51 : decode cX3_takeWord 51 = .ok (.aload_n 0, 1) := by decide +kernel
theorem dX3_takeWord_52 : decode cX3_takeWord 52 = .ok (.iload_n 1, 1) := by decide +kernel
theorem dX3_takeWord_53 : decode cX3_takeWord 53 = .ok (.invokevirtual 73, 3) := by decide +kernel
theorem dX3_takeWord_56 : decode cX3_takeWord 56 = .ok (.invokevirtual 77, 3) := by decide +kernel
theorem dX3_takeWord_59 : decode cX3_takeWord 59 = .ok (.ireturn, 1) := by decide +kernel
theorem dX3_takeWord_60 : decode cX3_takeWord 60 = .ok (.iconst 1, 1) := by decide +kernel
theorem dX3_takeWord_61 : decode cX3_takeWord 61 = .ok (.ireturn, 1) := by decide +kernel
theorem dX3_opOfWord_0 : decode cX3_opOfWord 0 = .ok (.aload_n 0, 1) := by decide +kernel
theorem dX3_opOfWord_1 : decode cX3_opOfWord 1 = .ok (.getfield 9, 3) := by decide +kernel
theorem dX3_opOfWord_4 : decode cX3_opOfWord 4 = .ok (.invokevirtual 81, 3) := by decide +kernel
theorem dX3_opOfWord_7 : decode cX3_opOfWord 7 = .ok (.ifCond .eq 6, 3) := by decide +kernel
theorem dX3_opOfWord_10 : decode cX3_opOfWord 10 = .ok (.bipush 49, 2) := by decide +kernel
theorem dX3_opOfWord_12 : decode cX3_opOfWord 12 = .ok (.ireturn, 1) := by decide +kernel
theorem dX3_opOfWord_13 : decode cX3_opOfWord 13 = .ok (.aload_n 0, 1) := by decide +kernel
theorem dX3_opOfWord_14 : decode cX3_opOfWord 14 = .ok (.getfield 9, 3) := by decide +kernel
theorem dX3_opOfWord_17 : decode cX3_opOfWord 17 = .ok (.invokevirtual 84, 3) := by decide +kernel
theorem dX3_opOfWord_20 : decode cX3_opOfWord 20 = .ok (.lstore_n 1, 1) := by decide +kernel
theorem dX3_opOfWord_21 : decode cX3_opOfWord 21 = .ok (.aload_n 0, 1) := by decide +kernel
theorem dX3_opOfWord_22 : decode cX3_opOfWord 22 = .ok (.getfield 26, 3) := by decide +kernel
theorem dX3_opOfWord_25 : decode cX3_opOfWord 25 = .ok (.lload_n 1, 1) := by decide +kernel
theorem dX3_opOfWord_26 : decode cX3_opOfWord 26 = .ok (.invokevirtual 88, 3) := by decide +kernel
theorem dX3_opOfWord_29 : decode cX3_opOfWord 29 = .ok (.istore_n 3, 1) := by decide +kernel
theorem dX3_opOfWord_30 : decode cX3_opOfWord 30 = .ok (.iload_n 3, 1) := by decide +kernel
theorem dX3_opOfWord_31 : decode cX3_opOfWord 31 = .ok (.bipush 52, 2) := by decide +kernel
theorem dX3_opOfWord_33 : decode cX3_opOfWord 33 = .ok (.if_icmp .ne 20, 3) := by decide +kernel
theorem dX3_opOfWord_36 : decode cX3_opOfWord 36 = .ok (.aload_n 0, 1) := by decide +kernel
theorem dX3_opOfWord_37 : decode cX3_opOfWord 37 = .ok (.getfield 15, 3) := by decide +kernel
theorem dX3_opOfWord_40 : decode cX3_opOfWord 40 = .ok (.lload_n 1, 1) := by decide +kernel
theorem dX3_opOfWord_41 : decode cX3_opOfWord 41 = .ok (.invokevirtual 92, 3) := by decide +kernel
theorem dX3_opOfWord_44 : decode cX3_opOfWord 44 = .ok (.iconst (-1), 1) := by decide +kernel
theorem dX3_opOfWord_45 : decode cX3_opOfWord 45 = .ok (.if_icmp .eq 8, 3) := by decide +kernel
theorem dX3_opOfWord_48 : decode cX3_opOfWord 48 = .ok (.bipush 50, 2) := by decide +kernel
theorem dX3_opOfWord_50 : decode cX3_opOfWord 50 = .ok (.goto 4, 3) := by decide +kernel
theorem dX3_opOfWord_53 : decode cX3_opOfWord 53 = .ok (.iload_n 3, 1) := by decide +kernel
theorem dX3_opOfWord_54 : decode cX3_opOfWord 54 = .ok (.ireturn, 1) := by decide +kernel
theorem dX3_argOfWord_0 : decode cX3_argOfWord 0 = .ok (.iload_n 1, 1) := by decide +kernel
theorem dX3_argOfWord_1 : decode cX3_argOfWord 1 = .ok (.lookupswitch 66 #[(45, 58), (49, 35), (50, 43)], 35) := by decide +kernel
theorem dX3_argOfWord_36 : decode cX3_argOfWord 36 = .ok (.aload_n 0, 1) := by decide +kernel
theorem dX3_argOfWord_37 : decode cX3_argOfWord 37 = .ok (.getfield 9, 3) := by decide +kernel
theorem dX3_argOfWord_40 : decode cX3_argOfWord 40 = .ok (.invokevirtual 95, 3) := by decide +kernel
theorem dX3_argOfWord_43 : decode cX3_argOfWord 43 = .ok (.ireturn, 1) := by decide +kernel
theorem dX3_argOfWord_44 : decode cX3_argOfWord 44 = .ok (.aload_n 0, 1) := by decide +kernel
theorem dX3_argOfWord_45 : decode cX3_argOfWord 45 = .ok (.getfield 15, 3) := by decide +kernel
theorem dX3_argOfWord_48 : decode cX3_argOfWord 48 = .ok (.aload_n 0, 1) := by decide +kernel
theorem dX3_argOfWord_49 : decode cX3_argOfWord 49 = .ok (.getfield 9, 3) := by decide +kernel
theorem dX3_argOfWord_52 : decode cX3_argOfWord 52 = .ok (.invokevirtual 84, 3) := by decide +kernel
theorem dX3_argOfWord_55 : decode cX3_argOfWord 55 = .ok (.invokevirtual 92, 3) := by decide +kernel
theorem dX3_argOfWord_58 : decode cX3_argOfWord 58 = .ok (.ireturn, 1) := by decide +kernel
theorem dX3_argOfWord_59 : decode cX3_argOfWord 59 = .ok (.aload_n 0, 1) := by decide +kernel
theorem dX3_argOfWord_60 : decode cX3_argOfWord 60 = .ok (.getfield 15, 3) := by decide +kernel
theorem dX3_argOfWord_63 : decode cX3_argOfWord 63 = .ok (.invokevirtual 98, 3) := by decide +kernel
theorem dX3_argOfWord_66 : decode cX3_argOfWord 66 = .ok (.ireturn, 1) := by decide +kernel
theorem dX3_argOfWord_67 : decode cX3_argOfWord 67 = .ok (.iconst 0, 1) := by decide +kernel
theorem dX3_argOfWord_68 : decode cX3_argOfWord 68 = .ok (.ireturn, 1) := by decide +kernel
theorem dX3_define_0 : decode cX3_define 0 = .ok (.aload_n 0, 1) := by decide +kernel
theorem dX3_define_1 : decode cX3_define 1 = .ok (.getfield 9, 3) := by decide +kernel
theorem dX3_define_4 : decode cX3_define 4 = .ok (.invokevirtual 44, 3) := by decide +kernel
theorem dX3_define_7 : decode cX3_define 7 = .ok (.ifCond .ne 5, 3) := by decide +kernel
theorem dX3_define_10 : decode cX3_define 10 = .ok (.iconst 1, 1) := by decide +kernel
theorem dX3_define_11 : decode cX3_define 11 = .ok (.ireturn, 1) := by decide +kernel
theorem dX3_define_12 : decode cX3_define 12 = .ok (.aload_n 0, 1) := by decide +kernel
theorem dX3_define_13 : decode cX3_define 13 = .ok (.aload_n 0, 1) := by decide +kernel
theorem dX3_define_14 : decode cX3_define 14 = .ok (.invokevirtual 58, 3) := by decide +kernel
theorem dX3_define_17 : decode cX3_define 17 = .ok (.invokevirtual 101, 3) := by decide +kernel
theorem dX3_define_20 : decode cX3_define 20 = .ok (.ifCond .ne 6, 3) := by decide +kernel
theorem dX3_define_23 : decode cX3_define 23 = .ok (.bipush 9, 2) := by decide +kernel
theorem dX3_define_25 : decode cX3_define 25 = .ok (.ireturn, 1) := by decide +kernel
theorem dX3_define_26 : decode cX3_define 26 = .ok (.aload_n 0, 1) := by decide +kernel
theorem dX3_define_27 : decode cX3_define 27 = .ok (.getfield 9, 3) := by decide +kernel
theorem dX3_define_30 : decode cX3_define 30 = .ok (.invokevirtual 84, 3) := by decide +kernel
theorem dX3_define_33 : decode cX3_define 33 = .ok (.lstore_n 1, 1) := by decide +kernel
theorem dX3_define_34 : decode cX3_define 34 = .ok (.aload_n 0, 1) := by decide +kernel
theorem dX3_define_35 : decode cX3_define 35 = .ok (.getfield 15, 3) := by decide +kernel
theorem dX3_define_38 : decode cX3_define 38 = .ok (.invokevirtual 104, 3) := by decide +kernel
theorem dX3_define_41 : decode cX3_define 41 = .ok (.iconst 0, 1) := by decide +kernel
theorem dX3_define_42 : decode cX3_define 42 = .ok (.istore_n 3, 1) := by decide +kernel
theorem dX3_define_43 : decode cX3_define 43 = .ok (.iload_n 3, 1) := by decide +kernel
theorem dX3_define_44 : decode cX3_define 44 = .ok (.sipush 300, 3) := by decide +kernel
theorem dX3_define_47 : decode cX3_define 47 = .ok (.if_icmp .ge 79, 3) := by decide +kernel
theorem dX3_define_50 : decode cX3_define 50 = .ok (.aload_n 0, 1) := by decide +kernel
theorem dX3_define_51 : decode cX3_define 51 = .ok (.getfield 9, 3) := by decide +kernel
theorem dX3_define_54 : decode cX3_define 54 = .ok (.invokevirtual 44, 3) := by decide +kernel
theorem dX3_define_57 : decode cX3_define 57 = .ok (.ifCond .eq 69, 3) := by decide +kernel
theorem dX3_define_60 : decode cX3_define 60 = .ok (.aload_n 0, 1) := by decide +kernel
theorem dX3_define_61 : decode cX3_define 61 = .ok (.invokevirtual 58, 3) := by decide +kernel
theorem dX3_define_64 : decode cX3_define 64 = .ok (.istore 4, 2) := by decide +kernel
theorem dX3_define_66 : decode cX3_define 66 = .ok (.iload 4, 2) := by decide +kernel
theorem dX3_define_68 : decode cX3_define 68 = .ok (.bipush 47, 2) := by decide +kernel
theorem dX3_define_70 : decode cX3_define 70 = .ok (.if_icmp .ne 12, 3) := by decide +kernel
theorem dX3_define_73 : decode cX3_define 73 = .ok (.aload_n 0, 1) := by decide +kernel
theorem dX3_define_74 : decode cX3_define 74 = .ok (.getfield 15, 3) := by decide +kernel
theorem dX3_define_77 : decode cX3_define 77 = .ok (.lload_n 1, 1) := by decide +kernel
theorem dX3_define_78 : decode cX3_define 78 = .ok (.invokevirtual 107, 3) := by decide +kernel
theorem dX3_define_81 : decode cX3_define 81 = .ok (.ireturn, 1) := by decide +kernel
theorem dX3_define_82 : decode cX3_define 82 = .ok (.iload 4, 2) := by decide +kernel
theorem dX3_define_84 : decode cX3_define 84 = .ok (.bipush 46, 2) := by decide +kernel
theorem dX3_define_86 : decode cX3_define 86 = .ok (.if_icmp .eq 17, 3) := by decide +kernel
theorem dX3_define_89 : decode cX3_define 89 = .ok (.iload 4, 2) := by decide +kernel
theorem dX3_define_91 : decode cX3_define 91 = .ok (.bipush 48, 2) := by decide +kernel
theorem dX3_define_93 : decode cX3_define 93 = .ok (.if_icmp .eq 10, 3) := by decide +kernel
theorem dX3_define_96 : decode cX3_define 96 = .ok (.iload 4, 2) := by decide +kernel
theorem dX3_define_98 : decode cX3_define 98 = .ok (.bipush 52, 2) := by decide +kernel
theorem dX3_define_100 : decode cX3_define 100 = .ok (.if_icmp .ne 5, 3) := by decide +kernel
theorem dX3_define_103 : decode cX3_define 103 = .ok (.iconst 1, 1) := by decide +kernel
theorem dX3_define_104 : decode cX3_define 104 = .ok (.ireturn, 1) := by decide +kernel
theorem dX3_define_105 : decode cX3_define 105 = .ok (.aload_n 0, 1) := by decide +kernel
theorem dX3_define_106 : decode cX3_define 106 = .ok (.getfield 15, 3) := by decide +kernel
theorem dX3_define_109 : decode cX3_define 109 = .ok (.iload 4, 2) := by decide +kernel
theorem dX3_define_111 : decode cX3_define 111 = .ok (.aload_n 0, 1) := by decide +kernel
theorem dX3_define_112 : decode cX3_define 112 = .ok (.iload 4, 2) := by decide +kernel
theorem dX3_define_114 : decode cX3_define 114 = .ok (.invokevirtual 73, 3) := by decide +kernel
theorem dX3_define_117 : decode cX3_define 117 = .ok (.invokevirtual 110, 3) := by decide +kernel
theorem dX3_define_120 : decode cX3_define 120 = .ok (.iinc 3 1, 3) := by decide +kernel
theorem dX3_define_123 : decode cX3_define 123 = .ok (.goto (-80), 3) := by decide +kernel
theorem dX3_define_126 : decode cX3_define 126 = .ok (.iconst 1, 1) := by decide +kernel
theorem dX3_define_127 : decode cX3_define 127 = .ok (.ireturn, 1) := by decide +kernel
theorem dX3_canBeName_0 : decode cX3_canBeName 0 = .ok (.iload_n 1, 1) := by decide +kernel
theorem dX3_canBeName_1 : decode cX3_canBeName 1 = .ok (.bipush 50, 2) := by decide +kernel
theorem dX3_canBeName_3 : decode cX3_canBeName 3 = .ok (.if_icmp .eq 9, 3) := by decide +kernel
theorem dX3_canBeName_6 : decode cX3_canBeName 6 = .ok (.iload_n 1, 1) := by decide +kernel
theorem dX3_canBeName_7 : decode cX3_canBeName 7 = .ok (.bipush 52, 2) := by decide +kernel
theorem dX3_canBeName_9 : decode cX3_canBeName 9 = .ok (.if_icmp .ne 19, 3) := by decide +kernel
theorem dX3_canBeName_12 : decode cX3_canBeName 12 = .ok (.aload_n 0, 1) := by decide +kernel
theorem dX3_canBeName_13 : decode cX3_canBeName 13 = .ok (.getfield 9, 3) := by decide +kernel
theorem dX3_canBeName_16 : decode cX3_canBeName 16 = .ok (.invokevirtual 114, 3) := by decide +kernel
theorem dX3_canBeName_19 : decode cX3_canBeName 19 = .ok (.bipush 6, 2) := by decide +kernel
theorem dX3_canBeName_21 : decode cX3_canBeName 21 = .ok (.if_icmp .gt 7, 3) := by decide +kernel
theorem dX3_canBeName_24 : decode cX3_canBeName 24 = .ok (.iconst 1, 1) := by decide +kernel
theorem dX3_canBeName_25 : decode cX3_canBeName 25 = .ok (.goto 4, 3) := by decide +kernel
theorem dX3_canBeName_28 : decode cX3_canBeName 28 = .ok (.iconst 0, 1) := by decide +kernel
theorem dX3_canBeName_29 : decode cX3_canBeName 29 = .ok (.ireturn, 1) := by decide +kernel
theorem dX3_forget_0 : decode cX3_forget 0 = .ok (.aload_n 0, 1) := by decide +kernel
theorem dX3_forget_1 : decode cX3_forget 1 = .ok (.getfield 9, 3) := by decide +kernel
theorem dX3_forget_4 : decode cX3_forget 4 = .ok (.invokevirtual 44, 3) := by decide +kernel
theorem dX3_forget_7 : decode cX3_forget 7 = .ok (.ifCond .eq 12, 3) := by decide +kernel
theorem dX3_forget_10 : decode cX3_forget 10 = .ok (.aload_n 0, 1) := by decide +kernel
theorem dX3_forget_11 : decode cX3_forget 11 = .ok (.invokevirtual 58, 3) := by decide +kernel
theorem dX3_forget_14 : decode cX3_forget 14 = .ok (.bipush 50, 2) := by decide +kernel
theorem dX3_forget_16 : decode cX3_forget 16 = .ok (.if_icmp .eq 5, 3) := by decide +kernel
theorem dX3_forget_19 : decode cX3_forget 19 = .ok (.iconst 1, 1) := by decide +kernel
theorem dX3_forget_20 : decode cX3_forget 20 = .ok (.ireturn, 1) := by decide +kernel
theorem dX3_forget_21 : decode cX3_forget 21 = .ok (.aload_n 0, 1) := by decide +kernel
theorem dX3_forget_22 : decode cX3_forget 22 = .ok (.getfield 15, 3) := by decide +kernel
theorem dX3_forget_25 : decode cX3_forget 25 = .ok (.aload_n 0, 1) := by decide +kernel
theorem dX3_forget_26 : decode cX3_forget 26 = .ok (.getfield 15, 3) := by decide +kernel
theorem dX3_forget_29 : decode cX3_forget 29 = .ok (.aload_n 0, 1) := by decide +kernel
theorem dX3_forget_30 : decode cX3_forget 30 = .ok (.getfield 9, 3) := by decide +kernel
theorem dX3_forget_33 : decode cX3_forget 33 = .ok (.invokevirtual 84, 3) := by decide +kernel
theorem dX3_forget_36 : decode cX3_forget 36 = .ok (.invokevirtual 92, 3) := by decide +kernel
theorem dX3_forget_39 : decode cX3_forget 39 = .ok (.invokevirtual 117, 3) := by decide +kernel
theorem dX3_forget_42 : decode cX3_forget 42 = .ok (.iconst 0, 1) := by decide +kernel
theorem dX3_forget_43 : decode cX3_forget 43 = .ok (.ireturn, 1) := by decide +kernel
theorem dX4_init_0 : decode cX4_init 0 = .ok (.aload_n 0, 1) := by decide +kernel
theorem dX4_init_1 : decode cX4_init 1 = .ok (.invokespecial 1, 3) := by decide +kernel
theorem dX4_init_4 : decode cX4_init 4 = .ok (.aload_n 0, 1) := by decide +kernel
theorem dX4_init_5 : decode cX4_init 5 = .ok (.bipush 12, 2) := by decide +kernel
theorem dX4_init_7 : decode cX4_init 7 = .ok (.newarray .int, 2) := by decide +kernel
theorem dX4_init_9 : decode cX4_init 9 = .ok (.putfield 9, 3) := by decide +kernel
theorem dX4_init_12 : decode cX4_init 12 = .ok (.aload_n 0, 1) := by decide +kernel
theorem dX4_init_13 : decode cX4_init 13 = .ok (.bipush 12, 2) := by decide +kernel
theorem dX4_init_15 : decode cX4_init 15 = .ok (.newarray .int, 2) := by decide +kernel
theorem dX4_init_17 : decode cX4_init 17 = .ok (.putfield 13, 3) := by decide +kernel
theorem dX4_init_20 : decode cX4_init 20 = .ok (.return_, 1) := by decide +kernel
theorem dX4_openCount_0 : decode cX4_openCount 0 = .ok (.aload_n 0, 1) := by decide +kernel
theorem dX4_openCount_1 : decode cX4_openCount 1 = .ok (.getfield 16, 3) := by decide +kernel
theorem dX4_openCount_4 : decode cX4_openCount 4 = .ok (.ireturn, 1) := by decide +kernel
theorem dX4_closeDownTo_0 : decode cX4_closeDownTo 0 = .ok (.iload_n 1, 1) := by decide +kernel
theorem dX4_closeDownTo_1 : decode cX4_closeDownTo 1 = .ok (.ifCond .lt 16, 3) := by decide +kernel
theorem dX4_closeDownTo_4 : decode cX4_closeDownTo 4 = .ok (.iload_n 1, 1) := by decide +kernel
theorem dX4_closeDownTo_5 : decode cX4_closeDownTo 5 = .ok (.aload_n 0, 1) := by decide +kernel
theorem dX4_closeDownTo_6 : decode cX4_closeDownTo 6 = .ok (.getfield 16, 3) := by decide +kernel
theorem dX4_closeDownTo_9 : decode cX4_closeDownTo 9 = .ok (.if_icmp .ge 8, 3) := by decide +kernel
theorem dX4_closeDownTo_12 : decode cX4_closeDownTo 12 = .ok (.aload_n 0, 1) := by decide +kernel
theorem dX4_closeDownTo_13 : decode cX4_closeDownTo 13 = .ok (.iload_n 1, 1) := by decide +kernel
theorem dX4_closeDownTo_14 : decode cX4_closeDownTo 14 = .ok (.putfield 16, 3) := by decide +kernel
theorem dX4_closeDownTo_17 : decode cX4_closeDownTo 17 = .ok (.return_, 1) := by decide +kernel
theorem dX4_begin_0 : decode cX4_begin 0 = .ok (.aload_n 0, 1) := by decide +kernel
theorem dX4_begin_1 : decode cX4_begin 1 = .ok (.getfield 16, 3) := by decide +kernel
theorem dX4_begin_4 : decode cX4_begin 4 = .ok (.ifCond .lt 42, 3) := by decide +kernel
theorem dX4_begin_7 : decode cX4_begin 7 = .ok (.aload_n 0, 1) := by decide +kernel
theorem dX4_begin_8 : decode cX4_begin 8 = .ok (.getfield 16, 3) := by decide +kernel
theorem dX4_begin_11 : decode cX4_begin 11 = .ok (.bipush 12, 2) := by decide +kernel
theorem dX4_begin_13 : decode cX4_begin 13 = .ok (.if_icmp .ge 33, 3) := by decide +kernel
theorem dX4_begin_16 : decode cX4_begin 16 = .ok (.aload_n 0, 1) := by decide +kernel
theorem dX4_begin_17 : decode cX4_begin 17 = .ok (.getfield 13, 3) := by decide +kernel
theorem dX4_begin_20 : decode cX4_begin 20 = .ok (.aload_n 0, 1) := by decide +kernel
theorem dX4_begin_21 : decode cX4_begin 21 = .ok (.getfield 16, 3) := by decide +kernel
theorem dX4_begin_24 : decode cX4_begin 24 = .ok (.iload_n 1, 1) := by decide +kernel
theorem dX4_begin_25 : decode cX4_begin 25 = .ok (.iastore, 1) := by decide +kernel
theorem dX4_begin_26 : decode cX4_begin 26 = .ok (.aload_n 0, 1) := by decide +kernel
theorem dX4_begin_27 : decode cX4_begin 27 = .ok (.getfield 9, 3) := by decide +kernel
theorem dX4_begin_30 : decode cX4_begin 30 = .ok (.aload_n 0, 1) := by decide +kernel
theorem dX4_begin_31 : decode cX4_begin 31 = .ok (.getfield 16, 3) := by decide +kernel
theorem dX4_begin_34 : decode cX4_begin 34 = .ok (.iload_n 2, 1) := by decide +kernel
theorem dX4_begin_35 : decode cX4_begin 35 = .ok (.iastore, 1) := by decide +kernel
theorem dX4_begin_36 : decode cX4_begin 36 = .ok (.aload_n 0, 1) := by decide +kernel
theorem dX4_begin_37 : decode cX4_begin 37 = .ok (.dup, 1) := by decide +kernel
theorem dX4_begin_38 : decode cX4_begin 38 = .ok (.getfield 16, 3) := by decide +kernel
theorem dX4_begin_41 : decode cX4_begin 41 = .ok (.iconst 1, 1) := by decide +kernel
theorem dX4_begin_42 : decode cX4_begin 42 = .ok (.iadd, 1) := by decide +kernel
theorem dX4_begin_43 : decode cX4_begin 43 = .ok (.putfield 16, 3) := by decide +kernel
theorem dX4_begin_46 : decode cX4_begin 46 = .ok (.return_, 1) := by decide +kernel
theorem dX4_innermostCount_0 : decode cX4_innermostCount 0 = .ok (.aload_n 0, 1) := by decide +kernel
theorem dX4_innermostCount_1 : decode cX4_innermostCount 1 = .ok (.getfield 16, 3) := by decide +kernel
theorem dX4_innermostCount_4 : decode cX4_innermostCount 4 = .ok (.ifCond .le 26, 3) := by decide +kernel
theorem dX4_innermostCount_7 : decode cX4_innermostCount 7 = .ok (.aload_n 0, 1) := by decide +kernel
theorem dX4_innermostCount_8 : decode cX4_innermostCount 8 = .ok (.getfield 16, 3) := by decide +kernel
theorem dX4_innermostCount_11 : decode cX4_innermostCount 11 = .ok (.bipush 12, 2) := by decide +kernel
theorem dX4_innermostCount_13 : decode cX4_innermostCount 13 = .ok (.if_icmp .gt 17, 3) := by decide +kernel
theorem dX4_innermostCount_16 : decode cX4_innermostCount 16 = .ok (.aload_n 0, 1) := by decide +kernel
theorem dX4_innermostCount_17 : decode cX4_innermostCount 17 = .ok (.getfield 9, 3) := by decide +kernel
theorem dX4_innermostCount_20 : decode cX4_innermostCount 20 = .ok (.aload_n 0, 1) := by decide +kernel
theorem dX4_innermostCount_21 : decode cX4_innermostCount 21 = .ok (.getfield 16, 3) := by decide +kernel
theorem dX4_innermostCount_24 : decode cX4_innermostCount 24 = .ok (.iconst 1, 1) := by decide +kernel
theorem dX4_innermostCount_25 : decode cX4_innermostCount 25 = .ok (.isub, 1) := by decide +kernel
theorem dX4_innermostCount_26 : decode cX4_innermostCount 26 = .ok (.iaload, 1) := by decide +kernel
theorem dX4_innermostCount_27 : decode cX4_innermostCount 27 = .ok (.goto 4, 3) := by decide +kernel
theorem dX4_innermostCount_30 : decode cX4_innermostCount 30 = .ok (.iconst 0, 1) := by decide +kernel
theorem dX4_innermostCount_31 : decode cX4_innermostCount 31 = .ok (.ireturn, 1) := by decide +kernel
theorem dX4_goesRound_0 : decode cX4_goesRound 0 = .ok (.aload_n 0, 1) := by decide +kernel
theorem dX4_goesRound_1 : decode cX4_goesRound 1 = .ok (.getfield 16, 3) := by decide +kernel
theorem dX4_goesRound_4 : decode cX4_goesRound 4 = .ok (.ifCond .le 12, 3) := by decide +kernel
theorem dX4_goesRound_7 : decode cX4_goesRound 7 = .ok (.aload_n 0, 1) := by decide +kernel
theorem dX4_goesRound_8 : decode cX4_goesRound 8 = .ok (.getfield 16, 3) := by decide +kernel
theorem dX4_goesRound_11 : decode cX4_goesRound 11 = .ok (.bipush 12, 2) := by decide +kernel
theorem dX4_goesRound_13 : decode cX4_goesRound 13 = .ok (.if_icmp .le 5, 3) := by decide +kernel
theorem dX4_goesRound_16 : decode cX4_goesRound 16 = .ok (.iconst 0, 1) := by decide +kernel
theorem dX4_goesRound_17 : decode cX4_goesRound 17 = .ok (.ireturn, 1) := by decide +kernel
theorem dX4_goesRound_18 : decode cX4_goesRound 18 = .ok (.aload_n 0, 1) := by decide +kernel
theorem dX4_goesRound_19 : decode cX4_goesRound 19 = .ok (.getfield 16, 3) := by decide +kernel
theorem dX4_goesRound_22 : decode cX4_goesRound 22 = .ok (.iconst 1, 1) := by decide +kernel
theorem dX4_goesRound_23 : decode cX4_goesRound 23 = .ok (.isub, 1) := by decide +kernel
theorem dX4_goesRound_24 : decode cX4_goesRound 24 = .ok (.istore_n 1, 1) := by decide +kernel
theorem dX4_goesRound_25 : decode cX4_goesRound 25 = .ok (.aload_n 0, 1) := by decide +kernel
theorem dX4_goesRound_26 : decode cX4_goesRound 26 = .ok (.getfield 9, 3) := by decide +kernel
theorem dX4_goesRound_29 : decode cX4_goesRound 29 = .ok (.iload_n 1, 1) := by decide +kernel
theorem dX4_goesRound_30 : decode cX4_goesRound 30 = .ok (.dup2, 1) := by decide +kernel
theorem dX4_goesRound_31 : decode cX4_goesRound 31 = .ok (.iaload, 1) := by decide +kernel
theorem dX4_goesRound_32 : decode cX4_goesRound 32 = .ok (.iconst 1, 1) := by decide +kernel
theorem dX4_goesRound_33 : decode cX4_goesRound 33 = .ok (.iadd, 1) := by decide +kernel
theorem dX4_goesRound_34 : decode cX4_goesRound 34 = .ok (.iastore, 1) := by decide +kernel
theorem dX4_goesRound_35 : decode cX4_goesRound 35 = .ok (.aload_n 0, 1) := by decide +kernel
theorem dX4_goesRound_36 : decode cX4_goesRound 36 = .ok (.getfield 9, 3) := by decide +kernel
theorem dX4_goesRound_39 : decode cX4_goesRound 39 = .ok (.iload_n 1, 1) := by decide +kernel
theorem dX4_goesRound_40 : decode cX4_goesRound 40 = .ok (.iaload, 1) := by decide +kernel
theorem dX4_goesRound_41 : decode cX4_goesRound 41 = .ok (.aload_n 0, 1) := by decide +kernel
theorem dX4_goesRound_42 : decode cX4_goesRound 42 = .ok (.getfield 13, 3) := by decide +kernel
theorem dX4_goesRound_45 : decode cX4_goesRound 45 = .ok (.iload_n 1, 1) := by decide +kernel
theorem dX4_goesRound_46 : decode cX4_goesRound 46 = .ok (.iaload, 1) := by decide +kernel
theorem dX4_goesRound_47 : decode cX4_goesRound 47 = .ok (.if_icmp .ne 10, 3) := by decide +kernel
theorem dX4_goesRound_50 : decode cX4_goesRound 50 = .ok (.aload_n 0, 1) := by decide +kernel
theorem dX4_goesRound_51 : decode cX4_goesRound 51 = .ok (.iload_n 1, 1) := by decide +kernel
theorem dX4_goesRound_52 : decode cX4_goesRound 52 = .ok (.putfield 16, 3) := by decide +kernel
theorem dX4_goesRound_55 : decode cX4_goesRound 55 = .ok (.iconst 0, 1) := by decide +kernel
theorem dX4_goesRound_56 : decode cX4_goesRound 56 = .ok (.ireturn, 1) := by decide +kernel
theorem dX4_goesRound_57 : decode cX4_goesRound 57 = .ok (.iconst 1, 1) := by decide +kernel
theorem dX4_goesRound_58 : decode cX4_goesRound 58 = .ok (.ireturn, 1) := by decide +kernel
theorem dX5_init_0 : decode cX5_init 0 = .ok (.aload_n 0, 1) := by decide +kernel
theorem dX5_init_1 : decode cX5_init 1 = .ok (.invokespecial 7, 3) := by decide +kernel
theorem dX5_init_4 : decode cX5_init 4 = .ok (.aload_n 0, 1) := by decide +kernel
theorem dX5_init_5 : decode cX5_init 5 = .ok (.aload_n 1, 1) := by decide +kernel
theorem dX5_init_6 : decode cX5_init 6 = .ok (.putfield 13, 3) := by decide +kernel
theorem dX5_init_9 : decode cX5_init 9 = .ok (.aload_n 0, 1) := by decide +kernel
theorem dX5_init_10 : decode cX5_init 10 = .ok (.aload_n 2, 1) := by decide +kernel
theorem dX5_init_11 : decode cX5_init 11 = .ok (.putfield 17, 3) := by decide +kernel
theorem dX5_init_14 : decode cX5_init 14 = .ok (.aload_n 0, 1) := by decide +kernel
theorem dX5_init_15 : decode cX5_init 15 = .ok (.aload_n 3, 1) := by decide +kernel
theorem dX5_init_16 : decode cX5_init 16 = .ok (.putfield 21, 3) := by decide +kernel
theorem dX5_init_19 : decode cX5_init 19 = .ok (.aload_n 0, 1) := by decide +kernel
theorem dX5_init_20 : decode cX5_init 20 = .ok (.aload_n 3, 1) := by decide +kernel
theorem dX5_init_21 : decode cX5_init 21 = .ok (.invokevirtual 25, 3) := by decide +kernel
theorem dX5_init_24 : decode cX5_init 24 = .ok (.putfield 31, 3) := by decide +kernel
theorem dX5_init_27 : decode cX5_init 27 = .ok (.aload_n 0, 1) := by decide +kernel
theorem dX5_init_28 : decode cX5_init 28 = .ok (.bipush 16, 2) := by decide +kernel
theorem dX5_init_30 : decode cX5_init 30 = .ok (.newarray .int, 2) := by decide +kernel
theorem dX5_init_32 : decode cX5_init 32 = .ok (.putfield 34, 3) := by decide +kernel
theorem dX5_init_35 : decode cX5_init 35 = .ok (.aload_n 0, 1) := by decide +kernel
theorem dX5_init_36 : decode cX5_init 36 = .ok (.new 38, 3) := by decide +kernel
theorem dX5_init_39 : decode cX5_init 39 = .ok (.dup, 1) := by decide +kernel
theorem dX5_init_40 : decode cX5_init 40 = .ok (.invokespecial 40, 3) := by decide +kernel
theorem dX5_init_43 : decode cX5_init 43 = .ok (.putfield 41, 3) := by decide +kernel
theorem dX5_init_46 : decode cX5_init 46 = .ok (.aload_n 0, 1) := by decide +kernel
theorem dX5_init_47 : decode cX5_init 47 = .ok (.bipush 12, 2) := by decide +kernel
theorem dX5_init_49 : decode cX5_init 49 = .ok (.newarray .int, 2) := by decide +kernel
theorem dX5_init_51 : decode cX5_init 51 = .ok (.putfield 45, 3) := by decide +kernel
theorem dX5_init_54 : decode cX5_init 54 = .ok (.aload_n 0, 1) := by decide +kernel
theorem dX5_init_55 : decode cX5_init 55 = .ok (.bipush 12, 2) := by decide +kernel
theorem dX5_init_57 : decode cX5_init 57 = .ok (.newarray .int, 2) := by decide +kernel
theorem dX5_init_59 : decode cX5_init 59 = .ok (.putfield 48, 3) := by decide +kernel
theorem dX5_init_62 : decode cX5_init 62 = .ok (.aload_n 0, 1) := by decide +kernel
theorem dX5_init_63 : decode cX5_init 63 = .ok (.bipush 12, 2) := by decide +kernel
theorem dX5_init_65 : decode cX5_init 65 = .ok (.newarray .int, 2) := by decide +kernel
theorem dX5_init_67 : decode cX5_init 67 = .ok (.putfield 51, 3) := by decide +kernel
theorem dX5_init_70 : decode cX5_init 70 = .ok (.return_, 1) := by decide +kernel
theorem dX5_hasCell_0 : decode cX5_hasCell 0 = .ok (.iload_n 0, 1) := by decide +kernel
theorem dX5_hasCell_1 : decode cX5_hasCell 1 = .ok (.ifCond .lt 13, 3) := by decide +kernel
theorem dX5_hasCell_4 : decode cX5_hasCell 4 = .ok (.iload_n 0, 1) := by decide +kernel
theorem dX5_hasCell_5 : decode cX5_hasCell 5 = .ok (.bipush 16, 2) := by decide +kernel
theorem dX5_hasCell_7 : decode cX5_hasCell 7 = .ok (.if_icmp .ge 7, 3) := by decide +kernel
theorem dX5_hasCell_10 : decode cX5_hasCell 10 = .ok (.iconst 1, 1) := by decide +kernel
theorem dX5_hasCell_11 : decode cX5_hasCell 11 = .ok (.goto 4, 3) := by decide +kernel
theorem dX5_hasCell_14 : decode cX5_hasCell 14 = .ok (.iconst 0, 1) := by decide +kernel
theorem dX5_hasCell_15 : decode cX5_hasCell 15 = .ok (.ireturn, 1) := by decide +kernel
theorem dX5_readCell_0 : decode cX5_readCell 0 = .ok (.iload_n 1, 1) := by decide +kernel
theorem dX5_readCell_1 : decode cX5_readCell 1 = .ok (.ifCond .lt 18, 3) := by decide +kernel
theorem dX5_readCell_4 : decode cX5_readCell 4 = .ok (.iload_n 1, 1) := by decide +kernel
theorem dX5_readCell_5 : decode cX5_readCell 5 = .ok (.bipush 16, 2) := by decide +kernel
theorem dX5_readCell_7 : decode cX5_readCell 7 = .ok (.if_icmp .ge 12, 3) := by decide +kernel
theorem dX5_readCell_10 : decode cX5_readCell 10 = .ok (.aload_n 0, 1) := by decide +kernel
theorem dX5_readCell_11 : decode cX5_readCell 11 = .ok (.getfield 34, 3) := by decide +kernel
theorem dX5_readCell_14 : decode cX5_readCell 14 = .ok (.iload_n 1, 1) := by decide +kernel
theorem dX5_readCell_15 : decode cX5_readCell 15 = .ok (.iaload, 1) := by decide +kernel
theorem dX5_readCell_16 : decode cX5_readCell 16 = .ok (.goto 4, 3) := by decide +kernel
theorem dX5_readCell_19 : decode cX5_readCell 19 = .ok (.iconst 0, 1) := by decide +kernel
theorem dX5_readCell_20 : decode cX5_readCell 20 = .ok (.ireturn, 1) := by decide +kernel
theorem dX5_writeCell_0 : decode cX5_writeCell 0 = .ok (.iload_n 1, 1) := by decide +kernel
theorem dX5_writeCell_1 : decode cX5_writeCell 1 = .ok (.ifCond .lt 16, 3) := by decide +kernel
theorem dX5_writeCell_4 : decode cX5_writeCell 4 = .ok (.iload_n 1, 1) := by decide +kernel
theorem dX5_writeCell_5 : decode cX5_writeCell 5 = .ok (.bipush 16, 2) := by decide +kernel
theorem dX5_writeCell_7 : decode cX5_writeCell 7 = .ok (.if_icmp .ge 10, 3) := by decide +kernel
theorem dX5_writeCell_10 : decode cX5_writeCell 10 = .ok (.aload_n 0, 1) := by decide +kernel
theorem dX5_writeCell_11 : decode cX5_writeCell 11 = .ok (.getfield 34, 3) := by decide +kernel
theorem dX5_writeCell_14 : decode cX5_writeCell 14 = .ok (.iload_n 1, 1) := by decide +kernel
theorem dX5_writeCell_15 : decode cX5_writeCell 15 = .ok (.iload_n 2, 1) := by decide +kernel
theorem dX5_writeCell_16 : decode cX5_writeCell 16 = .ok (.iastore, 1) := by decide +kernel
theorem dX5_writeCell_17 : decode cX5_writeCell 17 = .ok (.return_, 1) := by decide +kernel
theorem dX5_stepCount_0 : decode cX5_stepCount 0 = .ok (.aload_n 0, 1) := by decide +kernel
theorem dX5_stepCount_1 : decode cX5_stepCount 1 = .ok (.getfield 54, 3) := by decide +kernel
theorem dX5_stepCount_4 : decode cX5_stepCount 4 = .ok (.ireturn, 1) := by decide +kernel
theorem dX5_begin_0 : decode cX5_begin 0 = .ok (.aload_n 0, 1) := by decide +kernel
theorem dX5_begin_1 : decode cX5_begin 1 = .ok (.iconst 0, 1) := by decide +kernel
theorem dX5_begin_2 : decode cX5_begin 2 = .ok (.putfield 54, 3) := by decide +kernel
theorem dX5_begin_5 : decode cX5_begin 5 = .ok (.aload_n 0, 1) := by decide +kernel
theorem dX5_begin_6 : decode cX5_begin 6 = .ok (.iconst 0, 1) := by decide +kernel
theorem dX5_begin_7 : decode cX5_begin 7 = .ok (.putfield 58, 3) := by decide +kernel
theorem dX5_begin_10 : decode cX5_begin 10 = .ok (.aload_n 0, 1) := by decide +kernel
theorem dX5_begin_11 : decode cX5_begin 11 = .ok (.getfield 41, 3) := by decide +kernel
theorem dX5_begin_14 : decode cX5_begin 14 = .ok (.iconst 0, 1) := by decide +kernel
theorem dX5_begin_15 : decode cX5_begin 15 = .ok (.invokevirtual 61, 3) := by decide +kernel
theorem dX5_begin_18 : decode cX5_begin 18 = .ok (.return_, 1) := by decide +kernel
theorem dX5_emptyStack_0 : decode cX5_emptyStack 0 = .ok (.aload_n 0, 1) := by decide +kernel
theorem dX5_emptyStack_1 : decode cX5_emptyStack 1 = .ok (.getfield 13, 3) := by decide +kernel
theorem dX5_emptyStack_4 : decode cX5_emptyStack 4 = .ok (.invokevirtual 65, 3) := by decide +kernel
theorem dX5_emptyStack_7 : decode cX5_emptyStack 7 = .ok (.return_, 1) := by decide +kernel
theorem dX5_obey_0 : decode cX5_obey 0 = .ok (.aload_n 0, 1) := by decide +kernel
theorem dX5_obey_1 : decode cX5_obey 1 = .ok (.iload_n 1, 1) := by decide +kernel
theorem dX5_obey_2 : decode cX5_obey 2 = .ok (.iload_n 2, 1) := by decide +kernel
theorem dX5_obey_3 : decode cX5_obey 3 = .ok (.invokevirtual 70, 3) := by decide +kernel
theorem dX5_obey_6 : decode cX5_obey 6 = .ok (.istore_n 3, 1) := by decide +kernel
theorem dX5_obey_7 : decode cX5_obey 7 = .ok (.iconst 0, 1) := by decide +kernel
theorem dX5_obey_8 : decode cX5_obey 8 = .ok (.istore 4, 2) := by decide +kernel
theorem dX5_obey_10 : decode cX5_obey 10 = .ok (.iload 4, 2) := by decide +kernel
theorem dX5_obey_12 : decode cX5_obey 12 = .ok (.ldc 74, 2) := by decide +kernel
theorem dX5_obey_14 : decode cX5_obey 14 = .ok (.if_icmp .ge 76, 3) := by decide +kernel
theorem dX5_obey_17 : decode cX5_obey 17 = .ok (.aload_n 0, 1) := by decide +kernel
theorem dX5_obey_18 : decode cX5_obey 18 = .ok (.getfield 58, 3) := by decide +kernel
theorem dX5_obey_21 : decode cX5_obey 21 = .ok (.ifCond .le 69, 3) := by decide +kernel
theorem dX5_obey_24 : decode cX5_obey 24 = .ok (.iload_n 3, 1) := by decide +kernel
theorem dX5_obey_25 : decode cX5_obey 25 = .ok (.ifCond .ne 65, 3) := by decide +kernel
theorem dX5_obey_28 : decode cX5_obey 28 = .ok (.aload_n 0, 1) := by decide +kernel
theorem dX5_obey_29 : decode cX5_obey 29 = .ok (.getfield 75, 3) := by decide +kernel
theorem dX5_obey_32 : decode cX5_obey 32 = .ok (.istore 5, 2) := by decide +kernel
theorem dX5_obey_34 : decode cX5_obey 34 = .ok (.aload_n 0, 1) := by decide +kernel
theorem dX5_obey_35 : decode cX5_obey 35 = .ok (.iload 5, 2) := by decide +kernel
theorem dX5_obey_37 : decode cX5_obey 37 = .ok (.iconst 1, 1) := by decide +kernel
theorem dX5_obey_38 : decode cX5_obey 38 = .ok (.iadd, 1) := by decide +kernel
theorem dX5_obey_39 : decode cX5_obey 39 = .ok (.putfield 75, 3) := by decide +kernel
theorem dX5_obey_42 : decode cX5_obey 42 = .ok (.aload_n 0, 1) := by decide +kernel
theorem dX5_obey_43 : decode cX5_obey 43 = .ok (.iload 5, 2) := by decide +kernel
theorem dX5_obey_45 : decode cX5_obey 45 = .ok (.invokevirtual 78, 3) := by decide +kernel
theorem dX5_obey_48 : decode cX5_obey 48 = .ok (.ifCond .eq 13, 3) := by decide +kernel
theorem dX5_obey_51 : decode cX5_obey 51 = .ok (.aload_n 0, 1) := by decide +kernel
theorem dX5_obey_52 : decode cX5_obey 52 = .ok (.bipush 51, 2) := by decide +kernel
theorem dX5_obey_54 : decode cX5_obey 54 = .ok (.iconst 0, 1) := by decide +kernel
theorem dX5_obey_55 : decode cX5_obey 55 = .ok (.invokevirtual 70, 3) := by decide +kernel
theorem dX5_obey_58 : decode cX5_obey 58 = .ok (.goto 25, 3) := by decide +kernel
theorem dX5_obey_61 : decode cX5_obey 61 = .ok (.aload_n 0, 1) := by decide +kernel
theorem dX5_obey_62 : decode cX5_obey 62 = .ok (.aload_n 0, 1) := by decide +kernel
theorem dX5_obey_63 : decode cX5_obey 63 = .ok (.getfield 31, 3) := by decide +kernel
theorem dX5_obey_66 : decode cX5_obey 66 = .ok (.iload 5, 2) := by decide +kernel
theorem dX5_obey_68 : decode cX5_obey 68 = .ok (.invokevirtual 84, 3) := by decide +kernel
theorem dX5_obey_71 : decode cX5_obey 71 = .ok (.aload_n 0, 1) := by decide +kernel
theorem dX5_obey_72 : decode cX5_obey 72 = .ok (.getfield 31, 3) := by decide +kernel
theorem dX5_obey_75 : decode cX5_obey 75 = .ok (.iload 5, 2) := by decide +kernel
theorem dX5_obey_77 : decode cX5_obey 77 = .ok (.invokevirtual 88, 3) := by decide +kernel
theorem dX5_obey_80 : decode cX5_obey 80 = .ok (.invokevirtual 70, 3) := by decide +kernel
theorem dX5_obey_83 : decode cX5_obey 83 = .ok (.istore_n 3, 1) := by decide +kernel
theorem dX5_obey_84 : decode cX5_obey 84 = .ok (.iinc 4 1, 3) := by decide +kernel
theorem dX5_obey_87 : decode cX5_obey 87 = .ok (.goto (-77), 3) := by decide +kernel
theorem dX5_obey_90 : decode cX5_obey 90 = .ok (.iload_n 3, 1) := by decide +kernel
theorem dX5_obey_91 : decode cX5_obey 91 = .ok (.ireturn, 1) := by decide +kernel
theorem dX5_atBodyEnd_0 : decode cX5_atBodyEnd 0 = .ok (.aload_n 0, 1) := by decide +kernel
theorem dX5_atBodyEnd_1 : decode cX5_atBodyEnd 1 = .ok (.getfield 58, 3) := by decide +kernel
theorem dX5_atBodyEnd_4 : decode cX5_atBodyEnd 4 = .ok (.ifCond .le 27, 3) := by decide +kernel
theorem dX5_atBodyEnd_7 : decode cX5_atBodyEnd 7 = .ok (.aload_n 0, 1) := by decide +kernel
theorem dX5_atBodyEnd_8 : decode cX5_atBodyEnd 8 = .ok (.getfield 58, 3) := by decide +kernel
theorem dX5_atBodyEnd_11 : decode cX5_atBodyEnd 11 = .ok (.bipush 12, 2) := by decide +kernel
theorem dX5_atBodyEnd_13 : decode cX5_atBodyEnd 13 = .ok (.if_icmp .gt 18, 3) := by decide +kernel
theorem dX5_atBodyEnd_16 : decode cX5_atBodyEnd 16 = .ok (.iload_n 1, 1) := by decide +kernel
theorem dX5_atBodyEnd_17 : decode cX5_atBodyEnd 17 = .ok (.aload_n 0, 1) := by decide +kernel
theorem dX5_atBodyEnd_18 : decode cX5_atBodyEnd 18 = .ok (.getfield 45, 3) := by decide +kernel
theorem dX5_atBodyEnd_21 : decode cX5_atBodyEnd 21 = .ok (.aload_n 0, 1) := by decide +kernel
theorem dX5_atBodyEnd_22 : decode cX5_atBodyEnd 22 = .ok (.getfield 58, 3) := by decide +kernel
theorem dX5_atBodyEnd_25 : decode cX5_atBodyEnd 25 = .ok (.iconst 1, 1) := by decide +kernel
theorem dX5_atBodyEnd_26 : decode cX5_atBodyEnd 26 = .ok (.isub, 1) := by decide +kernel
theorem dX5_atBodyEnd_27 : decode cX5_atBodyEnd 27 = .ok (.iaload, 1) := by decide +kernel
theorem dX5_atBodyEnd_28 : decode cX5_atBodyEnd 28 = .ok (.if_icmp .lt 7, 3) := by decide +kernel
theorem dX5_atBodyEnd_31 : decode cX5_atBodyEnd 31 = .ok (.iconst 1, 1) := by decide +kernel
theorem dX5_atBodyEnd_32 : decode cX5_atBodyEnd 32 = .ok (.goto 4, 3) := by decide +kernel
theorem dX5_atBodyEnd_35 : decode cX5_atBodyEnd 35 = .ok (.iconst 0, 1) := by decide +kernel
theorem dX5_atBodyEnd_36 : decode cX5_atBodyEnd 36 = .ok (.ireturn, 1) := by decide +kernel
theorem dX5_doWord_0 : decode cX5_doWord 0 = .ok (.iload_n 1, 1) := by decide +kernel
theorem dX5_doWord_1 : decode cX5_doWord 1 = .ok (.invokestatic 91, 3) := by decide +kernel
theorem dX5_doWord_4 : decode cX5_doWord 4 = .ok (.ifCond .eq 25, 3) := by decide +kernel
theorem dX5_doWord_7 : decode cX5_doWord 7 = .ok (.aload_n 0, 1) := by decide +kernel
theorem dX5_doWord_8 : decode cX5_doWord 8 = .ok (.iload_n 1, 1) := by decide +kernel
theorem dX5_doWord_9 : decode cX5_doWord 9 = .ok (.invokevirtual 94, 3) := by decide +kernel
theorem dX5_doWord_12 : decode cX5_doWord 12 = .ok (.istore_n 3, 1) := by decide +kernel
theorem dX5_doWord_13 : decode cX5_doWord 13 = .ok (.iload_n 3, 1) := by decide +kernel
theorem dX5_doWord_14 : decode cX5_doWord 14 = .ok (.ifCond .eq 5, 3) := by decide +kernel
theorem dX5_doWord_17 : decode cX5_doWord 17 = .ok (.iload_n 3, 1) := by decide +kernel
theorem dX5_doWord_18 : decode cX5_doWord 18 = .ok (.ireturn, 1) := by decide +kernel
theorem dX5_doWord_19 : decode cX5_doWord 19 = .ok (.aload_n 0, 1) := by decide +kernel
theorem dX5_doWord_20 : decode cX5_doWord 20 = .ok (.dup, 1) := by decide +kernel
theorem dX5_doWord_21 : decode cX5_doWord 21 = .ok (.getfield 54, 3) := by decide +kernel
theorem dX5_doWord_24 : decode cX5_doWord 24 = .ok (.iconst 1, 1) := by decide +kernel
theorem dX5_doWord_25 : decode cX5_doWord 25 = .ok (.iadd, 1) := by decide +kernel
theorem dX5_doWord_26 : decode cX5_doWord 26 = .ok (.putfield 54, 3) := by decide +kernel
theorem dX5_doWord_29 : decode cX5_doWord 29 = .ok (.iload_n 1, 1) := by decide +kernel
theorem dX5_doWord_30 : decode cX5_doWord 30 = .ok (.invokestatic 97, 3) := by decide +kernel
theorem dX5_doWord_33 : decode cX5_doWord 33 = .ok (.ifCond .eq 11, 3) := by decide +kernel
theorem dX5_doWord_36 : decode cX5_doWord 36 = .ok (.aload_n 0, 1) := by decide +kernel
theorem dX5_doWord_37 : decode cX5_doWord 37 = .ok (.iload_n 1, 1) := by decide +kernel
theorem dX5_doWord_38 : decode cX5_doWord 38 = .ok (.invokevirtual 100, 3) := by decide +kernel
theorem dX5_doWord_41 : decode cX5_doWord 41 = .ok (.goto 95, 3) := by decide +kernel
theorem dX5_doWord_44 : decode cX5_doWord 44 = .ok (.iload_n 1, 1) := by decide +kernel
theorem dX5_doWord_45 : decode cX5_doWord 45 = .ok (.invokestatic 103, 3) := by decide +kernel
theorem dX5_doWord_48 : decode cX5_doWord 48 = .ok (.ifCond .eq 38, 3) := by decide +kernel
theorem dX5_doWord_51 : decode cX5_doWord 51 = .ok (.aload_n 0, 1) := by decide +kernel
theorem dX5_doWord_52 : decode cX5_doWord 52 = .ok (.getfield 13, 3) := by decide +kernel
theorem dX5_doWord_55 : decode cX5_doWord 55 = .ok (.invokevirtual 106, 3) := by decide +kernel
theorem dX5_doWord_58 : decode cX5_doWord 58 = .ok (.istore_n 3, 1) := by decide +kernel
theorem dX5_doWord_59 : decode cX5_doWord 59 = .ok (.aload_n 0, 1) := by decide +kernel
theorem dX5_doWord_60 : decode cX5_doWord 60 = .ok (.getfield 13, 3) := by decide +kernel
theorem dX5_doWord_63 : decode cX5_doWord 63 = .ok (.invokevirtual 106, 3) := by decide +kernel
theorem dX5_doWord_66 : decode cX5_doWord 66 = .ok (.istore 4, 2) := by decide +kernel
theorem dX5_doWord_68 : decode cX5_doWord 68 = .ok (.aload_n 0, 1) := by decide +kernel
theorem dX5_doWord_69 : decode cX5_doWord 69 = .ok (.getfield 13, 3) := by decide +kernel
theorem dX5_doWord_72 : decode cX5_doWord 72 = .ok (.iload_n 1, 1) := by decide +kernel
theorem dX5_doWord_73 : decode cX5_doWord 73 = .ok (.iload 4, 2) := by decide +kernel
theorem dX5_doWord_75 : decode cX5_doWord 75 = .ok (.iload_n 3, 1) := by decide +kernel
theorem dX5_doWord_76 : decode cX5_doWord 76 = .ok (.invokestatic 110, 3) := by decide +kernel
theorem dX5_doWord_79 : decode cX5_doWord 79 = .ok (.invokevirtual 114, 3) := by decide +kernel
theorem dX5_doWord_82 : decode cX5_doWord 82 = .ok (.pop, 1) := by decide +kernel
theorem dX5_doWord_83 : decode cX5_doWord 83 = .ok (.goto 53, 3) := by decide +kernel
theorem dX5_doWord_86 : decode cX5_doWord 86 = .ok (.iload_n 1, 1) := by decide +kernel
theorem dX5_doWord_87 : decode cX5_doWord 87 = .ok (.invokestatic 117, 3) := by decide +kernel
theorem dX5_doWord_90 : decode cX5_doWord 90 = .ok (.ifCond .eq 25, 3) := by decide +kernel
theorem dX5_doWord_93 : decode cX5_doWord 93 = .ok (.aload_n 0, 1) := by decide +kernel
theorem dX5_doWord_94 : decode cX5_doWord 94 = .ok (.getfield 13, 3) := by decide +kernel
theorem dX5_doWord_97 : decode cX5_doWord 97 = .ok (.iload_n 1, 1) := by decide +kernel
theorem dX5_doWord_98 : decode cX5_doWord 98 = .ok (.aload_n 0, 1) := by decide +kernel
theorem dX5_doWord_99 : decode cX5_doWord 99 = .ok (.getfield 13, 3) := by decide +kernel
theorem dX5_doWord_102 : decode cX5_doWord 102 = .ok (.invokevirtual 106, 3) := by decide +kernel
theorem dX5_doWord_105 : decode cX5_doWord 105 = .ok (.invokestatic 120, 3) := by decide +kernel
theorem dX5_doWord_108 : decode cX5_doWord 108 = .ok (.invokevirtual 114, 3) := by decide +kernel
theorem dX5_doWord_111 : decode cX5_doWord 111 = .ok (.pop, 1) := by decide +kernel
theorem dX5_doWord_112 : decode cX5_doWord 112 = .ok (.goto 24, 3) := by decide +kernel
theorem dX5_doWord_115 : decode cX5_doWord 115 = .ok (.iload_n 1, 1) := by decide +kernel
theorem dX5_doWord_116 : decode cX5_doWord 116 = .ok (.invokestatic 123, 3) := by decide +kernel
theorem dX5_doWord_119 : decode cX5_doWord 119 = .ok (.ifCond .eq 11, 3) := by decide +kernel
theorem dX5_doWord_122 : decode cX5_doWord 122 = .ok (.aload_n 0, 1) := by decide +kernel
theorem dX5_doWord_123 : decode cX5_doWord 123 = .ok (.iload_n 1, 1) := by decide +kernel
theorem dX5_doWord_124 : decode cX5_doWord 124 = .ok (.invokevirtual 126, 3) := by decide +kernel
theorem dX5_doWord_127 : decode cX5_doWord 127 = .ok (.goto 9, 3) := by decide +kernel
theorem dX5_doWord_130 : decode cX5_doWord 130 = .ok (.aload_n 0, 1) := by decide +kernel
theorem dX5_doWord_131 : decode cX5_doWord 131 = .ok (.iload_n 1, 1) := by decide +kernel
theorem dX5_doWord_132 : decode cX5_doWord 132 = .ok (.iload_n 2, 1) := by decide +kernel
theorem dX5_doWord_133 : decode cX5_doWord 133 = .ok (.invokevirtual 129, 3) := by decide +kernel
theorem dX5_doWord_136 : decode cX5_doWord 136 = .ok (.iconst 0, 1) := by decide +kernel
theorem dX5_doWord_137 : decode cX5_doWord 137 = .ok (.ireturn, 1) := by decide +kernel
theorem dX5_faultOf_0 : decode cX5_faultOf 0 = .ok (.aload_n 0, 1) := by decide +kernel
theorem dX5_faultOf_1 : decode cX5_faultOf 1 = .ok (.getfield 13, 3) := by decide +kernel
theorem dX5_faultOf_4 : decode cX5_faultOf 4 = .ok (.iconst 0, 1) := by decide +kernel
theorem dX5_faultOf_5 : decode cX5_faultOf 5 = .ok (.invokevirtual 133, 3) := by decide +kernel
theorem dX5_faultOf_8 : decode cX5_faultOf 8 = .ok (.istore_n 2, 1) := by decide +kernel
theorem dX5_faultOf_9 : decode cX5_faultOf 9 = .ok (.aload_n 0, 1) := by decide +kernel
theorem dX5_faultOf_10 : decode cX5_faultOf 10 = .ok (.getfield 54, 3) := by decide +kernel
theorem dX5_faultOf_13 : decode cX5_faultOf 13 = .ok (.sipush 1000, 3) := by decide +kernel
theorem dX5_faultOf_16 : decode cX5_faultOf 16 = .ok (.if_icmp .lt 6, 3) := by decide +kernel
theorem dX5_faultOf_19 : decode cX5_faultOf 19 = .ok (.bipush 8, 2) := by decide +kernel
theorem dX5_faultOf_21 : decode cX5_faultOf 21 = .ok (.ireturn, 1) := by decide +kernel
theorem dX5_faultOf_22 : decode cX5_faultOf 22 = .ok (.aload_n 0, 1) := by decide +kernel
theorem dX5_faultOf_23 : decode cX5_faultOf 23 = .ok (.getfield 13, 3) := by decide +kernel
theorem dX5_faultOf_26 : decode cX5_faultOf 26 = .ok (.invokevirtual 136, 3) := by decide +kernel
theorem dX5_faultOf_29 : decode cX5_faultOf 29 = .ok (.iload_n 1, 1) := by decide +kernel
theorem dX5_faultOf_30 : decode cX5_faultOf 30 = .ok (.invokestatic 139, 3) := by decide +kernel
theorem dX5_faultOf_33 : decode cX5_faultOf 33 = .ok (.if_icmp .ge 5, 3) := by decide +kernel
theorem dX5_faultOf_36 : decode cX5_faultOf 36 = .ok (.iconst 3, 1) := by decide +kernel
theorem dX5_faultOf_37 : decode cX5_faultOf 37 = .ok (.ireturn, 1) := by decide +kernel
theorem dX5_faultOf_38 : decode cX5_faultOf 38 = .ok (.iload_n 1, 1) := by decide +kernel
theorem dX5_faultOf_39 : decode cX5_faultOf 39 = .ok (.bipush 29, 2) := by decide +kernel
theorem dX5_faultOf_41 : decode cX5_faultOf 41 = .ok (.if_icmp .eq 15, 3) := by decide +kernel
theorem dX5_faultOf_44 : decode cX5_faultOf 44 = .ok (.iload_n 1, 1) := by decide +kernel
theorem dX5_faultOf_45 : decode cX5_faultOf 45 = .ok (.bipush 30, 2) := by decide +kernel
theorem dX5_faultOf_47 : decode cX5_faultOf 47 = .ok (.if_icmp .eq 9, 3) := by decide +kernel
theorem dX5_faultOf_50 : decode cX5_faultOf 50 = .ok (.iload_n 1, 1) := by decide +kernel
theorem dX5_faultOf_51 : decode cX5_faultOf 51 = .ok (.bipush 31, 2) := by decide +kernel
theorem dX5_faultOf_53 : decode cX5_faultOf 53 = .ok (.if_icmp .ne 13, 3) := by decide +kernel
theorem dX5_faultOf_56 : decode cX5_faultOf 56 = .ok (.iload_n 2, 1) := by decide +kernel
theorem dX5_faultOf_57 : decode cX5_faultOf 57 = .ok (.invokestatic 142, 3) := by decide +kernel
theorem dX5_faultOf_60 : decode cX5_faultOf 60 = .ok (.ifCond .ne 6, 3) := by decide +kernel
theorem dX5_faultOf_63 : decode cX5_faultOf 63 = .ok (.bipush 6, 2) := by decide +kernel
theorem dX5_faultOf_65 : decode cX5_faultOf 65 = .ok (.ireturn, 1) := by decide +kernel
theorem dX5_faultOf_66 : decode cX5_faultOf 66 = .ok (.iload_n 1, 1) := by decide +kernel
theorem dX5_faultOf_67 : decode cX5_faultOf 67 = .ok (.bipush 12, 2) := by decide +kernel
theorem dX5_faultOf_69 : decode cX5_faultOf 69 = .ok (.if_icmp .eq 9, 3) := by decide +kernel
theorem dX5_faultOf_72 : decode cX5_faultOf 72 = .ok (.iload_n 1, 1) := by decide +kernel
theorem dX5_faultOf_73 : decode cX5_faultOf 73 = .ok (.bipush 13, 2) := by decide +kernel
theorem dX5_faultOf_75 : decode cX5_faultOf 75 = .ok (.if_icmp .ne 9, 3) := by decide +kernel
theorem dX5_faultOf_78 : decode cX5_faultOf 78 = .ok (.iload_n 2, 1) := by decide +kernel
theorem dX5_faultOf_79 : decode cX5_faultOf 79 = .ok (.ifCond .ne 5, 3) := by decide +kernel
theorem dX5_faultOf_82 : decode cX5_faultOf 82 = .ok (.iconst 5, 1) := by decide +kernel
theorem dX5_faultOf_83 : decode cX5_faultOf 83 = .ok (.ireturn, 1) := by decide +kernel
theorem dX5_faultOf_84 : decode cX5_faultOf 84 = .ok (.iload_n 1, 1) := by decide +kernel
theorem dX5_faultOf_85 : decode cX5_faultOf 85 = .ok (.bipush 50, 2) := by decide +kernel
theorem dX5_faultOf_87 : decode cX5_faultOf 87 = .ok (.if_icmp .eq 9, 3) := by decide +kernel
theorem dX5_faultOf_90 : decode cX5_faultOf 90 = .ok (.iload_n 1, 1) := by decide +kernel
theorem dX5_faultOf_91 : decode cX5_faultOf 91 = .ok (.bipush 45, 2) := by decide +kernel
theorem dX5_faultOf_93 : decode cX5_faultOf 93 = .ok (.if_icmp .ne 15, 3) := by decide +kernel
theorem dX5_faultOf_96 : decode cX5_faultOf 96 = .ok (.aload_n 0, 1) := by decide +kernel
theorem dX5_faultOf_97 : decode cX5_faultOf 97 = .ok (.getfield 58, 3) := by decide +kernel
theorem dX5_faultOf_100 : decode cX5_faultOf 100 = .ok (.bipush 12, 2) := by decide +kernel
theorem dX5_faultOf_102 : decode cX5_faultOf 102 = .ok (.if_icmp .lt 6, 3) := by decide +kernel
theorem dX5_faultOf_105 : decode cX5_faultOf 105 = .ok (.bipush 7, 2) := by decide +kernel
theorem dX5_faultOf_107 : decode cX5_faultOf 107 = .ok (.ireturn, 1) := by decide +kernel
theorem dX5_faultOf_108 : decode cX5_faultOf 108 = .ok (.iload_n 1, 1) := by decide +kernel
theorem dX5_faultOf_109 : decode cX5_faultOf 109 = .ok (.bipush 41, 2) := by decide +kernel
theorem dX5_faultOf_111 : decode cX5_faultOf 111 = .ok (.if_icmp .ne 18, 3) := by decide +kernel
theorem dX5_faultOf_114 : decode cX5_faultOf 114 = .ok (.aload_n 0, 1) := by decide +kernel
theorem dX5_faultOf_115 : decode cX5_faultOf 115 = .ok (.getfield 41, 3) := by decide +kernel
theorem dX5_faultOf_118 : decode cX5_faultOf 118 = .ok (.invokevirtual 145, 3) := by decide +kernel
theorem dX5_faultOf_121 : decode cX5_faultOf 121 = .ok (.bipush 12, 2) := by decide +kernel
theorem dX5_faultOf_123 : decode cX5_faultOf 123 = .ok (.if_icmp .lt 6, 3) := by decide +kernel
theorem dX5_faultOf_126 : decode cX5_faultOf 126 = .ok (.bipush 7, 2) := by decide +kernel
theorem dX5_faultOf_128 : decode cX5_faultOf 128 = .ok (.ireturn, 1) := by decide +kernel
theorem dX5_faultOf_129 : decode cX5_faultOf 129 = .ok (.iload_n 1, 1) := by decide +kernel
theorem dX5_faultOf_130 : decode cX5_faultOf 130 = .ok (.bipush 7, 2) := by decide +kernel
theorem dX5_faultOf_132 : decode cX5_faultOf 132 = .ok (.if_icmp .ne 11, 3) := by decide +kernel
theorem dX5_faultOf_135 : decode cX5_faultOf 135 = .ok (.iload_n 2, 1) := by decide +kernel
theorem dX5_faultOf_136 : decode cX5_faultOf 136 = .ok (.ifCond .ne 7, 3) := by decide +kernel
theorem dX5_faultOf_139 : decode cX5_faultOf 139 = .ok (.iconst 1, 1) := by decide +kernel
theorem dX5_faultOf_140 : decode cX5_faultOf 140 = .ok (.goto 4, 3) := by decide +kernel
theorem dX5_faultOf_143 : decode cX5_faultOf 143 = .ok (.iconst 0, 1) := by decide +kernel
theorem dX5_faultOf_144 : decode cX5_faultOf 144 = .ok (.istore_n 3, 1) := by decide +kernel
theorem dX5_faultOf_145 : decode cX5_faultOf 145 = .ok (.iload_n 3, 1) := by decide +kernel
theorem dX5_faultOf_146 : decode cX5_faultOf 146 = .ok (.ifCond .eq 7, 3) := by decide +kernel
theorem dX5_faultOf_149 : decode cX5_faultOf 149 = .ok (.iconst 1, 1) := by decide +kernel
theorem dX5_faultOf_150 : decode cX5_faultOf 150 = .ok (.goto 7, 3) := by decide +kernel
theorem dX5_faultOf_153 : decode cX5_faultOf 153 = .ok (.iload_n 1, 1) := by decide +kernel
theorem dX5_faultOf_154 : decode cX5_faultOf 154 = .ok (.invokestatic 148, 3) := by decide +kernel
theorem dX5_faultOf_157 : decode cX5_faultOf 157 = .ok (.istore 4, 2) := by decide +kernel
theorem dX5_faultOf_159 : decode cX5_faultOf 159 = .ok (.aload_n 0, 1) := by decide +kernel
theorem dX5_faultOf_160 : decode cX5_faultOf 160 = .ok (.getfield 13, 3) := by decide +kernel
theorem dX5_faultOf_163 : decode cX5_faultOf 163 = .ok (.invokevirtual 136, 3) := by decide +kernel
theorem dX5_faultOf_166 : decode cX5_faultOf 166 = .ok (.iload_n 1, 1) := by decide +kernel
theorem dX5_faultOf_167 : decode cX5_faultOf 167 = .ok (.invokestatic 139, 3) := by decide +kernel
theorem dX5_faultOf_170 : decode cX5_faultOf 170 = .ok (.isub, 1) := by decide +kernel
theorem dX5_faultOf_171 : decode cX5_faultOf 171 = .ok (.iload 4, 2) := by decide +kernel
theorem dX5_faultOf_173 : decode cX5_faultOf 173 = .ok (.iadd, 1) := by decide +kernel
theorem dX5_faultOf_174 : decode cX5_faultOf 174 = .ok (.bipush 32, 2) := by decide +kernel
theorem dX5_faultOf_176 : decode cX5_faultOf 176 = .ok (.if_icmp .le 7, 3) := by decide +kernel
theorem dX5_faultOf_179 : decode cX5_faultOf 179 = .ok (.iconst 4, 1) := by decide +kernel
theorem dX5_faultOf_180 : decode cX5_faultOf 180 = .ok (.goto 4, 3) := by decide +kernel
theorem dX5_faultOf_183 : decode cX5_faultOf 183 = .ok (.iconst 0, 1) := by decide +kernel
theorem dX5_faultOf_184 : decode cX5_faultOf 184 = .ok (.ireturn, 1) := by decide +kernel
theorem dX5_arrange_0 : decode cX5_arrange 0 = .ok (.aload_n 0, 1) := by decide +kernel
theorem dX5_arrange_1 : decode cX5_arrange 1 = .ok (.getfield 13, 3) := by decide +kernel
theorem dX5_arrange_4 : decode cX5_arrange 4 = .ok (.iconst 0, 1) := by decide +kernel
theorem dX5_arrange_5 : decode cX5_arrange 5 = .ok (.invokevirtual 133, 3) := by decide +kernel
theorem dX5_arrange_8 : decode cX5_arrange 8 = .ok (.istore_n 2, 1) := by decide +kernel
theorem dX5_arrange_9 : decode cX5_arrange 9 = .ok (.aload_n 0, 1) := by decide +kernel
theorem dX5_arrange_10 : decode cX5_arrange 10 = .ok (.getfield 13, 3) := by decide +kernel
theorem dX5_arrange_13 : decode cX5_arrange 13 = .ok (.iconst 1, 1) := by decide +kernel
theorem dX5_arrange_14 : decode cX5_arrange 14 = .ok (.invokevirtual 133, 3) := by decide +kernel
theorem dX5_arrange_17 : decode cX5_arrange 17 = .ok (.istore_n 3, 1) := by decide +kernel
theorem dX5_arrange_18 : decode cX5_arrange 18 = .ok (.aload_n 0, 1) := by decide +kernel
theorem dX5_arrange_19 : decode cX5_arrange 19 = .ok (.getfield 13, 3) := by decide +kernel
theorem dX5_arrange_22 : decode cX5_arrange 22 = .ok (.iconst 2, 1) := by decide +kernel
theorem dX5_arrange_23 : decode cX5_arrange 23 = .ok (.invokevirtual 133, 3) := by decide +kernel
theorem dX5_arrange_26 : decode cX5_arrange 26 = .ok (.istore 4, 2) := by decide +kernel
theorem dX5_arrange_28 : decode cX5_arrange 28 = .ok (.iload_n 1, 1) := by decide +kernel
theorem dX5_arrange_29 : decode cX5_arrange 29 = .ok (.tableswitch 224 0 7 #[47, 59, 70, 99, 111, 150, 170, 208], 47) := by decide +kernel
theorem dX5_arrange_76 : decode cX5_arrange 76 = .ok (.aload_n 0, 1) := by decide +kernel
theorem dX5_arrange_77 : decode cX5_arrange 77 = .ok (.getfield 13, 3) := by decide +kernel
theorem dX5_arrange_80 : decode cX5_arrange 80 = .ok (.iload_n 2, 1) := by decide +kernel
theorem dX5_arrange_81 : decode cX5_arrange 81 = .ok (.invokevirtual 114, 3) := by decide +kernel
theorem dX5_arrange_84 : decode cX5_arrange 84 = .ok (.pop, 1) := by decide +kernel
theorem dX5_arrange_85 : decode cX5_arrange 85 = .ok (.goto 183, 3) := by decide +kernel
theorem dX5_arrange_88 : decode cX5_arrange 88 = .ok (.aload_n 0, 1) := by decide +kernel
theorem dX5_arrange_89 : decode cX5_arrange 89 = .ok (.getfield 13, 3) := by decide +kernel
theorem dX5_arrange_92 : decode cX5_arrange 92 = .ok (.iconst 1, 1) := by decide +kernel
theorem dX5_arrange_93 : decode cX5_arrange 93 = .ok (.invokevirtual 151, 3) := by decide +kernel
theorem dX5_arrange_96 : decode cX5_arrange 96 = .ok (.goto 172, 3) := by decide +kernel
theorem dX5_arrange_99 : decode cX5_arrange 99 = .ok (.aload_n 0, 1) := by decide +kernel
theorem dX5_arrange_100 : decode cX5_arrange 100 = .ok (.getfield 13, 3) := by decide +kernel
theorem dX5_arrange_103 : decode cX5_arrange 103 = .ok (.iconst 2, 1) := by decide +kernel
theorem dX5_arrange_104 : decode cX5_arrange 104 = .ok (.invokevirtual 151, 3) := by decide +kernel
theorem dX5_arrange_107 : decode cX5_arrange 107 = .ok (.aload_n 0, 1) := by decide +kernel
theorem dX5_arrange_108 : decode cX5_arrange 108 = .ok (.getfield 13, 3) := by decide +kernel
theorem dX5_arrange_111 : decode cX5_arrange 111 = .ok (.iload_n 2, 1) := by decide +kernel
theorem dX5_arrange_112 : decode cX5_arrange 112 = .ok (.invokevirtual 114, 3) := by decide +kernel
theorem dX5_arrange_115 : decode cX5_arrange 115 = .ok (.pop, 1) := by decide +kernel
theorem dX5_arrange_116 : decode cX5_arrange 116 = .ok (.aload_n 0, 1) := by decide +kernel
theorem dX5_arrange_117 : decode cX5_arrange 117 = .ok (.getfield 13, 3) := by decide +kernel
theorem dX5_arrange_120 : decode cX5_arrange 120 = .ok (.iload_n 3, 1) := by decide +kernel
theorem dX5_arrange_121 : decode cX5_arrange 121 = .ok (.invokevirtual 114, 3) := by decide +kernel
theorem dX5_arrange_124 : decode cX5_arrange 124 = .ok (.pop, 1) := by decide +kernel
theorem dX5_arrange_125 : decode cX5_arrange 125 = .ok (.goto 143, 3) := by decide +kernel
theorem dX5_arrange_128 : decode cX5_arrange 128 = .ok (.aload_n 0, 1) := by decide +kernel
theorem dX5_arrange_129 : decode cX5_arrange 129 = .ok (.getfield 13, 3) := by decide +kernel
theorem dX5_arrange_132 : decode cX5_arrange 132 = .ok (.iload_n 3, 1) := by decide +kernel
theorem dX5_arrange_133 : decode cX5_arrange 133 = .ok (.invokevirtual 114, 3) := by decide +kernel
theorem dX5_arrange_136 : decode cX5_arrange 136 = .ok (.pop, 1) := by decide +kernel
theorem dX5_arrange_137 : decode cX5_arrange 137 = .ok (.goto 131, 3) := by decide +kernel
theorem dX5_arrange_140 : decode cX5_arrange 140 = .ok (.aload_n 0, 1) := by decide +kernel
theorem dX5_arrange_141 : decode cX5_arrange 141 = .ok (.getfield 13, 3) := by decide +kernel
theorem dX5_arrange_144 : decode cX5_arrange 144 = .ok (.iconst 3, 1) := by decide +kernel
theorem dX5_arrange_145 : decode cX5_arrange 145 = .ok (.invokevirtual 151, 3) := by decide +kernel
theorem dX5_arrange_148 : decode cX5_arrange 148 = .ok (.aload_n 0, 1) := by decide +kernel
theorem dX5_arrange_149 : decode cX5_arrange 149 = .ok (.getfield 13, 3) := by decide +kernel
theorem dX5_arrange_152 : decode cX5_arrange 152 = .ok (.iload_n 3, 1) := by decide +kernel
theorem dX5_arrange_153 : decode cX5_arrange 153 = .ok (.invokevirtual 114, 3) := by decide +kernel
theorem dX5_arrange_156 : decode cX5_arrange 156 = .ok (.pop, 1) := by decide +kernel
theorem dX5_arrange_157 : decode cX5_arrange 157 = .ok (.aload_n 0, 1) := by decide +kernel
theorem dX5_arrange_158 : decode cX5_arrange 158 = .ok (.getfield 13, 3) := by decide +kernel
theorem dX5_arrange_161 : decode cX5_arrange 161 = .ok (.iload_n 2, 1) := by decide +kernel
theorem dX5_arrange_162 : decode cX5_arrange 162 = .ok (.invokevirtual 114, 3) := by decide +kernel
theorem dX5_arrange_165 : decode cX5_arrange 165 = .ok (.pop, 1) := by decide +kernel
theorem dX5_arrange_166 : decode cX5_arrange 166 = .ok (.aload_n 0, 1) := by decide +kernel
theorem dX5_arrange_167 : decode cX5_arrange 167 = .ok (.getfield 13, 3) := by decide +kernel
theorem dX5_arrange_170 : decode cX5_arrange 170 = .ok (.iload 4, 2) := by decide +kernel
theorem dX5_arrange_172 : decode cX5_arrange 172 = .ok (.invokevirtual 114, 3) := by decide +kernel
theorem dX5_arrange_175 : decode cX5_arrange 175 = .ok (.pop, 1) := by decide +kernel
theorem dX5_arrange_176 : decode cX5_arrange 176 = .ok (.goto 92, 3) := by decide +kernel
theorem dX5_arrange_179 : decode cX5_arrange 179 = .ok (.aload_n 0, 1) := by decide +kernel
theorem dX5_arrange_180 : decode cX5_arrange 180 = .ok (.getfield 13, 3) := by decide +kernel
theorem dX5_arrange_183 : decode cX5_arrange 183 = .ok (.iconst 2, 1) := by decide +kernel
theorem dX5_arrange_184 : decode cX5_arrange 184 = .ok (.invokevirtual 151, 3) := by decide +kernel
theorem dX5_arrange_187 : decode cX5_arrange 187 = .ok (.aload_n 0, 1) := by decide +kernel
theorem dX5_arrange_188 : decode cX5_arrange 188 = .ok (.getfield 13, 3) := by decide +kernel
theorem dX5_arrange_191 : decode cX5_arrange 191 = .ok (.iload_n 2, 1) := by decide +kernel
theorem dX5_arrange_192 : decode cX5_arrange 192 = .ok (.invokevirtual 114, 3) := by decide +kernel
theorem dX5_arrange_195 : decode cX5_arrange 195 = .ok (.pop, 1) := by decide +kernel
theorem dX5_arrange_196 : decode cX5_arrange 196 = .ok (.goto 72, 3) := by decide +kernel
theorem dX5_arrange_199 : decode cX5_arrange 199 = .ok (.aload_n 0, 1) := by decide +kernel
theorem dX5_arrange_200 : decode cX5_arrange 200 = .ok (.getfield 13, 3) := by decide +kernel
theorem dX5_arrange_203 : decode cX5_arrange 203 = .ok (.iconst 2, 1) := by decide +kernel
theorem dX5_arrange_204 : decode cX5_arrange 204 = .ok (.invokevirtual 151, 3) := by decide +kernel
theorem dX5_arrange_207 : decode cX5_arrange 207 = .ok (.aload_n 0, 1) := by decide +kernel
theorem dX5_arrange_208 : decode cX5_arrange 208 = .ok (.getfield 13, 3) := by decide +kernel
theorem dX5_arrange_211 : decode cX5_arrange 211 = .ok (.iload_n 2, 1) := by decide +kernel
theorem dX5_arrange_212 : decode cX5_arrange 212 = .ok (.invokevirtual 114, 3) := by decide +kernel
theorem dX5_arrange_215 : decode cX5_arrange 215 = .ok (.pop, 1) := by decide +kernel
theorem dX5_arrange_216 : decode cX5_arrange 216 = .ok (.aload_n 0, 1) := by decide +kernel
theorem dX5_arrange_217 : decode cX5_arrange 217 = .ok (.getfield 13, 3) := by decide +kernel
theorem dX5_arrange_220 : decode cX5_arrange 220 = .ok (.iload_n 3, 1) := by decide +kernel
theorem dX5_arrange_221 : decode cX5_arrange 221 = .ok (.invokevirtual 114, 3) := by decide +kernel
theorem dX5_arrange_224 : decode cX5_arrange 224 = .ok (.pop, 1) := by decide +kernel
theorem dX5_arrange_225 : decode cX5_arrange 225 = .ok (.aload_n 0, 1) := by decide +kernel
theorem dX5_arrange_226 : decode cX5_arrange 226 = .ok (.getfield 13, 3) := by decide +kernel
theorem dX5_arrange_229 : decode cX5_arrange 229 = .ok (.iload_n 2, 1) := by decide +kernel
theorem dX5_arrange_230 : decode cX5_arrange 230 = .ok (.invokevirtual 114, 3) := by decide +kernel
theorem dX5_arrange_233 : decode cX5_arrange 233 = .ok (.pop, 1) := by decide +kernel
theorem dX5_arrange_234 : decode cX5_arrange 234 = .ok (.goto 34, 3) := by decide +kernel
theorem dX5_arrange_237 : decode cX5_arrange 237 = .ok (.iload_n 2, 1) := by decide +kernel
theorem dX5_arrange_238 : decode cX5_arrange 238 = .ok (.ifCond .eq 30, 3) := by decide +kernel
theorem dX5_arrange_241 : decode cX5_arrange 241 = .ok (.aload_n 0, 1) := by decide +kernel
theorem dX5_arrange_242 : decode cX5_arrange 242 = .ok (.getfield 13, 3) := by decide +kernel
theorem dX5_arrange_245 : decode cX5_arrange 245 = .ok (.iload_n 2, 1) := by decide +kernel
theorem dX5_arrange_246 : decode cX5_arrange 246 = .ok (.invokevirtual 114, 3) := by decide +kernel
theorem dX5_arrange_249 : decode cX5_arrange 249 = .ok (.pop, 1) := by decide +kernel
theorem dX5_arrange_250 : decode cX5_arrange 250 = .ok (.goto 18, 3) := by decide +kernel
theorem dX5_arrange_253 : decode cX5_arrange 253 = .ok (.aload_n 0, 1) := by decide +kernel
theorem dX5_arrange_254 : decode cX5_arrange 254 = .ok (.getfield 13, 3) := by decide +kernel
theorem dX5_arrange_257 : decode cX5_arrange 257 = .ok (.aload_n 0, 1) := by decide +kernel
theorem dX5_arrange_258 : decode cX5_arrange 258 = .ok (.getfield 13, 3) := by decide +kernel
theorem dX5_arrange_261 : decode cX5_arrange 261 = .ok (.invokevirtual 136, 3) := by decide +kernel
theorem dX5_arrange_264 : decode cX5_arrange 264 = .ok (.invokevirtual 114, 3) := by decide +kernel
theorem dX5_arrange_267 : decode cX5_arrange 267 = .ok (.pop, 1) := by decide +kernel
theorem dX5_arrange_268 : decode cX5_arrange 268 = .ok (.return_, 1) := by decide +kernel
theorem dX5_ofPair_0 : decode cX5_ofPair 0 = .ok (.iload_n 0, 1) := by decide +kernel
theorem dX5_ofPair_1 : decode cX5_ofPair 1 = .ok (.tableswitch 181 9 22 #[71, 75, 79, 83, 97, 115, 121, 127, 131, 135, 139, 146, 153, 167], 71) := by decide +kernel
theorem dX5_ofPair_72 : decode cX5_ofPair 72 = .ok (.iload_n 1, 1) := by decide +kernel
theorem dX5_ofPair_73 : decode cX5_ofPair 73 = .ok (.iload_n 2, 1) := by decide +kernel
theorem dX5_ofPair_74 : decode cX5_ofPair 74 = .ok (.iadd, 1) := by decide +kernel
theorem dX5_ofPair_75 : decode cX5_ofPair 75 = .ok (.ireturn, 1) := by decide +kernel
theorem dX5_ofPair_76 : decode cX5_ofPair 76 = .ok (.iload_n 1, 1) := by decide +kernel
theorem dX5_ofPair_77 : decode cX5_ofPair 77 = .ok (.iload_n 2, 1) := by decide +kernel
theorem dX5_ofPair_78 : decode cX5_ofPair 78 = .ok (.isub, 1) := by decide +kernel
theorem dX5_ofPair_79 : decode cX5_ofPair 79 = .ok (.ireturn, 1) := by decide +kernel
theorem dX5_ofPair_80 : decode cX5_ofPair 80 = .ok (.iload_n 1, 1) := by decide +kernel
theorem dX5_ofPair_81 : decode cX5_ofPair 81 = .ok (.iload_n 2, 1) := by decide +kernel
theorem dX5_ofPair_82 : decode cX5_ofPair 82 = .ok (.imul, 1) := by decide +kernel
theorem dX5_ofPair_83 : decode cX5_ofPair 83 = .ok (.ireturn, 1) := by decide +kernel
theorem dX5_ofPair_84 : decode cX5_ofPair 84 = .ok (.iload_n 2, 1) := by decide +kernel
theorem dX5_ofPair_85 : decode cX5_ofPair 85 = .ok (.ifCond .ne 7, 3) := by decide +kernel
theorem dX5_ofPair_88 : decode cX5_ofPair 88 = .ok (.iconst 0, 1) := by decide +kernel
theorem dX5_ofPair_89 : decode cX5_ofPair 89 = .ok (.goto 8, 3) := by decide +kernel
theorem dX5_ofPair_92 : decode cX5_ofPair 92 = .ok (.iload_n 1, 1) := by decide +kernel
theorem dX5_ofPair_93 : decode cX5_ofPair 93 = .ok (.iload_n 2, 1) := by decide +kernel
theorem dX5_ofPair_94 : decode cX5_ofPair 94 = .ok (.invokestatic 154, 3) := by decide +kernel
theorem dX5_ofPair_97 : decode cX5_ofPair 97 = .ok (.ireturn, 1) := by decide +kernel
theorem dX5_ofPair_98 : decode cX5_ofPair 98 = .ok (.iload_n 2, 1) := by decide +kernel
theorem dX5_ofPair_99 : decode cX5_ofPair 99 = .ok (.ifCond .ne 7, 3) := by decide +kernel
theorem dX5_ofPair_102 : decode cX5_ofPair 102 = .ok (.iconst 0, 1) := by decide +kernel
theorem dX5_ofPair_103 : decode cX5_ofPair 103 = .ok (.goto 12, 3) := by decide +kernel
theorem dX5_ofPair_106 : decode cX5_ofPair 106 = .ok (.iload_n 1, 1) := by decide +kernel
theorem dX5_ofPair_107 : decode cX5_ofPair 107 = .ok (.iload_n 2, 1) := by decide +kernel
theorem dX5_ofPair_108 : decode cX5_ofPair 108 = .ok (.iload_n 1, 1) := by decide +kernel
theorem dX5_ofPair_109 : decode cX5_ofPair 109 = .ok (.iload_n 2, 1) := by decide +kernel
theorem dX5_ofPair_110 : decode cX5_ofPair 110 = .ok (.invokestatic 154, 3) := by decide +kernel
theorem dX5_ofPair_113 : decode cX5_ofPair 113 = .ok (.imul, 1) := by decide +kernel
theorem dX5_ofPair_114 : decode cX5_ofPair 114 = .ok (.isub, 1) := by decide +kernel
theorem dX5_ofPair_115 : decode cX5_ofPair 115 = .ok (.ireturn, 1) := by decide +kernel
theorem dX5_ofPair_116 : decode cX5_ofPair 116 = .ok (.iload_n 1, 1) := by decide +kernel
theorem dX5_ofPair_117 : decode cX5_ofPair 117 = .ok (.iload_n 2, 1) := by decide +kernel
theorem dX5_ofPair_118 : decode cX5_ofPair 118 = .ok (.invokestatic 159, 3) := by decide +kernel
theorem dX5_ofPair_121 : decode cX5_ofPair 121 = .ok (.ireturn, 1) := by decide +kernel
theorem dX5_ofPair_122 : decode cX5_ofPair 122 = .ok (.iload_n 1, 1) := by decide +kernel
theorem dX5_ofPair_123 : decode cX5_ofPair 123 = .ok (.iload_n 2, 1) := by decide +kernel
theorem dX5_ofPair_124 : decode cX5_ofPair 124 = .ok (.invokestatic 162, 3) := by decide +kernel
theorem dX5_ofPair_127 : decode cX5_ofPair 127 = .ok (.ireturn, 1) := by decide +kernel
theorem dX5_ofPair_128 : decode cX5_ofPair 128 = .ok (.iload_n 1, 1) := by decide +kernel
theorem dX5_ofPair_129 : decode cX5_ofPair 129 = .ok (.iload_n 2, 1) := by decide +kernel
theorem dX5_ofPair_130 : decode cX5_ofPair 130 = .ok (.iand, 1) := by decide +kernel
theorem dX5_ofPair_131 : decode cX5_ofPair 131 = .ok (.ireturn, 1) := by decide +kernel
theorem dX5_ofPair_132 : decode cX5_ofPair 132 = .ok (.iload_n 1, 1) := by decide +kernel
theorem dX5_ofPair_133 : decode cX5_ofPair 133 = .ok (.iload_n 2, 1) := by decide +kernel
theorem dX5_ofPair_134 : decode cX5_ofPair 134 = .ok (.ior, 1) := by decide +kernel
theorem dX5_ofPair_135 : decode cX5_ofPair 135 = .ok (.ireturn, 1) := by decide +kernel
theorem dX5_ofPair_136 : decode cX5_ofPair 136 = .ok (.iload_n 1, 1) := by decide +kernel
theorem dX5_ofPair_137 : decode cX5_ofPair 137 = .ok (.iload_n 2, 1) := by decide +kernel
theorem dX5_ofPair_138 : decode cX5_ofPair 138 = .ok (.ixor, 1) := by decide +kernel
theorem dX5_ofPair_139 : decode cX5_ofPair 139 = .ok (.ireturn, 1) := by decide +kernel
theorem dX5_ofPair_140 : decode cX5_ofPair 140 = .ok (.iload_n 1, 1) := by decide +kernel
theorem dX5_ofPair_141 : decode cX5_ofPair 141 = .ok (.iload_n 2, 1) := by decide +kernel
theorem dX5_ofPair_142 : decode cX5_ofPair 142 = .ok (.bipush 31, 2) := by decide +kernel
theorem dX5_ofPair_144 : decode cX5_ofPair 144 = .ok (.iand, 1) := by decide +kernel
theorem dX5_ofPair_145 : decode cX5_ofPair 145 = .ok (.ishl, 1) := by decide +kernel
theorem dX5_ofPair_146 : decode cX5_ofPair 146 = .ok (.ireturn, 1) := by decide +kernel
theorem dX5_ofPair_147 : decode cX5_ofPair 147 = .ok (.iload_n 1, 1) := by decide +kernel
theorem dX5_ofPair_148 : decode cX5_ofPair 148 = .ok (.iload_n 2, 1) := by decide +kernel
theorem dX5_ofPair_149 : decode cX5_ofPair 149 = .ok (.bipush 31, 2) := by decide +kernel
theorem dX5_ofPair_151 : decode cX5_ofPair 151 = .ok (.iand, 1) := by decide +kernel
theorem dX5_ofPair_152 : decode cX5_ofPair 152 = .ok (.iushr, 1) := by decide +kernel
theorem dX5_ofPair_153 : decode cX5_ofPair 153 = .ok (.ireturn, 1) := by decide +kernel
theorem dX5_ofPair_154 : decode cX5_ofPair 154 = .ok (.iload_n 1, 1) := by decide +kernel
theorem dX5_ofPair_155 : decode cX5_ofPair 155 = .ok (.iload_n 2, 1) := by decide +kernel
theorem dX5_ofPair_156 : decode cX5_ofPair 156 = .ok (.if_icmp .ne 7, 3) := by decide +kernel
theorem dX5_ofPair_159 : decode cX5_ofPair 159 = .ok (.iconst 1, 1) := by decide +kernel
theorem dX5_ofPair_160 : decode cX5_ofPair 160 = .ok (.goto 4, 3) := by decide +kernel
theorem dX5_ofPair_163 : decode cX5_ofPair 163 = .ok (.iconst 0, 1) := by decide +kernel
theorem dX5_ofPair_164 : decode cX5_ofPair 164 = .ok (.invokestatic 165, 3) := by decide +kernel
theorem dX5_ofPair_167 : decode cX5_ofPair 167 = .ok (.ireturn, 1) := by decide +kernel
theorem dX5_ofPair_168 : decode cX5_ofPair 168 = .ok (.iload_n 1, 1) := by decide +kernel
theorem dX5_ofPair_169 : decode cX5_ofPair 169 = .ok (.iload_n 2, 1) := by decide +kernel
theorem dX5_ofPair_170 : decode cX5_ofPair 170 = .ok (.if_icmp .ge 7, 3) := by decide +kernel
theorem dX5_ofPair_173 : decode cX5_ofPair 173 = .ok (.iconst 1, 1) := by decide +kernel
theorem dX5_ofPair_174 : decode cX5_ofPair 174 = .ok (.goto 4, 3) := by decide +kernel
theorem dX5_ofPair_177 : decode cX5_ofPair 177 = .ok (.iconst 0, 1) := by decide +kernel
theorem dX5_ofPair_178 : decode cX5_ofPair 178 = .ok (.invokestatic 165, 3) := by decide +kernel
theorem dX5_ofPair_181 : decode cX5_ofPair 181 = .ok (.ireturn, 1) := by decide +kernel
theorem dX5_ofPair_182 : decode cX5_ofPair 182 = .ok (.iload_n 1, 1) := by decide +kernel
theorem dX5_ofPair_183 : decode cX5_ofPair 183 = .ok (.iload_n 2, 1) := by decide +kernel
theorem dX5_ofPair_184 : decode cX5_ofPair 184 = .ok (.if_icmp .le 7, 3) := by decide +kernel
theorem dX5_ofPair_187 : decode cX5_ofPair 187 = .ok (.iconst 1, 1) := by decide +kernel
theorem dX5_ofPair_188 : decode cX5_ofPair 188 = .ok (.goto 4, 3) := by decide +kernel
theorem dX5_ofPair_191 : decode cX5_ofPair 191 = .ok (.iconst 0, 1) := by decide +kernel
theorem dX5_ofPair_192 : decode cX5_ofPair 192 = .ok (.invokestatic 165, 3) := by decide +kernel
theorem dX5_ofPair_195 : decode cX5_ofPair 195 = .ok (.ireturn, 1) := by decide +kernel
theorem dX5_ofOne_0 : decode cX5_ofOne 0 = .ok (.iload_n 0, 1) := by decide +kernel
theorem dX5_ofOne_1 : decode cX5_ofOne 1 = .ok (.tableswitch 62 24 27 #[31, 34, 45, 49], 31) := by decide +kernel
theorem dX5_ofOne_32 : decode cX5_ofOne 32 = .ok (.iload_n 1, 1) := by decide +kernel
theorem dX5_ofOne_33 : decode cX5_ofOne 33 = .ok (.ineg, 1) := by decide +kernel
theorem dX5_ofOne_34 : decode cX5_ofOne 34 = .ok (.ireturn, 1) := by decide +kernel
theorem dX5_ofOne_35 : decode cX5_ofOne 35 = .ok (.iload_n 1, 1) := by decide +kernel
theorem dX5_ofOne_36 : decode cX5_ofOne 36 = .ok (.ifCond .ge 8, 3) := by decide +kernel
theorem dX5_ofOne_39 : decode cX5_ofOne 39 = .ok (.iload_n 1, 1) := by decide +kernel
theorem dX5_ofOne_40 : decode cX5_ofOne 40 = .ok (.ineg, 1) := by decide +kernel
theorem dX5_ofOne_41 : decode cX5_ofOne 41 = .ok (.goto 4, 3) := by decide +kernel
theorem dX5_ofOne_44 : decode cX5_ofOne 44 = .ok (.iload_n 1, 1) := by decide +kernel
theorem dX5_ofOne_45 : decode cX5_ofOne 45 = .ok (.ireturn, 1) := by decide +kernel
theorem dX5_ofOne_46 : decode cX5_ofOne 46 = .ok (.iload_n 1, 1) := by decide +kernel
theorem dX5_ofOne_47 : decode cX5_ofOne 47 = .ok (.iconst (-1), 1) := by decide +kernel
theorem dX5_ofOne_48 : decode cX5_ofOne 48 = .ok (.ixor, 1) := by decide +kernel
theorem dX5_ofOne_49 : decode cX5_ofOne 49 = .ok (.ireturn, 1) := by decide +kernel
theorem dX5_ofOne_50 : decode cX5_ofOne 50 = .ok (.iload_n 1, 1) := by decide +kernel
theorem dX5_ofOne_51 : decode cX5_ofOne 51 = .ok (.ifCond .ne 7, 3) := by decide +kernel
theorem dX5_ofOne_54 : decode cX5_ofOne 54 = .ok (.iconst 1, 1) := by decide +kernel
theorem dX5_ofOne_55 : decode cX5_ofOne 55 = .ok (.goto 4, 3) := by decide +kernel
theorem dX5_ofOne_58 : decode cX5_ofOne 58 = .ok (.iconst 0, 1) := by decide +kernel
theorem dX5_ofOne_59 : decode cX5_ofOne 59 = .ok (.invokestatic 165, 3) := by decide +kernel
theorem dX5_ofOne_62 : decode cX5_ofOne 62 = .ok (.ireturn, 1) := by decide +kernel
theorem dX5_ofOne_63 : decode cX5_ofOne 63 = .ok (.iload_n 1, 1) := by decide +kernel
theorem dX5_ofOne_64 : decode cX5_ofOne 64 = .ok (.ifCond .ge 7, 3) := by decide +kernel
theorem dX5_ofOne_67 : decode cX5_ofOne 67 = .ok (.iconst 1, 1) := by decide +kernel
theorem dX5_ofOne_68 : decode cX5_ofOne 68 = .ok (.goto 4, 3) := by decide +kernel
theorem dX5_ofOne_71 : decode cX5_ofOne 71 = .ok (.iconst 0, 1) := by decide +kernel
theorem dX5_ofOne_72 : decode cX5_ofOne 72 = .ok (.invokestatic 165, 3) := by decide +kernel
theorem dX5_ofOne_75 : decode cX5_ofOne 75 = .ok (.ireturn, 1) := by decide +kernel
theorem dX5_flag_0 : decode cX5_flag 0 = .ok (.iload_n 0, 1) := by decide +kernel
theorem dX5_flag_1 : decode cX5_flag 1 = .ok (.ifCond .eq 7, 3) := by decide +kernel
theorem dX5_flag_4 : decode cX5_flag 4 = .ok (.iconst (-1), 1) := by decide +kernel
theorem dX5_flag_5 : decode cX5_flag 5 = .ok (.goto 4, 3) := by decide +kernel
theorem dX5_flag_8 : decode cX5_flag 8 = .ok (.iconst 0, 1) := by decide +kernel
theorem dX5_flag_9 : decode cX5_flag 9 = .ok (.ireturn, 1) := by decide +kernel
theorem dX5_store_0 : decode cX5_store 0 = .ok (.aload_n 0, 1) := by decide +kernel
theorem dX5_store_1 : decode cX5_store 1 = .ok (.getfield 13, 3) := by decide +kernel
theorem dX5_store_4 : decode cX5_store 4 = .ok (.invokevirtual 106, 3) := by decide +kernel
theorem dX5_store_7 : decode cX5_store 7 = .ok (.istore_n 2, 1) := by decide +kernel
theorem dX5_store_8 : decode cX5_store 8 = .ok (.iload_n 1, 1) := by decide +kernel
theorem dX5_store_9 : decode cX5_store 9 = .ok (.tableswitch 79 29 31 #[27, 43, 58], 27) := by decide +kernel
theorem dX5_store_36 : decode cX5_store 36 = .ok (.aload_n 0, 1) := by decide +kernel
theorem dX5_store_37 : decode cX5_store 37 = .ok (.getfield 13, 3) := by decide +kernel
theorem dX5_store_40 : decode cX5_store 40 = .ok (.aload_n 0, 1) := by decide +kernel
theorem dX5_store_41 : decode cX5_store 41 = .ok (.iload_n 2, 1) := by decide +kernel
theorem dX5_store_42 : decode cX5_store 42 = .ok (.invokevirtual 169, 3) := by decide +kernel
theorem dX5_store_45 : decode cX5_store 45 = .ok (.invokevirtual 114, 3) := by decide +kernel
theorem dX5_store_48 : decode cX5_store 48 = .ok (.pop, 1) := by decide +kernel
theorem dX5_store_49 : decode cX5_store 49 = .ok (.goto 47, 3) := by decide +kernel
theorem dX5_store_52 : decode cX5_store 52 = .ok (.aload_n 0, 1) := by decide +kernel
theorem dX5_store_53 : decode cX5_store 53 = .ok (.iload_n 2, 1) := by decide +kernel
theorem dX5_store_54 : decode cX5_store 54 = .ok (.aload_n 0, 1) := by decide +kernel
theorem dX5_store_55 : decode cX5_store 55 = .ok (.getfield 13, 3) := by decide +kernel
theorem dX5_store_58 : decode cX5_store 58 = .ok (.invokevirtual 106, 3) := by decide +kernel
theorem dX5_store_61 : decode cX5_store 61 = .ok (.invokevirtual 172, 3) := by decide +kernel
theorem dX5_store_64 : decode cX5_store 64 = .ok (.goto 32, 3) := by decide +kernel
theorem dX5_store_67 : decode cX5_store 67 = .ok (.aload_n 0, 1) := by decide +kernel
theorem dX5_store_68 : decode cX5_store 68 = .ok (.iload_n 2, 1) := by decide +kernel
theorem dX5_store_69 : decode cX5_store 69 = .ok (.aload_n 0, 1) := by decide +kernel
theorem dX5_store_70 : decode cX5_store 70 = .ok (.iload_n 2, 1) := by decide +kernel
theorem dX5_store_71 : decode cX5_store 71 = .ok (.invokevirtual 169, 3) := by decide +kernel
theorem dX5_store_74 : decode cX5_store 74 = .ok (.aload_n 0, 1) := by decide +kernel
theorem dX5_store_75 : decode cX5_store 75 = .ok (.getfield 13, 3) := by decide +kernel
theorem dX5_store_78 : decode cX5_store 78 = .ok (.invokevirtual 106, 3) := by decide +kernel
theorem dX5_store_81 : decode cX5_store 81 = .ok (.iadd, 1) := by decide +kernel
theorem dX5_store_82 : decode cX5_store 82 = .ok (.invokevirtual 172, 3) := by decide +kernel
theorem dX5_store_85 : decode cX5_store 85 = .ok (.goto 11, 3) := by decide +kernel
theorem dX5_store_88 : decode cX5_store 88 = .ok (.aload_n 0, 1) := by decide +kernel
theorem dX5_store_89 : decode cX5_store 89 = .ok (.getfield 17, 3) := by decide +kernel
theorem dX5_store_92 : decode cX5_store 92 = .ok (.iload_n 2, 1) := by decide +kernel
theorem dX5_store_93 : decode cX5_store 93 = .ok (.invokevirtual 175, 3) := by decide +kernel
theorem dX5_store_96 : decode cX5_store 96 = .ok (.return_, 1) := by decide +kernel
theorem dX5_control_0 : decode cX5_control 0 = .ok (.iload_n 1, 1) := by decide +kernel
theorem dX5_control_1 : decode cX5_control 1 = .ok (.tableswitch 130 41 51 #[104, 130, 86, 79, 71, 130, 130, 130, 59, 71, 79], 59) := by decide +kernel
theorem dX5_control_60 : decode cX5_control 60 = .ok (.aload_n 0, 1) := by decide +kernel
theorem dX5_control_61 : decode cX5_control 61 = .ok (.getfield 13, 3) := by decide +kernel
theorem dX5_control_64 : decode cX5_control 64 = .ok (.iload_n 2, 1) := by decide +kernel
theorem dX5_control_65 : decode cX5_control 65 = .ok (.invokevirtual 114, 3) := by decide +kernel
theorem dX5_control_68 : decode cX5_control 68 = .ok (.pop, 1) := by decide +kernel
theorem dX5_control_69 : decode cX5_control 69 = .ok (.goto 75, 3) := by decide +kernel
theorem dX5_control_72 : decode cX5_control 72 = .ok (.aload_n 0, 1) := by decide +kernel
theorem dX5_control_73 : decode cX5_control 73 = .ok (.iload_n 2, 1) := by decide +kernel
theorem dX5_control_74 : decode cX5_control 74 = .ok (.invokevirtual 180, 3) := by decide +kernel
theorem dX5_control_77 : decode cX5_control 77 = .ok (.goto 67, 3) := by decide +kernel
theorem dX5_control_80 : decode cX5_control 80 = .ok (.aload_n 0, 1) := by decide +kernel
theorem dX5_control_81 : decode cX5_control 81 = .ok (.invokevirtual 183, 3) := by decide +kernel
theorem dX5_control_84 : decode cX5_control 84 = .ok (.goto 60, 3) := by decide +kernel
theorem dX5_control_87 : decode cX5_control 87 = .ok (.aload_n 0, 1) := by decide +kernel
theorem dX5_control_88 : decode cX5_control 88 = .ok (.getfield 13, 3) := by decide +kernel
theorem dX5_control_91 : decode cX5_control 91 = .ok (.aload_n 0, 1) := by decide +kernel
theorem dX5_control_92 : decode cX5_control 92 = .ok (.getfield 41, 3) := by decide +kernel
theorem dX5_control_95 : decode cX5_control 95 = .ok (.invokevirtual 186, 3) := by decide +kernel
theorem dX5_control_98 : decode cX5_control 98 = .ok (.invokevirtual 114, 3) := by decide +kernel
theorem dX5_control_101 : decode cX5_control 101 = .ok (.pop, 1) := by decide +kernel
theorem dX5_control_102 : decode cX5_control 102 = .ok (.goto 42, 3) := by decide +kernel
theorem dX5_control_105 : decode cX5_control 105 = .ok (.aload_n 0, 1) := by decide +kernel
theorem dX5_control_106 : decode cX5_control 106 = .ok (.getfield 13, 3) := by decide +kernel
theorem dX5_control_109 : decode cX5_control 109 = .ok (.invokevirtual 106, 3) := by decide +kernel
theorem dX5_control_112 : decode cX5_control 112 = .ok (.istore_n 3, 1) := by decide +kernel
theorem dX5_control_113 : decode cX5_control 113 = .ok (.aload_n 0, 1) := by decide +kernel
theorem dX5_control_114 : decode cX5_control 114 = .ok (.getfield 41, 3) := by decide +kernel
theorem dX5_control_117 : decode cX5_control 117 = .ok (.aload_n 0, 1) := by decide +kernel
theorem dX5_control_118 : decode cX5_control 118 = .ok (.getfield 13, 3) := by decide +kernel
theorem dX5_control_121 : decode cX5_control 121 = .ok (.invokevirtual 106, 3) := by decide +kernel
theorem dX5_control_124 : decode cX5_control 124 = .ok (.iload_n 3, 1) := by decide +kernel
theorem dX5_control_125 : decode cX5_control 125 = .ok (.invokevirtual 189, 3) := by decide +kernel
theorem dX5_control_128 : decode cX5_control 128 = .ok (.goto 16, 3) := by decide +kernel
theorem dX5_control_131 : decode cX5_control 131 = .ok (.aload_n 0, 1) := by decide +kernel
theorem dX5_control_132 : decode cX5_control 132 = .ok (.iload_n 1, 1) := by decide +kernel
theorem dX5_control_133 : decode cX5_control 133 = .ok (.invokevirtual 192, 3) := by decide +kernel
theorem dX5_control_136 : decode cX5_control 136 = .ok (.ifCond .eq 8, 3) := by decide +kernel
theorem dX5_control_139 : decode cX5_control 139 = .ok (.aload_n 0, 1) := by decide +kernel
theorem dX5_control_140 : decode cX5_control 140 = .ok (.iload_n 2, 1) := by decide +kernel
theorem dX5_control_141 : decode cX5_control 141 = .ok (.putfield 75, 3) := by decide +kernel
theorem dX5_control_144 : decode cX5_control 144 = .ok (.return_, 1) := by decide +kernel
theorem dX5_leads_0 : decode cX5_leads 0 = .ok (.iload_n 1, 1) := by decide +kernel
theorem dX5_leads_1 : decode cX5_leads 1 = .ok (.tableswitch 79 33 42 #[55, 79, 79, 79, 55, 79, 55, 79, 79, 71], 55) := by decide +kernel
theorem dX5_leads_56 : decode cX5_leads 56 = .ok (.aload_n 0, 1) := by decide +kernel
theorem dX5_leads_57 : decode cX5_leads 57 = .ok (.getfield 13, 3) := by decide +kernel
theorem dX5_leads_60 : decode cX5_leads 60 = .ok (.invokevirtual 106, 3) := by decide +kernel
theorem dX5_leads_63 : decode cX5_leads 63 = .ok (.ifCond .ne 7, 3) := by decide +kernel
theorem dX5_leads_66 : decode cX5_leads 66 = .ok (.iconst 1, 1) := by decide +kernel
theorem dX5_leads_67 : decode cX5_leads 67 = .ok (.goto 4, 3) := by decide +kernel
theorem dX5_leads_70 : decode cX5_leads 70 = .ok (.iconst 0, 1) := by decide +kernel
theorem dX5_leads_71 : decode cX5_leads 71 = .ok (.ireturn, 1) := by decide +kernel
theorem dX5_leads_72 : decode cX5_leads 72 = .ok (.aload_n 0, 1) := by decide +kernel
theorem dX5_leads_73 : decode cX5_leads 73 = .ok (.getfield 41, 3) := by decide +kernel
theorem dX5_leads_76 : decode cX5_leads 76 = .ok (.invokevirtual 195, 3) := by decide +kernel
theorem dX5_leads_79 : decode cX5_leads 79 = .ok (.ireturn, 1) := by decide +kernel
theorem dX5_leads_80 : decode cX5_leads 80 = .ok (.iload_n 1, 1) := by decide +kernel
theorem dX5_leads_81 : decode cX5_leads 81 = .ok (.bipush 34, 2) := by decide +kernel
theorem dX5_leads_83 : decode cX5_leads 83 = .ok (.if_icmp .eq 15, 3) := by decide +kernel
theorem dX5_leads_86 : decode cX5_leads 86 = .ok (.iload_n 1, 1) := by decide +kernel
theorem dX5_leads_87 : decode cX5_leads 87 = .ok (.bipush 38, 2) := by decide +kernel
theorem dX5_leads_89 : decode cX5_leads 89 = .ok (.if_icmp .eq 9, 3) := by decide +kernel
theorem dX5_leads_92 : decode cX5_leads 92 = .ok (.iload_n 1, 1) := by decide +kernel
theorem dX5_leads_93 : decode cX5_leads 93 = .ok (.bipush 40, 2) := by decide +kernel
theorem dX5_leads_95 : decode cX5_leads 95 = .ok (.if_icmp .ne 7, 3) := by decide +kernel
theorem dX5_leads_98 : decode cX5_leads 98 = .ok (.iconst 1, 1) := by decide +kernel
theorem dX5_leads_99 : decode cX5_leads 99 = .ok (.goto 4, 3) := by decide +kernel
theorem dX5_leads_102 : decode cX5_leads 102 = .ok (.iconst 0, 1) := by decide +kernel
theorem dX5_leads_103 : decode cX5_leads 103 = .ok (.ireturn, 1) := by decide +kernel
theorem dX5_enter_0 : decode cX5_enter 0 = .ok (.aload_n 0, 1) := by decide +kernel
theorem dX5_enter_1 : decode cX5_enter 1 = .ok (.getfield 58, 3) := by decide +kernel
theorem dX5_enter_4 : decode cX5_enter 4 = .ok (.ifCond .lt 80, 3) := by decide +kernel
theorem dX5_enter_7 : decode cX5_enter 7 = .ok (.aload_n 0, 1) := by decide +kernel
theorem dX5_enter_8 : decode cX5_enter 8 = .ok (.getfield 58, 3) := by decide +kernel
theorem dX5_enter_11 : decode cX5_enter 11 = .ok (.bipush 12, 2) := by decide +kernel
theorem dX5_enter_13 : decode cX5_enter 13 = .ok (.if_icmp .ge 71, 3) := by decide +kernel
theorem dX5_enter_16 : decode cX5_enter 16 = .ok (.aload_n 0, 1) := by decide +kernel
theorem dX5_enter_17 : decode cX5_enter 17 = .ok (.getfield 45, 3) := by decide +kernel
theorem dX5_enter_20 : decode cX5_enter 20 = .ok (.aload_n 0, 1) := by decide +kernel
theorem dX5_enter_21 : decode cX5_enter 21 = .ok (.getfield 58, 3) := by decide +kernel
theorem dX5_enter_24 : decode cX5_enter 24 = .ok (.aload_n 0, 1) := by decide +kernel
theorem dX5_enter_25 : decode cX5_enter 25 = .ok (.getfield 21, 3) := by decide +kernel
theorem dX5_enter_28 : decode cX5_enter 28 = .ok (.iload_n 1, 1) := by decide +kernel
theorem dX5_enter_29 : decode cX5_enter 29 = .ok (.invokevirtual 199, 3) := by decide +kernel
theorem dX5_enter_32 : decode cX5_enter 32 = .ok (.iastore, 1) := by decide +kernel
theorem dX5_enter_33 : decode cX5_enter 33 = .ok (.aload_n 0, 1) := by decide +kernel
theorem dX5_enter_34 : decode cX5_enter 34 = .ok (.getfield 48, 3) := by decide +kernel
theorem dX5_enter_37 : decode cX5_enter 37 = .ok (.aload_n 0, 1) := by decide +kernel
theorem dX5_enter_38 : decode cX5_enter 38 = .ok (.getfield 58, 3) := by decide +kernel
theorem dX5_enter_41 : decode cX5_enter 41 = .ok (.aload_n 0, 1) := by decide +kernel
theorem dX5_enter_42 : decode cX5_enter 42 = .ok (.getfield 75, 3) := by decide +kernel
theorem dX5_enter_45 : decode cX5_enter 45 = .ok (.iastore, 1) := by decide +kernel
theorem dX5_enter_46 : decode cX5_enter 46 = .ok (.aload_n 0, 1) := by decide +kernel
theorem dX5_enter_47 : decode cX5_enter 47 = .ok (.getfield 51, 3) := by decide +kernel
theorem dX5_enter_50 : decode cX5_enter 50 = .ok (.aload_n 0, 1) := by decide +kernel
theorem dX5_enter_51 : decode cX5_enter 51 = .ok (.getfield 58, 3) := by decide +kernel
theorem dX5_enter_54 : decode cX5_enter 54 = .ok (.aload_n 0, 1) := by decide +kernel
theorem dX5_enter_55 : decode cX5_enter 55 = .ok (.getfield 41, 3) := by decide +kernel
theorem dX5_enter_58 : decode cX5_enter 58 = .ok (.invokevirtual 145, 3) := by decide +kernel
theorem dX5_enter_61 : decode cX5_enter 61 = .ok (.iastore, 1) := by decide +kernel
theorem dX5_enter_62 : decode cX5_enter 62 = .ok (.aload_n 0, 1) := by decide +kernel
theorem dX5_enter_63 : decode cX5_enter 63 = .ok (.dup, 1) := by decide +kernel
theorem dX5_enter_64 : decode cX5_enter 64 = .ok (.getfield 58, 3) := by decide +kernel
theorem dX5_enter_67 : decode cX5_enter 67 = .ok (.iconst 1, 1) := by decide +kernel
theorem dX5_enter_68 : decode cX5_enter 68 = .ok (.iadd, 1) := by decide +kernel
theorem dX5_enter_69 : decode cX5_enter 69 = .ok (.putfield 58, 3) := by decide +kernel
theorem dX5_enter_72 : decode cX5_enter 72 = .ok (.aload_n 0, 1) := by decide +kernel
theorem dX5_enter_73 : decode cX5_enter 73 = .ok (.aload_n 0, 1) := by decide +kernel
theorem dX5_enter_74 : decode cX5_enter 74 = .ok (.getfield 21, 3) := by decide +kernel
theorem dX5_enter_77 : decode cX5_enter 77 = .ok (.iload_n 1, 1) := by decide +kernel
theorem dX5_enter_78 : decode cX5_enter 78 = .ok (.invokevirtual 202, 3) := by decide +kernel
theorem dX5_enter_81 : decode cX5_enter 81 = .ok (.putfield 75, 3) := by decide +kernel
theorem dX5_enter_84 : decode cX5_enter 84 = .ok (.return_, 1) := by decide +kernel
theorem dX5_leave_0 : decode cX5_leave 0 = .ok (.aload_n 0, 1) := by decide +kernel
theorem dX5_leave_1 : decode cX5_leave 1 = .ok (.getfield 58, 3) := by decide +kernel
theorem dX5_leave_4 : decode cX5_leave 4 = .ok (.ifCond .le 51, 3) := by decide +kernel
theorem dX5_leave_7 : decode cX5_leave 7 = .ok (.aload_n 0, 1) := by decide +kernel
theorem dX5_leave_8 : decode cX5_leave 8 = .ok (.getfield 58, 3) := by decide +kernel
theorem dX5_leave_11 : decode cX5_leave 11 = .ok (.bipush 12, 2) := by decide +kernel
theorem dX5_leave_13 : decode cX5_leave 13 = .ok (.if_icmp .gt 42, 3) := by decide +kernel
theorem dX5_leave_16 : decode cX5_leave 16 = .ok (.aload_n 0, 1) := by decide +kernel
theorem dX5_leave_17 : decode cX5_leave 17 = .ok (.dup, 1) := by decide +kernel
theorem dX5_leave_18 : decode cX5_leave 18 = .ok (.getfield 58, 3) := by decide +kernel
theorem dX5_leave_21 : decode cX5_leave 21 = .ok (.iconst 1, 1) := by decide +kernel
theorem dX5_leave_22 : decode cX5_leave 22 = .ok (.isub, 1) := by decide +kernel
theorem dX5_leave_23 : decode cX5_leave 23 = .ok (.putfield 58, 3) := by decide +kernel
theorem dX5_leave_26 : decode cX5_leave 26 = .ok (.aload_n 0, 1) := by decide +kernel
theorem dX5_leave_27 : decode cX5_leave 27 = .ok (.aload_n 0, 1) := by decide +kernel
theorem dX5_leave_28 : decode cX5_leave 28 = .ok (.getfield 48, 3) := by decide +kernel
theorem dX5_leave_31 : decode cX5_leave 31 = .ok (.aload_n 0, 1) := by decide +kernel
theorem dX5_leave_32 : decode cX5_leave 32 = .ok (.getfield 58, 3) := by decide +kernel
theorem dX5_leave_35 : decode cX5_leave 35 = .ok (.iaload, 1) := by decide +kernel
theorem dX5_leave_36 : decode cX5_leave 36 = .ok (.putfield 75, 3) := by decide +kernel
theorem dX5_leave_39 : decode cX5_leave 39 = .ok (.aload_n 0, 1) := by decide +kernel
theorem dX5_leave_40 : decode cX5_leave 40 = .ok (.getfield 41, 3) := by decide +kernel
theorem dX5_leave_43 : decode cX5_leave 43 = .ok (.aload_n 0, 1) := by decide +kernel
theorem dX5_leave_44 : decode cX5_leave 44 = .ok (.getfield 51, 3) := by decide +kernel
theorem dX5_leave_47 : decode cX5_leave 47 = .ok (.aload_n 0, 1) := by decide +kernel
theorem dX5_leave_48 : decode cX5_leave 48 = .ok (.getfield 58, 3) := by decide +kernel
theorem dX5_leave_51 : decode cX5_leave 51 = .ok (.iaload, 1) := by decide +kernel
theorem dX5_leave_52 : decode cX5_leave 52 = .ok (.invokevirtual 61, 3) := by decide +kernel
theorem dX5_leave_55 : decode cX5_leave 55 = .ok (.return_, 1) := by decide +kernel
theorem dX6_takes_0 : decode cX6_takes 0 = .ok (.iload_n 0, 1) := by decide +kernel
theorem dX6_takes_1 : decode cX6_takes 1 = .ok (.ifCond .lt 19, 3) := by decide +kernel
theorem dX6_takes_4 : decode cX6_takes 4 = .ok (.iload_n 0, 1) := by decide +kernel
theorem dX6_takes_5 : decode cX6_takes 5 = .ok (.getstatic 7, 3) := by decide +kernel
theorem dX6_takes_8 : decode cX6_takes 8 = .ok (.arraylength, 1) := by decide +kernel
theorem dX6_takes_9 : decode cX6_takes 9 = .ok (.if_icmp .ge 11, 3) := by decide +kernel
theorem dX6_takes_12 : decode cX6_takes 12 = .ok (.getstatic 7, 3) := by decide +kernel
theorem dX6_takes_15 : decode cX6_takes 15 = .ok (.iload_n 0, 1) := by decide +kernel
theorem dX6_takes_16 : decode cX6_takes 16 = .ok (.iaload, 1) := by decide +kernel
theorem dX6_takes_17 : decode cX6_takes 17 = .ok (.goto 4, 3) := by decide +kernel
theorem dX6_takes_20 : decode cX6_takes 20 = .ok (.iconst 0, 1) := by decide +kernel
theorem dX6_takes_21 : decode cX6_takes 21 = .ok (.ireturn, 1) := by decide +kernel
theorem dX6_gives_0 : decode cX6_gives 0 = .ok (.iload_n 0, 1) := by decide +kernel
theorem dX6_gives_1 : decode cX6_gives 1 = .ok (.ifCond .lt 19, 3) := by decide +kernel
theorem dX6_gives_4 : decode cX6_gives 4 = .ok (.iload_n 0, 1) := by decide +kernel
theorem dX6_gives_5 : decode cX6_gives 5 = .ok (.getstatic 13, 3) := by decide +kernel
theorem dX6_gives_8 : decode cX6_gives 8 = .ok (.arraylength, 1) := by decide +kernel
theorem dX6_gives_9 : decode cX6_gives 9 = .ok (.if_icmp .ge 11, 3) := by decide +kernel
theorem dX6_gives_12 : decode cX6_gives 12 = .ok (.getstatic 13, 3) := by decide +kernel
theorem dX6_gives_15 : decode cX6_gives 15 = .ok (.iload_n 0, 1) := by decide +kernel
theorem dX6_gives_16 : decode cX6_gives 16 = .ok (.iaload, 1) := by decide +kernel
theorem dX6_gives_17 : decode cX6_gives 17 = .ok (.goto 4, 3) := by decide +kernel
theorem dX6_gives_20 : decode cX6_gives 20 = .ok (.iconst 0, 1) := by decide +kernel
theorem dX6_gives_21 : decode cX6_gives 21 = .ok (.ireturn, 1) := by decide +kernel
theorem dX6_isPlain_0 : decode cX6_isPlain 0 = .ok (.iload_n 0, 1) := by decide +kernel
theorem dX6_isPlain_1 : decode cX6_isPlain 1 = .ok (.ifCond .lt 13, 3) := by decide +kernel
theorem dX6_isPlain_4 : decode cX6_isPlain 4 = .ok (.iload_n 0, 1) := by decide +kernel
theorem dX6_isPlain_5 : decode cX6_isPlain 5 = .ok (.bipush 32, 2) := by decide +kernel
theorem dX6_isPlain_7 : decode cX6_isPlain 7 = .ok (.if_icmp .gt 7, 3) := by decide +kernel
theorem dX6_isPlain_10 : decode cX6_isPlain 10 = .ok (.iconst 1, 1) := by decide +kernel
theorem dX6_isPlain_11 : decode cX6_isPlain 11 = .ok (.goto 4, 3) := by decide +kernel
theorem dX6_isPlain_14 : decode cX6_isPlain 14 = .ok (.iconst 0, 1) := by decide +kernel
theorem dX6_isPlain_15 : decode cX6_isPlain 15 = .ok (.ireturn, 1) := by decide +kernel
theorem dX6_isStackWord_0 : decode cX6_isStackWord 0 = .ok (.iload_n 0, 1) := by decide +kernel
theorem dX6_isStackWord_1 : decode cX6_isStackWord 1 = .ok (.ifCond .lt 13, 3) := by decide +kernel
theorem dX6_isStackWord_4 : decode cX6_isStackWord 4 = .ok (.iload_n 0, 1) := by decide +kernel
theorem dX6_isStackWord_5 : decode cX6_isStackWord 5 = .ok (.bipush 8, 2) := by decide +kernel
theorem dX6_isStackWord_7 : decode cX6_isStackWord 7 = .ok (.if_icmp .gt 7, 3) := by decide +kernel
theorem dX6_isStackWord_10 : decode cX6_isStackWord 10 = .ok (.iconst 1, 1) := by decide +kernel
theorem dX6_isStackWord_11 : decode cX6_isStackWord 11 = .ok (.goto 4, 3) := by decide +kernel
theorem dX6_isStackWord_14 : decode cX6_isStackWord 14 = .ok (.iconst 0, 1) := by decide +kernel
theorem dX6_isStackWord_15 : decode cX6_isStackWord 15 = .ok (.ireturn, 1) := by decide +kernel
theorem dX6_isPairWord_0 : decode cX6_isPairWord 0 = .ok (.iload_n 0, 1) := by decide +kernel
theorem dX6_isPairWord_1 : decode cX6_isPairWord 1 = .ok (.bipush 9, 2) := by decide +kernel
theorem dX6_isPairWord_3 : decode cX6_isPairWord 3 = .ok (.if_icmp .lt 13, 3) := by decide +kernel
theorem dX6_isPairWord_6 : decode cX6_isPairWord 6 = .ok (.iload_n 0, 1) := by decide +kernel
theorem dX6_isPairWord_7 : decode cX6_isPairWord 7 = .ok (.bipush 23, 2) := by decide +kernel
theorem dX6_isPairWord_9 : decode cX6_isPairWord 9 = .ok (.if_icmp .gt 7, 3) := by decide +kernel
theorem dX6_isPairWord_12 : decode cX6_isPairWord 12 = .ok (.iconst 1, 1) := by decide +kernel
theorem dX6_isPairWord_13 : decode cX6_isPairWord 13 = .ok (.goto 4, 3) := by decide +kernel
theorem dX6_isPairWord_16 : decode cX6_isPairWord 16 = .ok (.iconst 0, 1) := by decide +kernel
theorem dX6_isPairWord_17 : decode cX6_isPairWord 17 = .ok (.ireturn, 1) := by decide +kernel
theorem dX6_isLoneWord_0 : decode cX6_isLoneWord 0 = .ok (.iload_n 0, 1) := by decide +kernel
theorem dX6_isLoneWord_1 : decode cX6_isLoneWord 1 = .ok (.bipush 24, 2) := by decide +kernel
theorem dX6_isLoneWord_3 : decode cX6_isLoneWord 3 = .ok (.if_icmp .lt 13, 3) := by decide +kernel
theorem dX6_isLoneWord_6 : decode cX6_isLoneWord 6 = .ok (.iload_n 0, 1) := by decide +kernel
theorem dX6_isLoneWord_7 : decode cX6_isLoneWord 7 = .ok (.bipush 28, 2) := by decide +kernel
theorem dX6_isLoneWord_9 : decode cX6_isLoneWord 9 = .ok (.if_icmp .gt 7, 3) := by decide +kernel
theorem dX6_isLoneWord_12 : decode cX6_isLoneWord 12 = .ok (.iconst 1, 1) := by decide +kernel
theorem dX6_isLoneWord_13 : decode cX6_isLoneWord 13 = .ok (.goto 4, 3) := by decide +kernel
theorem dX6_isLoneWord_16 : decode cX6_isLoneWord 16 = .ok (.iconst 0, 1) := by decide +kernel
theorem dX6_isLoneWord_17 : decode cX6_isLoneWord 17 = .ok (.ireturn, 1) := by decide +kernel
theorem dX6_isStoreWord_0 : decode cX6_isStoreWord 0 = .ok (.iload_n 0, 1) := by decide +kernel
theorem dX6_isStoreWord_1 : decode cX6_isStoreWord 1 = .ok (.bipush 29, 2) := by decide +kernel
theorem dX6_isStoreWord_3 : decode cX6_isStoreWord 3 = .ok (.if_icmp .lt 13, 3) := by decide +kernel
theorem dX6_isStoreWord_6 : decode cX6_isStoreWord 6 = .ok (.iload_n 0, 1) := by decide +kernel
theorem dX6_isStoreWord_7 : decode cX6_isStoreWord 7 = .ok (.bipush 32, 2) := by decide +kernel
theorem dX6_isStoreWord_9 : decode cX6_isStoreWord 9 = .ok (.if_icmp .gt 7, 3) := by decide +kernel
theorem dX6_isStoreWord_12 : decode cX6_isStoreWord 12 = .ok (.iconst 1, 1) := by decide +kernel
theorem dX6_isStoreWord_13 : decode cX6_isStoreWord 13 = .ok (.goto 4, 3) := by decide +kernel
theorem dX6_isStoreWord_16 : decode cX6_isStoreWord 16 = .ok (.iconst 0, 1) := by decide +kernel
theorem dX6_isStoreWord_17 : decode cX6_isStoreWord 17 = .ok (.ireturn, 1) := by decide +kernel
theorem dX6_isStep_0 : decode cX6_isStep 0 = .ok (.iload_n 0, 1) := by decide +kernel
theorem dX6_isStep_1 : decode cX6_isStep 1 = .ok (.bipush 34, 2) := by decide +kernel
theorem dX6_isStep_3 : decode cX6_isStep 3 = .ok (.if_icmp .eq 19, 3) := by decide +kernel
theorem dX6_isStep_6 : decode cX6_isStep 6 = .ok (.iload_n 0, 1) := by decide +kernel
theorem dX6_isStep_7 : decode cX6_isStep 7 = .ok (.bipush 35, 2) := by decide +kernel
theorem dX6_isStep_9 : decode cX6_isStep 9 = .ok (.if_icmp .eq 13, 3) := by decide +kernel
theorem dX6_isStep_12 : decode cX6_isStep 12 = .ok (.iload_n 0, 1) := by decide +kernel
theorem dX6_isStep_13 : decode cX6_isStep 13 = .ok (.bipush 36, 2) := by decide +kernel
theorem dX6_isStep_15 : decode cX6_isStep 15 = .ok (.if_icmp .eq 7, 3) := by decide +kernel
theorem dX6_isStep_18 : decode cX6_isStep 18 = .ok (.iconst 1, 1) := by decide +kernel
theorem dX6_isStep_19 : decode cX6_isStep 19 = .ok (.goto 4, 3) := by decide +kernel
theorem dX6_isStep_22 : decode cX6_isStep 22 = .ok (.iconst 0, 1) := by decide +kernel
theorem dX6_isStep_23 : decode cX6_isStep 23 = .ok (.ireturn, 1) := by decide +kernel
theorem dX7_init_0 : decode cX7_init 0 = .ok (.aload_n 0, 1) := by decide +kernel
theorem dX7_init_1 : decode cX7_init 1 = .ok (.invokespecial 1, 3) := by decide +kernel
theorem dX7_init_4 : decode cX7_init 4 = .ok (.aload_n 0, 1) := by decide +kernel
theorem dX7_init_5 : decode cX7_init 5 = .ok (.bipush 32, 2) := by decide +kernel
theorem dX7_init_7 : decode cX7_init 7 = .ok (.newarray .int, 2) := by decide +kernel
theorem dX7_init_9 : decode cX7_init 9 = .ok (.putfield 9, 3) := by decide +kernel
theorem dX7_init_12 : decode cX7_init 12 = .ok (.return_, 1) := by decide +kernel
theorem dX7_size_0 : decode cX7_size 0 = .ok (.aload_n 0, 1) := by decide +kernel
theorem dX7_size_1 : decode cX7_size 1 = .ok (.getfield 13, 3) := by decide +kernel
theorem dX7_size_4 : decode cX7_size 4 = .ok (.ireturn, 1) := by decide +kernel
theorem dX7_empty_0 : decode cX7_empty 0 = .ok (.aload_n 0, 1) := by decide +kernel
theorem dX7_empty_1 : decode cX7_empty 1 = .ok (.iconst 0, 1) := by decide +kernel
theorem dX7_empty_2 : decode cX7_empty 2 = .ok (.putfield 13, 3) := by decide +kernel
theorem dX7_empty_5 : decode cX7_empty 5 = .ok (.return_, 1) := by decide +kernel
theorem dX7_has_0 : decode cX7_has 0 = .ok (.iload_n 1, 1) := by decide +kernel
theorem dX7_has_1 : decode cX7_has 1 = .ok (.ifCond .lt 15, 3) := by decide +kernel
theorem dX7_has_4 : decode cX7_has 4 = .ok (.iload_n 1, 1) := by decide +kernel
theorem dX7_has_5 : decode cX7_has 5 = .ok (.aload_n 0, 1) := by decide +kernel
theorem dX7_has_6 : decode cX7_has 6 = .ok (.getfield 13, 3) := by decide +kernel
theorem dX7_has_9 : decode cX7_has 9 = .ok (.if_icmp .ge 7, 3) := by decide +kernel
theorem dX7_has_12 : decode cX7_has 12 = .ok (.iconst 1, 1) := by decide +kernel
theorem dX7_has_13 : decode cX7_has 13 = .ok (.goto 4, 3) := by decide +kernel
theorem dX7_has_16 : decode cX7_has 16 = .ok (.iconst 0, 1) := by decide +kernel
theorem dX7_has_17 : decode cX7_has 17 = .ok (.ireturn, 1) := by decide +kernel
theorem dX7_put_0 : decode cX7_put 0 = .ok (.aload_n 0, 1) := by decide +kernel
theorem dX7_put_1 : decode cX7_put 1 = .ok (.getfield 13, 3) := by decide +kernel
theorem dX7_put_4 : decode cX7_put 4 = .ok (.ifCond .lt 15, 3) := by decide +kernel
theorem dX7_put_7 : decode cX7_put 7 = .ok (.aload_n 0, 1) := by decide +kernel
theorem dX7_put_8 : decode cX7_put 8 = .ok (.getfield 13, 3) := by decide +kernel
theorem dX7_put_11 : decode cX7_put 11 = .ok (.aload_n 0, 1) := by decide +kernel
theorem dX7_put_12 : decode cX7_put 12 = .ok (.getfield 9, 3) := by decide +kernel
theorem dX7_put_15 : decode cX7_put 15 = .ok (.arraylength, 1) := by decide +kernel
theorem dX7_put_16 : decode cX7_put 16 = .ok (.if_icmp .lt 5, 3) := by decide +kernel
theorem dX7_put_19 : decode cX7_put 19 = .ok (.iconst 0, 1) := by decide +kernel
theorem dX7_put_20 : decode cX7_put 20 = .ok (.ireturn, 1) := by decide +kernel
theorem dX7_put_21 : decode cX7_put 21 = .ok (.aload_n 0, 1) := by decide +kernel
theorem dX7_put_22 : decode cX7_put 22 = .ok (.getfield 9, 3) := by decide +kernel
theorem dX7_put_25 : decode cX7_put 25 = .ok (.aload_n 0, 1) := by decide +kernel
theorem dX7_put_26 : decode cX7_put 26 = .ok (.getfield 13, 3) := by decide +kernel
theorem dX7_put_29 : decode cX7_put 29 = .ok (.iload_n 1, 1) := by decide +kernel
theorem dX7_put_30 : decode cX7_put 30 = .ok (.iastore, 1) := by decide +kernel
theorem dX7_put_31 : decode cX7_put 31 = .ok (.aload_n 0, 1) := by decide +kernel
theorem dX7_put_32 : decode cX7_put 32 = .ok (.dup, 1) := by decide +kernel
theorem dX7_put_33 : decode cX7_put 33 = .ok (.getfield 13, 3) := by decide +kernel
theorem dX7_put_36 : decode cX7_put 36 = .ok (.iconst 1, 1) := by decide +kernel
theorem dX7_put_37 : decode cX7_put 37 = .ok (.iadd, 1) := by decide +kernel
theorem dX7_put_38 : decode cX7_put 38 = .ok (.putfield 13, 3) := by decide +kernel
theorem dX7_put_41 : decode cX7_put 41 = .ok (.iconst 1, 1) := by decide +kernel
theorem dX7_put_42 : decode cX7_put 42 = .ok (.ireturn, 1) := by decide +kernel
theorem dX7_take_0 : decode cX7_take 0 = .ok (.aload_n 0, 1) := by decide +kernel
theorem dX7_take_1 : decode cX7_take 1 = .ok (.getfield 13, 3) := by decide +kernel
theorem dX7_take_4 : decode cX7_take 4 = .ok (.ifCond .le 15, 3) := by decide +kernel
theorem dX7_take_7 : decode cX7_take 7 = .ok (.aload_n 0, 1) := by decide +kernel
theorem dX7_take_8 : decode cX7_take 8 = .ok (.getfield 13, 3) := by decide +kernel
theorem dX7_take_11 : decode cX7_take 11 = .ok (.aload_n 0, 1) := by decide +kernel
theorem dX7_take_12 : decode cX7_take 12 = .ok (.getfield 9, 3) := by decide +kernel
theorem dX7_take_15 : decode cX7_take 15 = .ok (.arraylength, 1) := by decide +kernel
theorem dX7_take_16 : decode cX7_take 16 = .ok (.if_icmp .le 5, 3) := by decide +kernel
theorem dX7_take_19 : decode cX7_take 19 = .ok (.iconst 0, 1) := by decide +kernel
theorem dX7_take_20 : decode cX7_take 20 = .ok (.ireturn, 1) := by decide +kernel
theorem dX7_take_21 : decode cX7_take 21 = .ok (.aload_n 0, 1) := by decide +kernel
theorem dX7_take_22 : decode cX7_take 22 = .ok (.dup, 1) := by decide +kernel
theorem dX7_take_23 : decode cX7_take 23 = .ok (.getfield 13, 3) := by decide +kernel
theorem dX7_take_26 : decode cX7_take 26 = .ok (.iconst 1, 1) := by decide +kernel
theorem dX7_take_27 : decode cX7_take 27 = .ok (.isub, 1) := by decide +kernel
theorem dX7_take_28 : decode cX7_take 28 = .ok (.putfield 13, 3) := by decide +kernel
theorem dX7_take_31 : decode cX7_take 31 = .ok (.aload_n 0, 1) := by decide +kernel
theorem dX7_take_32 : decode cX7_take 32 = .ok (.getfield 9, 3) := by decide +kernel
theorem dX7_take_35 : decode cX7_take 35 = .ok (.aload_n 0, 1) := by decide +kernel
theorem dX7_take_36 : decode cX7_take 36 = .ok (.getfield 13, 3) := by decide +kernel
theorem dX7_take_39 : decode cX7_take 39 = .ok (.iaload, 1) := by decide +kernel
theorem dX7_take_40 : decode cX7_take 40 = .ok (.ireturn, 1) := by decide +kernel
theorem dX7_drop_0 : decode cX7_drop 0 = .ok (.iload_n 1, 1) := by decide +kernel
theorem dX7_drop_1 : decode cX7_drop 1 = .ok (.ifCond .lt 21, 3) := by decide +kernel
theorem dX7_drop_4 : decode cX7_drop 4 = .ok (.iload_n 1, 1) := by decide +kernel
theorem dX7_drop_5 : decode cX7_drop 5 = .ok (.aload_n 0, 1) := by decide +kernel
theorem dX7_drop_6 : decode cX7_drop 6 = .ok (.getfield 13, 3) := by decide +kernel
theorem dX7_drop_9 : decode cX7_drop 9 = .ok (.if_icmp .gt 13, 3) := by decide +kernel
theorem dX7_drop_12 : decode cX7_drop 12 = .ok (.aload_n 0, 1) := by decide +kernel
theorem dX7_drop_13 : decode cX7_drop 13 = .ok (.dup, 1) := by decide +kernel
theorem dX7_drop_14 : decode cX7_drop 14 = .ok (.getfield 13, 3) := by decide +kernel
theorem dX7_drop_17 : decode cX7_drop 17 = .ok (.iload_n 1, 1) := by decide +kernel
theorem dX7_drop_18 : decode cX7_drop 18 = .ok (.isub, 1) := by decide +kernel
theorem dX7_drop_19 : decode cX7_drop 19 = .ok (.putfield 13, 3) := by decide +kernel
theorem dX7_drop_22 : decode cX7_drop 22 = .ok (.return_, 1) := by decide +kernel
theorem dX7_fromTop_0 : decode cX7_fromTop 0 = .ok (.iload_n 1, 1) := by decide +kernel
theorem dX7_fromTop_1 : decode cX7_fromTop 1 = .ok (.ifCond .lt 39, 3) := by decide +kernel
theorem dX7_fromTop_4 : decode cX7_fromTop 4 = .ok (.iload_n 1, 1) := by decide +kernel
theorem dX7_fromTop_5 : decode cX7_fromTop 5 = .ok (.aload_n 0, 1) := by decide +kernel
theorem dX7_fromTop_6 : decode cX7_fromTop 6 = .ok (.getfield 13, 3) := by decide +kernel
theorem dX7_fromTop_9 : decode cX7_fromTop 9 = .ok (.if_icmp .ge 31, 3) := by decide +kernel
theorem dX7_fromTop_12 : decode cX7_fromTop 12 = .ok (.aload_n 0, 1) := by decide +kernel
theorem dX7_fromTop_13 : decode cX7_fromTop 13 = .ok (.getfield 13, 3) := by decide +kernel
theorem dX7_fromTop_16 : decode cX7_fromTop 16 = .ok (.aload_n 0, 1) := by decide +kernel
theorem dX7_fromTop_17 : decode cX7_fromTop 17 = .ok (.getfield 9, 3) := by decide +kernel
theorem dX7_fromTop_20 : decode cX7_fromTop 20 = .ok (.arraylength, 1) := by decide +kernel
theorem dX7_fromTop_21 : decode cX7_fromTop 21 = .ok (.if_icmp .gt 19, 3) := by decide +kernel
theorem dX7_fromTop_24 : decode cX7_fromTop 24 = .ok (.aload_n 0, 1) := by decide +kernel
theorem dX7_fromTop_25 : decode cX7_fromTop 25 = .ok (.getfield 9, 3) := by decide +kernel
theorem dX7_fromTop_28 : decode cX7_fromTop 28 = .ok (.aload_n 0, 1) := by decide +kernel
theorem dX7_fromTop_29 : decode cX7_fromTop 29 = .ok (.getfield 13, 3) := by decide +kernel
theorem dX7_fromTop_32 : decode cX7_fromTop 32 = .ok (.iconst 1, 1) := by decide +kernel
theorem dX7_fromTop_33 : decode cX7_fromTop 33 = .ok (.isub, 1) := by decide +kernel
theorem dX7_fromTop_34 : decode cX7_fromTop 34 = .ok (.iload_n 1, 1) := by decide +kernel
theorem dX7_fromTop_35 : decode cX7_fromTop 35 = .ok (.isub, 1) := by decide +kernel
theorem dX7_fromTop_36 : decode cX7_fromTop 36 = .ok (.iaload, 1) := by decide +kernel
theorem dX7_fromTop_37 : decode cX7_fromTop 37 = .ok (.goto 4, 3) := by decide +kernel
theorem dX7_fromTop_40 : decode cX7_fromTop 40 = .ok (.iconst 0, 1) := by decide +kernel
theorem dX7_fromTop_41 : decode cX7_fromTop 41 = .ok (.ireturn, 1) := by decide +kernel
